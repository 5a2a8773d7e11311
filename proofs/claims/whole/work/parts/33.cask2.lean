/-! ===== the component: the asker reads somebody's code ===== -/
def kOf (t : Nat) : Nat := if t = 3 then 43 else if t = 4 then 45 else if t = 5 then 42 else if t = 6 then 47 else if t = 7 then 60 else if t = 8 then 62 else if t = 9 then 61 else if t = 10 then 4 else if t = 11 then 5 else 6
def encO (o : Op) : List Int := if o.1 = 0 then [(o.2 : Int)] else if o.1 = 1 then [-((8 + o.2 : Nat) : Int)] else if o.1 = 2 then [(o.2 : Int), -((7 : Nat) : Int)] else [-(kOf o.1 : Int)]
def encL (ops : List Op) : List Int := ops.flatMap encO
def encS (s : Stm) : List Int := encL s.2.1 ++ ((if s.2.2 = [] then [(1 : Int)] else encL s.2.2) ++ [-((1 + s.1 : Nat) : Int)])
def enc (S : List Stm) : List Int := S.flatMap encS
/-- a person's code, and what the asker needs beside it -/
def CR (σ : St) (w : Wd) (j p : Nat) (C : List Int) : Prop := RP σ w ∧ gI σ p 4 = nI C.length ∧ gI σ p 1 = nI (w.dn j) ∧ ∀ i c, C[i]? = some c → (gI σ (p + 1) i).toInt = c
theorem CR.st {m : Md} {σ σ' : St} {w : Wd} {j p : Nat} {C : List Int} (h : CR σ w j p C) (hf : Fr m σ σ') (ho : (okP m && noP m) = true) (hp : P0 ≤ p) : CR σ' w j p C := by
  rw [Bool.and_eq_true] at ho
  obtain ⟨h1, h2, h3, h4⟩ := h
  refine ⟨h1.st hf ho.1, ?_, ?_, fun i c hi => ?_⟩
  · rw [hf.per ho.2 hp]; exact h2
  · rw [hf.per ho.2 hp]; exact h3
  · rw [hf.per ho.2 (by omega)]; exact h4 i c hi
section AskLoop
variable {d n : Nat} {σ0 : St} {w : Wd} {j p b : Nat} {C : List Int} {Q : St → Prop}
theorem ask_push {σ : St} {t a : Nat} {s : List Int} {z : Int} {nv : Bool} (hn : FIX ≤ n) (hd : 4 ≤ d) (hp : IsP n p) (hC : C.length ≤ 400) (h : AK σ w j b s z nv) (hr : CR σ w j p C) (hl : s.length < 60) (hc : C[t]? = some (a : Int)) (ha : a ≤ 99999)
    (k : ∀ σ', AK σ' w j b ((a : Int) :: s) z nv → CR σ' w j p C → K_X0_ask_30 d n σ0 Q σ' p (nI b) (nI (t + 1))) : K_X0_ask_30 d n σ0 Q σ p (nI b) (nI t) := by
  have ht : t < C.length := (List.getElem?_eq_some_iff.mp hc).1
  have hv := hr.2.2.2 t _ hc
  refine B_X0_ask_30 hn (by omega) hp ⟨fun h1 => absurd (by rw [hr.2.1] at h1; exact h1) (nI_ge ht (by omega)), fun _ => ⟨vp_in_nI (by omega) (by decide), ?_⟩⟩
  rw [nI_clamp (by omega), nI_1]
  refine ⟨fun h0 => ?_, fun _ => ⟨_, push_spec hn h.stk (by omega), ?_⟩⟩
  · have := lt_ti.mp h0
    rw [hv] at this
    have z0 : (0 : Int32).toInt = 0 := by decide
    omega
  · intro σ1 hs hf
    rw [hv] at hs
    exact k σ1 (h.push hf hs) (hr.st hf (by decide) hp.1)
theorem ask_app {σ : St} {t k : Nat} {s s' : List Int} {z z' : Int} {nv nv' : Bool} (hn : FIX ≤ n) (hd : 4 ≤ d) (hw : WW w) (hb : b < 1024) (hp : IsP n p) (hC : C.length ≤ 400) (h : AK σ w j b s z nv) (hr : CR σ w j p C) (hl : s.length < 60) (hc : C[t]? = some (-(k : Int))) (hk0 : 0 < k) (hk1 : k < 100) (hk : kSt w j b k s z nv s' z' nv')
    (kk : ∀ σ', AK σ' w j b s' z' nv' → CR σ' w j p C → K_X0_ask_30 d n σ0 Q σ' p (nI b) (nI (t + 1))) : K_X0_ask_30 d n σ0 Q σ p (nI b) (nI t) := by
  have ht : t < C.length := (List.getElem?_eq_some_iff.mp hc).1
  have hv := hr.2.2.2 t _ hc
  have z0 : (0 : Int32).toInt = 0 := by decide
  have ev : -(gI σ (p + 1) t) = nI k := eq_ti.mpr (by rw [ti_neg (by rw [hv]; omega), hv, nI_toInt (by omega)]; omega)
  refine B_X0_ask_30 hn (by omega) hp ⟨fun h1 => absurd (by rw [hr.2.1] at h1; exact h1) (nI_ge ht (by omega)), fun _ => ⟨vp_in_nI (by omega) (by decide), ?_⟩⟩
  rw [nI_clamp (by omega), nI_1, ev]
  refine ⟨fun _ => ⟨_, apply_spec hn (by omega) hw hb h hl hk, ?_⟩, fun h0 => absurd (lt_ti.mpr (by rw [hv, z0]; omega)) h0⟩
  intro σ1 hs hf
  exact kk σ1 hs (hr.st hf (by decide) hp.1)
theorem kOf_num {t : Nat} (h : 3 ≤ t ∧ t ≤ 12) : 0 < kOf t ∧ kOf t < 100 := by
  unfold kOf
  repeat' split
  all_goals omega
theorem jop_bop {t : Nat} {x y : Int} (h : 3 ≤ t ∧ t ≤ 11) : jop (kOf t) x y = bop t x y := by
  rcases (show t = 3 ∨ t = 4 ∨ t = 5 ∨ t = 6 ∨ t = 7 ∨ t = 8 ∨ t = 9 ∨ t = 10 ∨ t = 11 by omega) with e | e | e | e | e | e | e | e | e <;> subst e <;> rfl
theorem jOk_of {t : Nat} {x y : Int} (h : opOk t x y) : jOk (kOf t) x y := by
  rcases h with ⟨h1, h2, h3⟩ | ⟨h1, h2⟩
  · left
    refine ⟨?_, h3⟩
    rcases (show t = 3 ∨ t = 4 ∨ t = 5 ∨ t = 6 ∨ t = 7 ∨ t = 8 ∨ t = 9 by omega) with e | e | e | e | e | e | e <;> subst e <;> simp [kOf]
  · right
    refine ⟨?_, h2⟩
    rcases h1 with e | e <;> subst e <;> simp [kOf]
theorem at_app {C A B D : List Int} (h : C = A ++ (B ++ D)) {i : Nat} {c : Int} (hi : B[i]? = some c) : C[A.length + i]? = some c := by
  rw [h, List.getElem?_append_right (by omega), Nat.add_sub_cancel_left, List.getElem?_append_left (List.getElem?_eq_some_iff.mp hi).1]; exact hi
theorem ask_ops (hn : FIX ≤ n) (hd : 4 ≤ d) (hw : WW w) (hb : b < 1024) (hp : IsP n p) (hC : C.length ≤ 400) {z : Int} {nv : Bool} : ∀ (ops : List Op) (A D : List Int) (s : List Int) (ts us : List Bool) (σ : St), C = A ++ (encL ops ++ D) → tcL 45 ops ts = some us → ts.length ≤ 45 → VS ts s → AK σ w j b s z nv → CR σ w j p C →
    (∀ σ', AK σ' w j b (evl (wrd w j b) b ops s) z nv → CR σ' w j p C → K_X0_ask_30 d n σ0 Q σ' p (nI b) (nI (A ++ encL ops).length)) → K_X0_ask_30 d n σ0 Q σ p (nI b) (nI A.length) := by
  intro ops
  induction ops with
  | nil =>
    intro A D s ts us σ _ _ _ _ hA hr hk
    have := hk σ hA hr
    simpa [encL] using this
  | cons o os ih =>
    intro A D s ts us σ hCe htc htl hv hA hr hk
    simp only [tcL] at htc
    have hsl := VS_len hv
    cases ho : tcO 45 o ts with
    | none => rw [ho] at htc; cases htc
    | some vs =>
      rw [ho] at htc
      have htc : tcL 45 os vs = some us := htc
      have htg := tag_lt ho
      have hvs : VS vs (op1 (wrd w j b) b o s) := tc_step (fun k => wrd_rng hw) hv ho
      have hvl : vs.length ≤ 45 := tcO_len ho htl
      have hCe2 : C = A ++ (encO o ++ (encL os ++ D)) := by rw [hCe]; simp [encL]
      have hCe3 : C = (A ++ encO o) ++ (encL os ++ D) := by rw [hCe2]; simp
      have fin : ∀ σ', AK σ' w j b (op1 (wrd w j b) b o s) z nv → CR σ' w j p C → K_X0_ask_30 d n σ0 Q σ' p (nI b) (nI (A ++ encO o).length) := by
        intro σ' h1 h2
        refine ih (A ++ encO o) D _ vs us σ' hCe3 htc hvl hvs h1 h2 (fun σ2 g1 g2 => ?_)
        have := hk σ2 g1 g2
        rw [show (A ++ encL (o :: os)).length = (A ++ encO o ++ encL os).length by simp [encL]] at this
        exact this
      obtain ⟨t, a⟩ := o
      by_cases h0 : t = 0
      · subst h0
        have ha : a ≤ 99999 := by unfold tcO at ho; simp at ho; exact ho.1.1
        have hc0 : C[A.length + 0]? = some (a : Int) := at_app hCe2 (by simp [encO])
        refine ask_push hn hd hp hC hA hr (by omega) hc0 ha (fun σ' g1 g2 => ?_)
        have := fin σ' (by simpa [op1] using g1) g2
        simpa [encO] using this
      · by_cases h1 : t = 1
        · subst h1
          have ha : a < 6 := by unfold tcO at ho; simp at ho; exact ho.1.1
          have hc0 : C[A.length + 0]? = some (-((8 + a : Nat) : Int)) := at_app hCe2 (by simp [encO])
          refine ask_app (k := 8 + a) hn hd hw hb hp hC hA hr (by omega) hc0 (by omega) (by omega) (Or.inl ⟨by omega, by omega, rfl, rfl, rfl⟩) (fun σ' g1 g2 => ?_)
          have := fin σ' (by simpa [op1] using g1) g2
          simpa [encO] using this
        · by_cases h2 : t = 2
          · subst h2
            have ha : a < 10 := by unfold tcO at ho; simp at ho; exact ho.1.1
            have hc0 : C[A.length + 0]? = some (a : Int) := at_app hCe2 (by simp [encO])
            have hc1 : C[A.length + 1]? = some (-((7 : Nat) : Int)) := at_app hCe2 (by simp [encO])
            refine ask_push hn hd hp hC hA hr (by omega) hc0 (by omega) (fun σ' g1 g2 => ?_)
            refine ask_app (k := 7) hn hd hw hb hp hC g1 g2 (by simp; omega) hc1 (by omega) (by omega) (Or.inr (Or.inl ⟨rfl, a, s, ha, rfl, rfl, rfl, rfl⟩)) (fun σ2 g3 g4 => ?_)
            have := fin σ2 (by simpa [op1] using g3) g4
            simpa [encO] using this
          · have hc0 : C[A.length + 0]? = some (-((kOf t : Nat) : Int)) := at_app hCe2 (by simp [encO, h0, h1, h2])
            have hkn := kOf_num (t := t) (by simp only at htg; omega)
            by_cases h12 : t = 12
            · subst h12
              obtain ⟨x, r, rfl, hx01⟩ := not_shape ho hv
              refine ask_app (k := 6) hn hd hw hb hp hC hA hr (by omega) hc0 (by omega) (by omega) (Or.inr (Or.inr (Or.inl ⟨rfl, x, r, hx01, rfl, rfl, rfl, rfl⟩))) (fun σ' g1 g2 => ?_)
              have := fin σ' (by simpa [op1] using g1) g2
              simpa [encO] using this
            · simp only at htg
              obtain ⟨y, x, r, rfl, hop⟩ := bin_shape (by omega) (by omega) ho hv
              refine ask_app (k := kOf t) hn hd hw hb hp hC hA hr (by omega) hc0 (by omega) (by omega) (Or.inr (Or.inr (Or.inr (Or.inl ⟨x, y, r, jOk_of hop, rfl, rfl, rfl, rfl⟩)))) (fun σ' g1 g2 => ?_)
              rw [jop_bop (by omega)] at g1
              have := fin σ' (by simpa [op1, h0, h1, h2, h12] using g1) g2
              simpa [encO, h0, h1, h2] using this
end AskLoop
theorem tcO_ext {B : Nat} {o : Op} {ts us base : List Bool} (h : tcO B o ts = some us) : tcO (B + base.length) o (ts ++ base) = some (us ++ base) := by
  obtain ⟨t, a⟩ := o
  by_cases h0 : t = 0
  · subst h0
    simp [tcO] at h ⊢
    obtain ⟨⟨ha, hb⟩, rfl⟩ := h
    exact ⟨⟨ha, by omega⟩, rfl⟩
  · by_cases h1 : t = 1
    · subst h1
      simp [tcO] at h ⊢
      obtain ⟨⟨ha, hb⟩, rfl⟩ := h
      exact ⟨⟨ha, by omega⟩, rfl⟩
    · by_cases h2 : t = 2
      · subst h2
        simp [tcO] at h ⊢
        obtain ⟨⟨ha, hb⟩, rfl⟩ := h
        exact ⟨⟨ha, by omega⟩, rfl⟩
      · unfold tcO at h ⊢
        simp only [h0, h1, h2, if_false] at h ⊢
        by_cases h12 : t = 12
        · simp only [h12, if_true] at h ⊢
          match ts, h with
          | false :: t, h => cases h; rfl
          | true :: t, h => cases h
          | [], h => cases h
        · simp only [h12, if_false] at h ⊢
          by_cases hA : t = 10 ∨ t = 11
          · rw [if_pos hA] at h ⊢
            match ts, h with
            | false :: false :: t, h => cases h; rfl
            | [], h => cases h
            | [a], h => cases a <;> cases h
            | true :: _ :: _, h => cases h
            | false :: true :: _, h => cases h
          · rw [if_neg hA] at h ⊢
            by_cases hB : t = 3 ∨ t = 4 ∨ t = 5 ∨ t = 6
            · rw [if_pos hB] at h ⊢
              match ts, h with
              | true :: true :: t, h => cases h; rfl
              | [], h => cases h
              | [a], h => cases a <;> cases h
              | false :: _ :: _, h => cases h
              | true :: false :: _, h => cases h
            · rw [if_neg hB] at h ⊢
              by_cases hC : t = 7 ∨ t = 8 ∨ t = 9
              · rw [if_pos hC] at h ⊢
                match ts, h with
                | true :: true :: t, h => cases h; rfl
                | [], h => cases h
                | [a], h => cases a <;> cases h
                | false :: _ :: _, h => cases h
                | true :: false :: _, h => cases h
              · rw [if_neg hC] at h; cases h
theorem tcL_ext {B : Nat} {base : List Bool} : ∀ {ops : List Op} {ts us : List Bool}, tcL B ops ts = some us → tcL (B + base.length) ops (ts ++ base) = some (us ++ base)
  | [], ts, us, h => by cases h; rfl
  | o :: os, ts, us, h => by
    simp only [tcL] at h ⊢
    cases ho : tcO B o ts with
    | none => rw [ho] at h; cases h
    | some vs =>
      rw [ho] at h
      rw [tcO_ext ho]
      exact tcL_ext (ops := os) h
theorem tcL_mono {B B' : Nat} (hB : B ≤ B') : ∀ {ops : List Op} {ts us : List Bool}, tcL B ops ts = some us → tcL B' ops ts = some us := by
  have one : ∀ {o : Op} {ts us : List Bool}, tcO B o ts = some us → tcO B' o ts = some us := by
    intro o ts us h
    obtain ⟨t, a⟩ := o
    by_cases h0 : t = 0
    · subst h0
      simp [tcO] at h ⊢
      obtain ⟨⟨ha, hb⟩, rfl⟩ := h
      exact ⟨⟨ha, by omega⟩, rfl⟩
    · by_cases h1 : t = 1
      · subst h1
        simp [tcO] at h ⊢
        obtain ⟨⟨ha, hb⟩, rfl⟩ := h
        exact ⟨⟨ha, by omega⟩, rfl⟩
      · by_cases h2 : t = 2
        · subst h2
          simp [tcO] at h ⊢
          obtain ⟨⟨ha, hb⟩, rfl⟩ := h
          exact ⟨⟨ha, by omega⟩, rfl⟩
        · unfold tcO at h ⊢
          simp only [h0, h1, h2, if_false] at h ⊢
          exact h
  intro ops
  induction ops with
  | nil => intro ts us h; exact h
  | cons o os ih =>
    intro ts us h
    simp only [tcL] at h ⊢
    cases ho : tcO B o ts with
    | none => rw [ho] at h; cases h
    | some vs =>
      rw [ho] at h
      rw [one ho]
      exact ih h
