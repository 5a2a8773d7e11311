/-! ===== the component: ask ===== -/
theorem op1_ext {B : Nat} {g : Nat → Int} {b : Nat} {o : Op} {ts us : List Bool} {s base : List Int} (hv : VS ts s) (h : tcO B o ts = some us) : op1 g b o (s ++ base) = op1 g b o s ++ base := by
  obtain ⟨t, a⟩ := o
  by_cases h0 : t = 0
  · simp [op1, h0]
  · by_cases h1 : t = 1
    · simp [op1, h1]
    · by_cases h2 : t = 2
      · simp [op1, h2]
      · by_cases h12 : t = 12
        · subst h12
          obtain ⟨x, r, rfl, -⟩ := not_shape h hv
          simp [op1]
        · have htg := tag_lt h
          simp only at htg
          obtain ⟨y, x, r, rfl, -⟩ := bin_shape (by omega) (by omega) h hv
          simp [op1, h0, h1, h2, h12]
theorem evl_ext {B : Nat} {g : Nat → Int} {b : Nat} (hg : ∀ k, -1000000 ≤ g k ∧ g k ≤ 1000000) {base : List Int} : ∀ {ops : List Op} {ts us : List Bool} {s : List Int}, VS ts s → tcL B ops ts = some us → evl g b ops (s ++ base) = evl g b ops s ++ base
  | [], ts, us, s, hv, h => rfl
  | o :: os, ts, us, s, hv, h => by
    simp only [tcL] at h
    cases ho : tcO B o ts with
    | none => rw [ho] at h; cases h
    | some vs =>
      rw [ho] at h
      show evl g b os (op1 g b o (s ++ base)) = evl g b os (op1 g b o s) ++ base
      rw [op1_ext hv ho]
      exact evl_ext hg (ops := os) (tc_step hg hv ho) h
theorem evl_one {w : Wd} (hw : WW w) {j b : Nat} {ops : List Op} {t : Bool} (h : tcL 40 ops [] = some [t]) : evl (wrd w j b) b ops [] = [topv (evl (wrd w j b) b ops [])] := by
  have hv := tc_all (g := wrd w j b) (b := b) (fun k => wrd_rng hw) (ts := []) (s := []) trivial h
  match hE : evl (wrd w j b) b ops [], hv with
  | [x], hv => rfl
/-- somebody's code in the component -/
def PC (σ : St) (p : Nat) (S : List Stm) : Prop := gI σ p 4 = nI (enc S).length ∧ (enc S).length ≤ 400 ∧ ∀ i c, (enc S)[i]? = some c → (gI σ (p + 1) i).toInt = c
theorem enc_cons (s : Stm) (S : List Stm) : enc (s :: S) = encS s ++ enc S := rfl
section AskS
variable {d n : Nat} {σ0 : St} {w : Wd} {j p b : Nat} {C : List Int} {Q : St → Prop}
/-- one statement -/
theorem ask_stm (hn : FIX ≤ n) (hd : 4 ≤ d) (hw : WW w) (hb : b < 1024) (hp : IsP n p) (hC : C.length ≤ 400) {z : Int} {nv : Bool} {s : Stm} {A D : List Int} {σ : St} (hCe : C = A ++ (encS s ++ D)) (hs : WS s) (hz : -1000000 ≤ z ∧ z ≤ 1000000) (hA : AK σ w j b [] z nv) (hr : CR σ w j p C)
    (hk : ∀ σ', AK σ' w j b [] (if s.1 = 0 ∧ hlds (wrd w j b) b s = true then hlW (z + topv (evl (wrd w j b) b s.2.1 [])) else z) (nv || (decide (s.1 = 1) && hlds (wrd w j b) b s)) → CR σ' w j p C → K_X0_ask_30 d n σ0 Q σ' p (nI b) (nI (A ++ encS s).length)) : K_X0_ask_30 d n σ0 Q σ p (nI b) (nI A.length) := by
  obtain ⟨sort, ex, cond⟩ := s
  obtain ⟨hs1, hs2⟩ := hs
  simp only at hs1 hs2 hk
  have hg : ∀ k, -1000000 ≤ wrd w j b k ∧ wrd w j b k ≤ 1000000 := fun k => wrd_rng hw
  -- behind the expression: the condition, then the end
  have cnd : ∀ (base : List Int) (bt : List Bool) (σ1 : St) (A1 D1 : List Int), VS bt base → base.length ≤ 1 → C = A1 ++ ((if cond = [] then [(1 : Int)] else encL cond) ++ D1) → AK σ1 w j b base z nv → CR σ1 w j p C →
      (∀ (c : Int) (σ2 : St), (c ≠ 0 ↔ hlds (wrd w j b) b (sort, ex, cond) = true) → AK σ2 w j b (c :: base) z nv → CR σ2 w j p C → K_X0_ask_30 d n σ0 Q σ2 p (nI b) (nI (A1 ++ (if cond = [] then [(1 : Int)] else encL cond)).length)) → K_X0_ask_30 d n σ0 Q σ1 p (nI b) (nI A1.length) := by
    intro base bt σ1 A1 D1 hvb hbl hC1 h1 h2 h3
    by_cases hc : cond = []
    · rw [if_pos hc] at hC1 h3
      refine ask_push (a := 1) hn hd hp hC h1 h2 (by omega) (at_app hC1 (i := 0) rfl) (by omega) (fun σ2 g1 g2 => ?_)
      have := h3 1 σ2 (by simp [hlds, hc]) g1 g2
      simpa using this
    · rw [if_neg hc] at hC1 h3
      have htc := hs2.resolve_left hc
      have hbt := VS_len hvb
      have htx : tcL 45 cond ([] ++ bt) = some ([false] ++ bt) := tcL_mono (by omega) (tcL_ext (base := bt) htc)
      refine ask_ops hn hd hw hb hp hC cond A1 D1 base ([] ++ bt) _ σ1 hC1 htx (by simp; omega) hvb h1 h2 (fun σ2 g1 g2 => ?_)
      have e : evl (wrd w j b) b cond base = topv (evl (wrd w j b) b cond []) :: base := by
        have := evl_ext (g := wrd w j b) (b := b) hg (base := base) (ops := cond) (ts := []) (s := []) trivial htc
        rw [List.nil_append] at this
        rw [this, evl_one hw htc]; rfl
      rw [e] at g1
      refine h3 _ σ2 ?_ g1 g2
      simp [hlds, hc]
  rcases hs1 with ⟨rfl, hex⟩ | ⟨rfl, rfl⟩
  · -- add
    have hC1 : C = A ++ (encL ex ++ ((if cond = [] then [(1 : Int)] else encL cond) ++ ([-((1 : Nat) : Int)] ++ D))) := by rw [hCe]; simp [encS]
    have hC2 : C = (A ++ encL ex) ++ ((if cond = [] then [(1 : Int)] else encL cond) ++ ([-((1 : Nat) : Int)] ++ D)) := by rw [hC1]; simp
    have hC3 : C = (A ++ encL ex ++ (if cond = [] then [(1 : Int)] else encL cond)) ++ ([-((1 : Nat) : Int)] ++ D) := by rw [hC1]; simp
    refine ask_ops hn hd hw hb hp hC ex A _ [] [] [true] σ hC1 (tcL_mono (by omega) hex) (by decide) trivial hA hr (fun σ1 g1 g2 => ?_)
    have hx := tv_rng (j := j) (b := b) hw hex
    rw [evl_one hw hex] at g1
    refine cnd [_] [true] σ1 (A ++ encL ex) _ ⟨by simpa [okT] using hx, trivial⟩ (by simp) hC2 g1 g2 (fun c σ2 hc g3 g4 => ?_)
    refine ask_app (k := 1) hn hd hw hb hp hC g3 g4 (by simp) (at_app hC3 (i := 0) rfl) (by omega) (by omega) (Or.inr (Or.inr (Or.inr (Or.inr (Or.inl ⟨rfl, c, _, [], rfl, rfl, hx, hz, rfl, rfl⟩))))) (fun σ3 g5 g6 => ?_)
    have := hk σ3 ?_ g6
    · rw [show (A ++ encS (0, ex, cond)).length = (A ++ encL ex ++ (if cond = [] then [(1 : Int)] else encL cond)).length + 1 by simp [encS]; omega] at this
      exact this
    · by_cases hh : hlds (wrd w j b) b (0, ex, cond) = true
      · rw [if_pos (hc.mpr hh)] at g5
        simpa [hh] using g5
      · rw [if_neg (fun q => hh (hc.mp q))] at g5
        simpa [hh] using g5
  · -- never
    have hC2 : C = A ++ ((if cond = [] then [(1 : Int)] else encL cond) ++ ([-((2 : Nat) : Int)] ++ D)) := by rw [hCe]; simp [encS, encL]
    have hC3 : C = (A ++ (if cond = [] then [(1 : Int)] else encL cond)) ++ ([-((2 : Nat) : Int)] ++ D) := by rw [hC2]; simp
    refine cnd [] [] σ A _ trivial (by simp) hC2 hA hr (fun c σ2 hc g3 g4 => ?_)
    refine ask_app (k := 2) hn hd hw hb hp hC g3 g4 (by simp) (at_app hC3 (i := 0) rfl) (by omega) (by omega) (Or.inr (Or.inr (Or.inr (Or.inr (Or.inr ⟨rfl, c, [], rfl, rfl, rfl, rfl⟩))))) (fun σ3 g5 g6 => ?_)
    have := hk σ3 ?_ g6
    · rw [show (A ++ encS (1, [], cond)).length = (A ++ (if cond = [] then [(1 : Int)] else encL cond)).length + 1 by simp [encS, encL]; omega] at this
      exact this
    · have hd2 : decide (c ≠ 0) = hlds (wrd w j b) b (1, [], cond) := by
        rw [Bool.eq_iff_iff]; simp only [decide_eq_true_eq]; exact hc
      rw [hd2] at g5
      simpa using g5
end AskS
theorem ask_spec {d n : Nat} {σ : St} {w : Wd} {r j p b : Nat} (hn : FIX ≤ n) (hd : 5 ≤ d) (hw : WW w) (hb : b < 1024) (hp : IsP n p) (hR : RP σ w) (hmo : gI σ p 0 = nI (w.pu j)) (hdn : gI σ p 1 = nI (w.dn j)) (hpc : PC σ p (w.ws r)) :
    Cn d n M_X0_ask md_X0_ask [.ref 2, .ref p, .int (nI b)] σ (liV (fun σ' => (gI σ' 2 1).toInt = wth w r j b ∧ gI σ' 2 2 = nI (bar w r j b))) := by
  refine S_X0_ask hn (by omega) hp ⟨_, lookAt_spec hn (by omega) hR hw hb, ?_⟩
  intro σ3 hL3 hf3
  obtain ⟨hWS, hSl, -⟩ := hw.ws r
  obtain ⟨c1, c2, c3⟩ := hpc
  generalize hS : w.ws r = S at hWS hSl c1 c2 c3
  have hR3 := hR.st hf3 (by decide)
  generalize hQ : (fun (σ' : St) => (gI σ' 2 1).toInt = wth w r j b ∧ gI σ' 2 2 = nI (bar w r j b)) = Q
  -- statement by statement
  have loop : ∀ i, i ≤ S.length → ∀ σ1 : St, AK σ1 w j b [] (wthL (wrd w j b) b (S.take i)) (nevL (wrd w j b) b (S.take i)) → CR σ1 w j p (enc S) → K_X0_ask_30 d n σ Q σ1 p (nI b) (nI (enc (S.take i)).length) := by
    refine up_ind (N := S.length) ?_ ?_
    · intro σ1 h1 h2
      rw [List.take_length] at h1 ⊢
      refine B_X0_ask_30 hn (by omega) hp ⟨fun _ => ?_, fun h => absurd (by rw [h2.2.1]; exact nI_le (Nat.le_refl _) (by omega)) h⟩
      rw [h2.2.2.1]
      refine ⟨_, barOf_spec hn (by omega) h2.1 hw hb, ?_⟩
      rintro v σ4 ⟨rfl, rfl⟩ _
      rw [gI_sI_same, gI_sI_ne (by omega), h1.2.2.2.2]
      have ht : (gI σ1 2 1).toInt = wth w r j b := by rw [h1.2.2.2.1, wth, hS]
      have hb4 : bar4 w j b < 2 ^ 31 := by unfold bar4; repeat' split
                                           all_goals decide
      have hnv : nevL (wrd w j b) b S = nev w r j b := by rw [nev, hS]
      rw [hnv, ← hQ]
      refine ⟨fun h0 => ⟨?_, ?_⟩, fun h0 => ⟨fun h3 => ⟨?_, ?_⟩, fun h3 => ⟨?_, ?_⟩⟩⟩
      · rw [gI_sI_ne (by omega)]; exact ht
      · have : bar4 w j b ≠ 0 := fun e => h0 (by rw [e]; rfl)
        rw [gI_sI_same, bar_bar4, if_pos this]
      · rw [gI_sI_ne (by omega)]; exact ht
      · have e4 : bar4 w j b = 0 := (nI_eq (b := 0) hb4 (by decide)).mp h0
        have en : ¬ nev w r j b = true := by intro e; rw [if_pos e] at h3; exact absurd h3 (by decide)
        rw [gI_sI_same, bar_bar4, if_neg (by simp [e4]), if_neg en, e4]
      · rw [gI_sI_ne (by omega), gI_sI_ne (by omega)]; exact ht
      · have e4 : bar4 w j b = 0 := (nI_eq (b := 0) hb4 (by decide)).mp h0
        have en : nev w r j b = true := by
          rcases Bool.eq_false_or_eq_true (nev w r j b) with e | e
          · exact e
          · rw [e] at h3; exact absurd rfl h3
        rw [gI_sI_same, bar_bar4, if_neg (by simp [e4]), if_pos en]; rfl
    · intro i hi ih σ1 h1 h2
      obtain ⟨s, hs⟩ : ∃ s, S[i]? = some s := ⟨S[i], List.getElem?_eq_getElem hi⟩
      have hws := hWS s (List.mem_of_getElem? hs)
      have hsp : S = S.take i ++ s :: S.drop (i + 1) := by
        have hi2 := (List.getElem?_eq_some_iff.mp hs)
        rw [← hi2.2, List.getElem_cons_drop hi2.1, List.take_append_drop]
      have hCe : enc S = enc (S.take i) ++ (encS s ++ enc (S.drop (i + 1))) := by
        conv => lhs; rw [hsp]
        simp [enc]
      refine ask_stm hn (by omega) hw hb hp c2 hCe hws (wthL_rng _ _ _) h1 h2 (fun σ2 g1 g2 => ?_)
      have := ih σ2 (by rw [wthL_succ hs, nevL_succ hs]; exact g1) g2
      rw [take_succ' hs] at this
      simpa [enc] using this
  have hp0 : 83 ≤ p := hp.1
  have hpn : ∀ k, gI (sI (sI (sI (sI σ3 2 7 (gI σ3 p 0)) 2 1 0) 2 4 0) 2 5 0) p k = gI σ p k := by
    intro k
    rw [gI_sI_ne (by omega), gI_sI_ne (by omega), gI_sI_ne (by omega), gI_sI_ne (by omega), hf3.per (by decide) hp0]
  have := loop 0 (Nat.zero_le _) (sI (sI (sI (sI σ3 2 7 (gI σ3 p 0)) 2 1 0) 2 4 0) 2 5 0) ?_ ?_
  · have h0 : K_X0_ask_30 d n σ Q (sI (sI (sI (sI σ3 2 7 (gI σ3 p 0)) 2 1 0) 2 4 0) 2 5 0) p (nI b) (nI 0) := by simpa [enc] using this
    exact h0
  · obtain ⟨l1, l2, l3, l4⟩ := hL3
    refine ⟨⟨?_, ?_, ?_, ?_⟩, ?_, ⟨?_, fun i z hz => by simp at hz⟩, ?_, ?_⟩
    · rw [gI_sI_ne (by omega), gI_sI_ne (by omega), gI_sI_ne (by omega), gI_sI_ne (by omega)]; exact l1
    · rw [gI_sI_ne (by omega), gI_sI_ne (by omega), gI_sI_ne (by omega), gI_sI_ne (by omega)]; exact l2
    · rw [gI_sI_ne (by omega), gI_sI_ne (by omega), gI_sI_ne (by omega), gI_sI_ne (by omega)]; exact l3
    · rw [gI_sI_ne (by omega), gI_sI_ne (by omega), gI_sI_ne (by omega), gI_sI_ne (by omega)]; exact l4
    · rw [gI_sI_ne (by omega), gI_sI_ne (by omega), gI_sI_ne (by omega), gI_sI_same, hf3.per (by decide) hp0]; exact hmo
    · rw [gI_sI_ne (by omega), gI_sI_same]; rfl
    · rw [gI_sI_ne (by omega), gI_sI_ne (by omega), gI_sI_same]; simp [wthL]
    · rw [gI_sI_same]; simp [nevL]
  · refine ⟨hR3.fr (fun k hk => by rw [gI_sI_ne (by omega), gI_sI_ne (by omega), gI_sI_ne (by omega), gI_sI_ne (by omega)]) (fun q k a b => by rw [gI_sI_ne (by omega), gI_sI_ne (by omega), gI_sI_ne (by omega), gI_sI_ne (by omega)]), ?_, ?_, fun i c hi => ?_⟩
    · rw [hpn]; exact c1
    · rw [hpn]; exact hdn
    · rw [gI_sI_ne (by omega), gI_sI_ne (by omega), gI_sI_ne (by omega), gI_sI_ne (by omega), hf3.per (by decide) (show P0 ≤ p + 1 from Nat.le_succ_of_le hp0)]; exact c3 i c hi
