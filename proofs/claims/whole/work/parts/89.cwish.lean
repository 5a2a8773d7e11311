/-! ===== the component: a text is read; wish, falsely ===== -/
abbrev RdS : Type := Bool × Nat × List Stm
/-- what the reader leaves -/
def RO (s : Nat → Nat) (c : Nat) (C : List Int) (r : RdS) (v : Int32) (σ' : St) : Prop := gI σ' 4 0 = 0 ∧ (r.1 = true ∧ v = nI (c + r.2.2.length) ∧ gI σ' 5 4 = -1 ∧ gI σ' 5 3 = nI (C ++ enc r.2.2).length ∧ (∀ k x, (C ++ enc r.2.2)[k]? = some x → (gI σ' 23 k).toInt = x) ∨ r.1 = false ∧ v = -1 ∧ gI σ' 5 4 = nI (s r.2.1))
theorem read_C {d n : Nat} {σ : St} {tx : Nat → Nat} {e T : Nat} (hn : FIX ≤ n) (hd : 26 ≤ d) (hT : gI σ 4 0 = nI T) (he : e ≤ T) (hT4 : T ≤ 400) (hB : ByC σ tx e) (hx : ∀ k, tx k < 256) : Cn d n M_X7_read md_X7_read [.ref 5, .int (nI e)] σ (liI (RO (sT tx e) 0 [] (rdS (KT tx e) (VT tx e) 16 0))) := by
  refine S_X7_read hn (by omega) ⟨_, cut_C hn (by omega) hT he hT4 hB hx, ?_⟩
  rintro σ1 ⟨⟨m, hk⟩, h4⟩ hf
  generalize hQ : RO (sT tx e) 0 [] (rdS (KT tx e) (VT tx e) 16 0) = Q
  generalize hK : KT tx e = K at *
  generalize hV : VT tx e = V at *
  generalize hs : sT tx e = s at *
  have hm := hk.1.1
  have failed : ∀ (σ2 : St) (i : Nat), TkC σ2 K V s m → gI σ2 5 1 = nI i → i ≤ m → gI σ2 4 0 = 0 → ∀ (c : Nat) (C : List Int) (r : RdS), r.1 = false → r.2.1 = i → (∀ v σ', RO s c C r v σ' → Q v σ') → ∃ Q3 : Int32 → St → Prop, Cn (d - 1) n M_X7_failed md_X7_failed [.ref 5] σ2 (liI Q3) ∧ ∀ (v6 : Int32) (σ5 : St), Q3 v6 σ5 → Fr md_X7_failed σ2 σ5 → Q v6 σ5 := by
    intro σ2 i t a hi h0 c C r hr1 hr2 k
    refine ⟨Q, S_X7_failed hn ?_, fun v σ3 h _ => h⟩
    rw [a, nI_clamp (by omega), (t.2.2 i hi).2.1]
    refine ⟨vp_in_nI (by omega) (by decide), k _ _ ⟨by rw [gI_sI_ne (by omega)]; exact h0, Or.inr ⟨hr1, rfl, by rw [gI_sI_same, hr2]⟩⟩⟩
  have key : ∀ (g c i : Nat) (C : List Int) (σ2 : St), g + c = 16 → RdC σ2 K V s m i C → gI σ2 4 0 = 0 → (∀ v σ', RO s c C (rdS K V g i) v σ' → Q v σ') → K_X7_read_20 d n σ Q σ2 (nI c) := by
    intro g
    induction g with
    | zero =>
      intro c i C σ2 hc hR h0 k
      obtain ⟨t, p, hi, hl⟩ := hR
      obtain ⟨p1, p2⟩ := RdC.kind t p.1 hi
      have hKi := hk.2.1 i
      refine B_X7_read_20 hn (by omega) ⟨fun _ => ⟨p1, ?_⟩, fun z => absurd ((nI_leI (a := 16) (by decide) (by omega)).mpr (by omega)) z⟩
      rw [p2]
      have e258 : nI (K i) = 258 ↔ K i = 258 := nI_eq (b := 258) (by omega) (by decide)
      refine ⟨fun h => k _ _ ⟨by rw [gI_sI_ne (by omega)]; exact h0, Or.inl ⟨?_, rfl, gI_sI_same _ _ _ _, ?_, ?_⟩⟩, fun h => failed σ2 i t p.1 hi h0 c C _ ?_ rfl k⟩
      · show decide (K i = 258) = true
        exact decide_eq_true (e258.mp h)
      · rw [gI_sI_ne (by omega)]
        show _ = nI (C ++ []).length
        rw [List.append_nil]; exact p.2.1
      · intro q x hq
        rw [gI_sI_ne (by omega)]
        replace hq : (C ++ [])[q]? = some x := hq
        rw [List.append_nil] at hq
        exact p.2.2 q x hq
      · show decide (K i = 258) = false
        exact decide_eq_false (fun z => h (e258.mpr z))
    | succ g ih =>
      intro c i C σ2 hc hR h0 k
      have hR0 := hR
      obtain ⟨t, p, hi, hl⟩ := hR
      obtain ⟨p1, p2⟩ := RdC.kind t p.1 hi
      have hKi := hk.2.1 i
      have e258 : nI (K i) = 258 ↔ K i = 258 := nI_eq (b := 258) (by omega) (by decide)
      refine B_X7_read_20 hn (by omega) ⟨fun z => absurd ((nI_leI (a := 16) (by decide) (by omega)).mp z) (by omega), fun _ => ⟨p1, ?_⟩⟩
      rw [p2]
      refine ⟨fun h => ⟨p1, fun _ => ?_, fun z => absurd h z⟩, fun h => ⟨_, stm_C hn (by omega) hR0, ?_⟩⟩
      · have er : rdS K V (g + 1) i = (true, i, []) := by rw [rdS, if_pos (e258.mp h)]
        refine k _ _ ⟨by rw [gI_sI_ne (by omega)]; exact h0, Or.inl ⟨by rw [er], by rw [er]; rfl, gI_sI_same _ _ _ _, ?_, ?_⟩⟩
        · rw [gI_sI_ne (by omega), er]
          show _ = nI (C ++ []).length
          rw [List.append_nil]; exact p.2.1
        · intro q x hq
          rw [er] at hq
          rw [gI_sI_ne (by omega)]
          replace hq : (C ++ [])[q]? = some x := hq
          rw [List.append_nil] at hq
          exact p.2.2 q x hq
      · have hne : ¬ K i = 258 := fun z => h (e258.mpr z)
        obtain ⟨s1, s2, s3⟩ := st_rg t.1 hi
        rintro v σ3 ⟨t3, h3⟩ hf3
        have h03 : gI σ3 4 0 = 0 := by rw [hf3.cell (by decide)]; exact h0
        rcases h3 with ⟨a, rfl, c3⟩ | ⟨a, rfl, c3⟩
        · obtain ⟨s4, s5, s6⟩ := s3 a
          have er : rdS K V (g + 1) i = ((rdS K V g (stS K V i).2.1).1, (rdS K V g (stS K V i).2.1).2.1, (stS K V i).2.2 :: (rdS K V g (stS K V i).2.1).2.2) := by rw [rdS, if_neg hne, if_pos a]
          refine ⟨fun _ => ?_, fun z => absurd z (by decide)⟩
          rw [nI_1]
          refine ih (c + 1) (stS K V i).2.1 (C ++ encS (stS K V i).2.2) σ3 (by omega) ⟨t3, c3, s1, by rw [List.length_append]; omega⟩ h03 (fun v σ' hv => k v σ' ?_)
          obtain ⟨v1, v2⟩ := hv
          refine ⟨v1, ?_⟩
          rw [er]
          rcases v2 with ⟨w1, w2, w3, w4, w5⟩ | ⟨w1, w2, w3⟩
          · refine Or.inl ⟨w1, ?_, w3, ?_, ?_⟩
            · rw [w2, List.length_cons]; congr 1; omega
            · show _ = nI (C ++ enc ((stS K V i).2.2 :: (rdS K V g (stS K V i).2.1).2.2)).length
              rw [enc_cons, ← List.append_assoc]; exact w4
            · intro q x hq
              replace hq : (C ++ enc ((stS K V i).2.2 :: (rdS K V g (stS K V i).2.1).2.2))[q]? = some x := hq
              rw [enc_cons, ← List.append_assoc] at hq
              exact w5 q x hq
          · exact Or.inr ⟨w1, w2, w3⟩
        · have er : rdS K V (g + 1) i = (false, (stS K V i).2.1, []) := by rw [rdS, if_neg hne, if_neg (by rw [a]; decide)]
          refine ⟨fun z => absurd rfl z, fun _ => failed σ3 (stS K V i).2.1 t3 c3 s1 h03 c C _ (by rw [er]) (by rw [er]) k⟩
  refine key 16 0 0 [] _ rfl ⟨hk.fr (fun q k x y => by rw [gI_sI_ne (by omega), gI_sI_ne (by omega)]), ⟨?_, ?_, fun q x hq => by cases hq⟩, Nat.zero_le _, Nat.zero_le _⟩ ?_ (fun v σ' h => by rw [← hQ]; exact h)
  · rw [gI_sI_ne (by omega), gI_sI_same]; rfl
  · rw [gI_sI_same]; rfl
  · rw [gI_sI_ne (by omega), gI_sI_ne (by omega)]; exact h4
/-! the world after a text -/
def puS (f : Nat → List Stm) (r : Nat) (S : List Stm) : Nat → List Stm := fun k => if k = r then S else f k
theorem puS_same (f : Nat → List Stm) (r : Nat) (S : List Stm) : puS f r S r = S := if_pos rfl
theorem puS_ne {f : Nat → List Stm} {r k : Nat} {S : List Stm} (h : k ≠ r) : puS f r S k = f k := if_neg h
def rdT (w : Wd) (e : Nat) : RdS := rdS (KT w.tp e) (VT w.tp e) 16 0
def saidW (w : Wd) (r : Nat) (S : List Stm) (l : Bool) : Wd := (w.N, w.P, w.A, w.mo, w.sp, w.pl, w.fr, w.to, w.a1, w.a2, w.pr, w.pu, w.dn, w.hd, puS w.ws r S, l, 0, w.tp, -1, w.ver + 1)
def failW (w : Wd) (f : Nat) : Wd := (w.N, w.P, w.A, w.mo, w.sp, w.pl, w.fr, w.to, w.a1, w.a2, w.pr, w.pu, w.dn, w.hd, w.ws, w.lie, 0, w.tp, (f : Int), w.ver)
def wishV (w : Wd) (a b : Int32) : Int32 := if inP a w.P ∧ inP b (w.T + 1) then (if (rdT w (tn b)).1 = true then nI (rdT w (tn b)).2.2.length else -1) else -2
def wishW (w : Wd) (a b : Int32) : Wd := if inP a w.P ∧ inP b (w.T + 1) then (if (rdT w (tn b)).1 = true then saidW w (tn a) (rdT w (tn b)).2.2 w.lie else failW w (sT w.tp (tn b) (rdT w (tn b)).2.1)) else w
def falsV (w : Wd) (b : Int32) : Int32 := if inP b (w.T + 1) then (if (rdT w (tn b)).1 = true then nI (rdT w (tn b)).2.2.length else -1) else -2
def falsW (w : Wd) (b : Int32) : Wd := if inP b (w.T + 1) then (if (rdT w (tn b)).1 = true then saidW w 8 (rdT w (tn b)).2.2 true else failW w (sT w.tp (tn b) (rdT w (tn b)).2.1)) else w
theorem rdT_WR {w : Wd} {e : Nat} (he : e ≤ 400) (h : (rdT w e).1 = true) : WR (rdT w e).2.2 ∧ (enc (rdT w e).2.2).length ≤ 400 := by
  obtain ⟨m, h1, h2, h3⟩ := sT_many w.tp e
  exact rd_WR (TkE_text (by omega) h2 h3) h
theorem saidW_WW {w : Wd} {r : Nat} {S : List Stm} {l : Bool} (h : WW w) (hS : WR S) : WW (saidW w r S l) := by
  obtain ⟨x1, x2, x3, x4, x5, x6, x7, x8, x9, x10, x11, x12, x13, x14, x15, x16⟩ := h
  exact ⟨x1, x2, x3, x4, x5, x6, x7, x8, x9, x10, x11, x12, fun k => by
    show WR (puS w.ws r S k)
    unfold puS; split
    · exact hS
    · exact x13 k, Nat.zero_le _, x15, x16⟩
theorem failW_WW {w : Wd} {f : Nat} (h : WW w) : WW (failW w f) := by
  obtain ⟨x1, x2, x3, x4, x5, x6, x7, x8, x9, x10, x11, x12, x13, x14, x15, x16⟩ := h
  exact ⟨x1, x2, x3, x4, x5, x6, x7, x8, x9, x10, x11, x12, x13, Nat.zero_le _, x15, x16⟩
theorem tn_le {b : Int32} {T : Nat} (hT : T ≤ 400) (h : inP b (T + 1)) : tn b ≤ T := by
  obtain ⟨j, hj, rfl⟩ := inP_ex (by omega) h
  rw [tn_nI (by omega)]; omega
theorem wishW_WW {w : Wd} {a b : Int32} (h : WW w) : WW (wishW w a b) := by
  have hT := h.T
  unfold wishW
  split
  · next g =>
    have := tn_le hT g.2
    split
    · next g2 => exact saidW_WW h (rdT_WR (by omega) g2).1
    · exact failW_WW h
  · exact h
theorem falsW_WW {w : Wd} {b : Int32} (h : WW w) : WW (falsW w b) := by
  have hT := h.T
  unfold falsW
  split
  · next g =>
    have := tn_le hT g
    split
    · next g2 => exact saidW_WW h (rdT_WR (by omega) g2).1
    · exact failW_WW h
  · exact h
