/-! ===== the component: its public methods ===== -/
def pdJ (j : Nat) : Nat := 88 + 5 * j
def hdI (w : Wd) (j : Nat) : Int32 := nI (w.hd j)
/-- tape, the liar's wishes, whether a lie was told, the place of a fault -/
def TL (σ : St) (n : Nat) (w : Wd) : Prop := (gI σ 4 0 = nI w.T ∧ ∀ i, i < w.T → gI σ 19 i = nI (w.tp i)) ∧ (IsP n 83 ∧ PC σ 83 (w.ws 8)) ∧ gI σ 0 11 = bI w.lie ∧ gI σ 0 12 = Int32.ofInt w.fa
/-- the component between calls -/
def RC (σ : St) (n : Nat) (w : Wd) : Prop := SX σ n w pdJ id (hdI w) ∧ MK σ w ∧ TL σ n w
def okTL (m : Md) : Bool := cellFree m 4 0 && (rowFree m 19 && (cellFree m 0 11 && (cellFree m 0 12 && (m.1.all (fun q => decide (q < 83)) && (m.2.1.all (fun c => decide (c.1 < 83 ∨ c.1 = 83 ∧ c.2 ≠ 4)) && ((!m.2.2.1.contains 4) && (!m.2.2.2.contains 0 && !m.2.2.2.contains 1)))))))
theorem TL.st {m : Md} {σ σ' : St} {n : Nat} {w : Wd} (h : TL σ n w) (hf : Fr m σ σ') (ho : okTL m = true) : TL σ' n w := by
  simp only [okTL, Bool.and_eq_true, Bool.not_eq_true'] at ho
  obtain ⟨o1, o2, o3, o4, o5, o6, o7, o8, o9⟩ := ho
  obtain ⟨⟨a1, a2⟩, ⟨a3, a4⟩, a5, a6⟩ := h
  have h1 : ∀ q ∈ m.1, q < 83 := fun q hq => of_decide_eq_true (List.all_eq_true.mp o5 q hq)
  have h2 : ∀ c ∈ m.2.1, c.1 < 83 ∨ c.1 = 83 ∧ c.2 ≠ 4 := fun q hq => of_decide_eq_true (List.all_eq_true.mp o6 q hq)
  have h3 : ¬ (4 ∈ m.2.2.1) := fun z => by rw [List.contains_iff_mem.mpr z] at o7; cases o7
  have h4 : ¬ (0 ∈ m.2.2.2) := fun z => by rw [List.contains_iff_mem.mpr z] at o8; cases o8
  have h5 : ¬ (1 ∈ m.2.2.2) := fun z => by rw [List.contains_iff_mem.mpr z] at o9; cases o9
  refine ⟨⟨by rw [hf.cell o1]; exact a1, fun i hi => by rw [hf.row o2]; exact a2 i hi⟩, ⟨a3, a4.fr (hf.1 83 4 ?_) (fun k => hf.1 (83 + 1) k ?_)⟩, by rw [hf.cell o3]; exact a5, by rw [hf.cell o4]; exact a6⟩
  · rintro (z | z | ⟨_, _, z⟩ | ⟨_, z⟩)
    · have := h1 _ z; omega
    · have := h2 _ z; simp at this
    · exact h3 z
    · exact h4 z
  · rintro (z | z | ⟨_, z, _⟩ | ⟨_, z⟩)
    · have := h1 _ z; omega
    · have := h2 _ z; simp at this
    · simp [P0] at z
    · exact h5 z
theorem gateN {a x : Int32} {K : Nat} (hK : K < 2 ^ 31) (hx : x = nI K) : (if a < 0 then (0 : Int32) else (if x ≤ a then 0 else 1)) ≠ 0 ↔ inP a K := by
  rw [hx]
  by_cases h1 : a < 0
  · rw [if_pos h1]
    have := lt_ti.mp h1
    rw [show (0 : Int32).toInt = 0 by decide] at this
    exact ⟨fun z => absurd rfl z, fun z => by have := z.1; omega⟩
  · rw [if_neg h1]
    have h0 : ¬ _ < _ := fun z => h1 (lt_ti.mpr z)
    rw [show (0 : Int32).toInt = 0 by decide] at h0
    by_cases h2 : nI K ≤ a
    · rw [if_pos h2]
      have := le_ti.mp h2
      rw [nI_toInt hK] at this
      exact ⟨fun z => absurd rfl z, fun z => by have := z.2; omega⟩
    · rw [if_neg h2]
      have : ¬ _ ≤ _ := fun z => h2 (le_ti.mpr z)
      rw [nI_toInt hK] at this
      exact ⟨fun _ => ⟨by omega, by omega⟩, fun _ => by decide⟩
theorem SX.per {σ : St} {n : Nat} {w : Wd} {pd rr : Nat → Nat} {hv : Nat → Int32} {a : Int32} (h : SX σ n w pd rr hv) (hw : WW w) : fn_X1_isPerson σ a ≠ 0 ↔ inP a w.P := gateN (by have := hw.P; omega) h.2.1
theorem SX.les {σ : St} {n : Nat} {w : Wd} {pd rr : Nat → Nat} {hv : Nat → Int32} {a : Int32} (h : SX σ n w pd rr hv) (hw : WW w) : fn_X6_isLesson σ a ≠ 0 ↔ inP a w.N := gateN (by have := hw.N; omega) h.1.N
theorem bunC {a : Int32} : fn_X11_isBundle a ≠ 0 ↔ inP a 1024 := gateN (by decide) rfl
theorem wayC {a : Int32} : fn_X11_isWay a ≠ 0 ↔ inP a 6 := gateN (by decide) rfl
theorem RC.st {m : Md} {σ σ' : St} {n : Nat} {w : Wd} (h : RC σ n w) (hf : Fr m σ σ') (ho : (okC m && (rowFree m 26 && (rowFree m 27 && (cellFree m 6 3 && (rowFree m 24 && okTL m))))) = true) : RC σ' n w := by
  simp only [Bool.and_eq_true] at ho
  obtain ⟨o1, o2, o3, o4, o5, o6⟩ := ho
  exact ⟨h.1.st hf o1, h.2.1.mv (by rw [hf.row o2, hf.row o3]; exact h.2.1.1) (hf.cell o4) (hf.row o5), h.2.2.st hf o6⟩
theorem bars_C {d n : Nat} {σ : St} {w : Wd} {a1 a2 : Int32} (hn : FIX ≤ n) (hd : 8 ≤ d) (hR : RC σ n w) (hw : WW w) : Cn d n M_X11_bars md_X11_bars [.ref 0, .int a1, .int a2] σ (liI (fun v σ' => v = barsV w a1 a2 ∧ RC σ' n w)) := by
  have hP := hw.P
  refine S_X11_bars hn (by omega) ⟨fun h => ⟨?_, hR⟩, fun h => ⟨fun h2 => ?_, fun h2 => ⟨?_, hR⟩⟩⟩
  · unfold barsV; rw [if_neg (fun z => ze.mp h ((hR.1.per hw).mpr z.1))]
  · have g1 := (hR.1.per hw).mp h
    have g2 := bunC.mp h2
    obtain ⟨j, hj, rfl⟩ := inP_ex (by omega) g1
    obtain ⟨b, hb, rfl⟩ := inP_ex (by decide) g2
    obtain ⟨b1, b2, b3⟩ := hR.1.2.2.1 j hj
    refine ⟨vp_in_nI (by omega) (by decide), pdJ j, by rw [nI_clamp (by omega)]; exact b1, b2, _, ask_spec (r := j) (j := j) hn (by omega) hw hb b2 hR.1.1 b3.1 b3.2.1 b3.2.2.2.1, fun σ1 ⟨e1, e2⟩ hf => ⟨?_, hR.st hf (by decide)⟩⟩
    unfold barsV; rw [if_pos ⟨g1, g2⟩, tn_nI (by omega), tn_nI (by omega)]; exact e2
  · unfold barsV; rw [if_neg (fun z => ze.mp h2 (bunC.mpr z.2))]
theorem worth_C {d n : Nat} {σ : St} {w : Wd} {a1 a2 : Int32} (hn : FIX ≤ n) (hd : 8 ≤ d) (hR : RC σ n w) (hw : WW w) : Cn d n M_X11_worth md_X11_worth [.ref 0, .int a1, .int a2] σ (liI (fun v σ' => v = worthV w a1 a2 ∧ RC σ' n w)) := by
  have hP := hw.P
  refine S_X11_worth hn (by omega) ⟨fun h => ⟨?_, hR⟩, fun h => ⟨fun h2 => ?_, fun h2 => ⟨?_, hR⟩⟩⟩
  · unfold worthV; rw [if_neg (fun z => ze.mp h ((hR.1.per hw).mpr z.1))]
  · have g1 := (hR.1.per hw).mp h
    have g2 := bunC.mp h2
    obtain ⟨j, hj, rfl⟩ := inP_ex (by omega) g1
    obtain ⟨b, hb, rfl⟩ := inP_ex (by decide) g2
    obtain ⟨b1, b2, b3⟩ := hR.1.2.2.1 j hj
    refine ⟨vp_in_nI (by omega) (by decide), pdJ j, by rw [nI_clamp (by omega)]; exact b1, b2, _, ask_spec (r := j) (j := j) hn (by omega) hw hb b2 hR.1.1 b3.1 b3.2.1 b3.2.2.2.1, fun σ1 ⟨e1, e2⟩ hf => ⟨?_, hR.st hf (by decide)⟩⟩
    unfold worthV; rw [if_pos ⟨g1, g2⟩, tn_nI (by omega), tn_nI (by omega)]; exact ofI e1
  · unfold worthV; rw [if_neg (fun z => ze.mp h2 (bunC.mpr z.2))]
theorem tR_id (w : Wd) : tR w id = tM w := rfl
theorem lt0 {a : Int32} : a < 0 ↔ a.toInt < 0 := by rw [lt_ti, show (0 : Int32).toInt = 0 by decide]
/-- from a call that freshens one, with costs marked -/
theorem mark_pr {d n : Nat} {σ : St} {w : Wd} (hn : FIX ≤ n) (hK : MK σ w) : Cn d n M_X4_mark md_X4_mark [.ref 6, .ref 24] σ (liV (fun σ' => Mrk σ' w.pr ∧ MK σ' w)) :=
  Cn.wk (mark_spec hn (ar_24 hn) (by decide) (by decide) hK.2.2 hK.1) (by
    rintro v σ' ⟨e, h⟩ hf
    exact ⟨e, h, hK.st0 hf h.z (by decide)⟩)
theorem MK.low {σ σ' : St} {w : Wd} (h : MK σ w) (hl : ∀ q k, q < 83 → q ≠ 17 → q ≠ 2 → gI σ' q k = gI σ q k) : MK σ' w := h.mv (by rw [hl _ _ (by decide) (by decide) (by decide), hl _ _ (by decide) (by decide) (by decide)]; exact h.1) (hl _ _ (by decide) (by decide) (by decide)) (fun k => hl _ _ (by omega) (by omega) (by omega))
theorem buys_C {d n : Nat} {σ : St} {w : Wd} {a1 a2 : Int32} (hn : FIX ≤ n) (hd : 8 ≤ d) (hR : RC σ n w) (hw : WW w) : Cn d n M_X11_buys md_X11_buys [.ref 0, .int a1, .int a2] σ (liI (fun v σ' => v = buysV w a1 a2 ∧ RC σ' n w)) := by
  refine Cn.wk (Q := liI (fun v σ' => v = buysV w a1 a2 ∧ SX σ' n w pdJ id (hdI w) ∧ MK σ' w)) ?_ (by
    rintro v σ' ⟨x, e, h1, h2, h3⟩ hf
    exact ⟨x, e, h1, h2, h3, hR.2.2.st hf (by decide)⟩)
  have hP := hw.P
  have hN := hw.N
  have hpw := pow10 hN
  have no : ¬ (inP a1 w.P ∧ inP a2 3) → (fun (v : Int32) (σ' : St) => v = buysV w a1 a2 ∧ SX σ' n w pdJ id (hdI w) ∧ MK σ' w) (-2000000) σ := fun h => by
    unfold buysV; rw [if_neg h]; exact ⟨rfl, hR.1, hR.2.1⟩
  refine S_X11_buys hn (by omega) ⟨fun h => no (fun z => ze.mp h ((hR.1.per hw).mpr z.1)), fun h => ⟨fun h2 => no (fun z => by have := lt0.mp h2; have := z.2.1; omega), fun h2 => ⟨fun h3 => ?_, fun h3 => no (fun z => h3 (le_ti.mpr (by have := z.2.2; rw [show (2 : Int32).toInt = 2 by decide]; omega)))⟩⟩⟩
  have g1 := (hR.1.per hw).mp h
  have g2 : inP a2 3 := ⟨by have : ¬ _ := fun z => h2 (lt0.mpr z); omega, by have := le_ti.mp h3; rw [show (2 : Int32).toInt = 2 by decide] at this; omega⟩
  obtain ⟨j, hj, rfl⟩ := inP_ex (by omega) g1
  have eV : ∀ v, v = (if a2 = 0 then nI (buyB w (LM w) (VM w) w.pr j) else if a2 = 1 then nI (optC (fun b => costU w.pr b w.N) (buyO w (LM w) (VM w) w.pr j)) else Int32.ofInt (optV (VM w j) (buyO w (LM w) (VM w) w.pr j))) → v = buysV w (nI j) a2 := fun v e => by
    unfold buysV; rw [if_pos ⟨g1, g2⟩, tn_nI (by omega)]; exact e
  refine ⟨_, freshened_spec hn (by omega) hR.1 hw hj, ?_⟩
  rintro p σ1 ⟨rfl, s1, j1, l1⟩ hf1
  have k1 := hR.2.1.low l1
  refine ⟨j1.2.1, _, mark_pr hn k1, ?_⟩
  rintro σ2 ⟨mk, k2⟩ hf2
  have j2 := j1.st hf2 (by decide)
  have s2 := s1.st hf2 (by decide)
  refine ⟨_, pickC0 hn (by omega) j2 hw (tR_w w id) mk (fun l hl => pr_ok hw l (by omega)) hj, ?_⟩
  rintro v σ3 ⟨⟨e1, e2⟩, ⟨e3, e4⟩, e5⟩ hf3
  have s3 := s2.st hf3 (by decide)
  have k3 := k2.st hf3 (by decide)
  have mk3 := mk.st hf3 (by decide)
  have hB : buyB w (LM w) (VM w) w.pr j < 2 ^ w.N := buyB_ok w (tM w) w.pr j
  refine ⟨fun n0 => ⟨fun n1 => ⟨e3, eV _ ?_, s3, k3⟩, fun n1 => ⟨e1, ?_⟩⟩, fun n0 => ⟨e1, eV _ ?_, s3, k3⟩⟩
  · rw [if_neg n0, if_neg n1]; exact ofI e4
  · rw [e2]
    obtain ⟨c1, c2⟩ := costC mk3 (show buyB w (tR w id).1 (tR w id).2 w.pr j < 1024 by show buyB w (LM w) (VM w) w.pr j < 1024; omega)
    refine ⟨c1, eV _ ?_, s3, k3⟩
    rw [c2, if_neg (by rw [n1]; decide), if_pos n1]
    show nI (costU w.pr (buyB w (LM w) (VM w) w.pr j) 10) = _
    rw [costU_ext hB hN]
    unfold buyB
    cases buyO w (LM w) (VM w) w.pr j with
    | none =>
      show nI (costU w.pr 0 w.N) = nI 0
      have hz : ∀ N, costU w.pr 0 N = 0 := fun N => by
        induction N with
        | zero => rfl
        | succ N ih => unfold costU; rw [ih, Nat.zero_testBit]; simp
      rw [hz]
    | some x => rfl
  · rw [if_pos n0]; exact e2
theorem dear_C {d n : Nat} {σ : St} {w : Wd} {a : Int32} (hn : FIX ≤ n) (hd : 8 ≤ d) (hR : RC σ n w) (hw : WW w) : Cn d n M_X11_dear md_X11_dear [.ref 0, .int a] σ (liI (fun v σ' => dearA w a v ∧ RC σ' n w)) := by
  refine Cn.wk (Q := liI (fun v σ' => dearA w a v ∧ SX σ' n w pdJ id (hdI w) ∧ MK σ' w)) ?_ (by
    rintro v σ' ⟨x, e, h1, h2, h3⟩ hf
    exact ⟨x, e, h1, h2, h3, hR.2.2.st hf (by decide)⟩)
  have hP := hw.P
  refine S_X11_dear hn (by omega) ⟨fun h => ?_, fun h => ⟨Or.inl ⟨fun z => ze.mp h ((hR.1.per hw).mpr ((inP_iff (by omega)).mpr z)), rfl⟩, hR.1, hR.2.1⟩⟩
  have g1 := (hR.1.per hw).mp h
  obtain ⟨j, hj, rfl⟩ := inP_ex (by omega) g1
  refine ⟨_, freshened_spec hn (by omega) hR.1 hw hj, ?_⟩
  rintro p σ1 ⟨rfl, s1, j1, l1⟩ hf1
  have k1 := hR.2.1.low l1
  refine ⟨j1.2.1, _, mark_pr hn k1, ?_⟩
  rintro σ2 ⟨mk, k2⟩ hf2
  have j2 := j1.st hf2 (by decide)
  have s2 := s1.st hf2 (by decide)
  refine ⟨_, leastBetter_spec (a := 0) hn (by omega) j2 hw (tR_w w id) mk (pr_ok hw) hj (by decide), ?_⟩
  rintro v σ3 ⟨o, ho, rfl⟩ hf3
  have s3 := s2.st hf3 (by decide)
  have k3 := k2.st hf3 (by decide)
  have fin : ∀ v, v = optS o (w.pu j) → dearA w (nI j) v := fun v e => Or.inr ⟨j, hj, rfl, o, ho, e⟩
  have hm : gI σ3 (pdJ j) 0 = nI (w.pu j) := (s3.2.2.1 j hj).2.2.1
  have hle : ∀ c, o = some c → c < 2 ^ 31 := fun c e => by
    subst e
    obtain ⟨⟨x, hx, hc⟩, -⟩ := ho
    have hc' : costU w.pr x w.N = c := hc
    have := cost_le (b := x) (pr_ok hw) hw.N
    omega
  cases o with
  | none => exact ⟨fun z => absurd rfl z, fun _ => ⟨fin _ rfl, s3, k3⟩⟩
  | some c =>
    refine ⟨fun _ => ⟨fin _ ?_, s3, k3⟩, fun z => absurd z (optI_ne (hle c rfl))⟩
    rw [hm]; rfl
theorem over_C {d n : Nat} {σ : St} {w : Wd} {a : Int32} (hn : FIX ≤ n) (hd : 8 ≤ d) (hR : RC σ n w) (hw : WW w) : Cn d n M_X11_over md_X11_over [.ref 0, .int a] σ (liI (fun v σ' => v = overV w a ∧ RC σ' n w)) := by
  refine Cn.wk (Q := liI (fun v σ' => v = overV w a ∧ SX σ' n w pdJ id (hdI w) ∧ MK σ' w)) ?_ (by
    rintro v σ' ⟨x, e, h1, h2, h3⟩ hf
    exact ⟨x, e, h1, h2, h3, hR.2.2.st hf (by decide)⟩)
  have hN := hw.N
  refine S_X11_over hn (by omega) ⟨fun h => ?_, fun h => ⟨?_, hR.1, hR.2.1⟩⟩
  · have g := (hR.1.les hw).mp h
    obtain ⟨l, hl, rfl⟩ := inP_ex (by omega) g
    refine ⟨_, freshenAll_spec hn (by omega) hR.1 hw, ?_⟩
    rintro σ1 ⟨s1, x1, l1, r1, -⟩ hf1
    have k1 := hR.2.1.low l1
    refine ⟨_, squareAt_spec hn (by omega) x1 hw (tR_w w id) (pr_ok hw) (Or.inl rfl) k1.2.2 k1.1, ?_⟩
    rintro v σ2 ⟨e1, e2, e3⟩ hf2
    refine ⟨vp_in_nI (by omega) (by decide), ?_, s1.st hf2 (by decide), k1.st0 hf2 e2.z (by decide)⟩
    unfold overV; rw [if_pos g, tn_nI (by omega), nI_clamp (by omega)]; exact ofI (e3 l hl)
  · unfold overV; rw [if_neg (fun z => ze.mp h ((hR.1.les hw).mpr z))]
theorem square_C {d n : Nat} {σ : St} {w : Wd} (hn : FIX ≤ n) (hd : 8 ≤ d) (hR : RC σ n w) (hw : WW w) : Cn d n M_X11_square md_X11_square [.ref 0] σ (liI (fun v σ' => v = squareV w ∧ RC σ' n w)) := by
  refine Cn.wk (Q := liI (fun v σ' => v = squareV w ∧ SX σ' n w pdJ id (hdI w) ∧ MK σ' w)) ?_ (by
    rintro v σ' ⟨x, e, h1, h2, h3⟩ hf
    exact ⟨x, e, h1, h2, h3, hR.2.2.st hf (by decide)⟩)
  refine S_X11_square hn (by omega) ⟨_, freshenAll_spec hn (by omega) hR.1 hw, ?_⟩
  rintro σ1 ⟨s1, x1, l1, r1, -⟩ hf1
  have k1 := hR.2.1.low l1
  refine ⟨_, squareAt_spec hn (by omega) x1 hw (tR_w w id) (pr_ok hw) (Or.inl rfl) k1.2.2 k1.1, ?_⟩
  rintro v σ2 ⟨e1, e2, e3⟩ hf2
  exact ⟨ofI e1, s1.st hf2 (by decide), k1.st0 hf2 e2.z (by decide)⟩
