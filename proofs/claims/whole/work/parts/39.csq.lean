/-! ===== the component: squares ===== -/
/-- the component at work: its plan, its people by seats with their tables -/
def CX (σ : St) (n : Nat) (w : Wd) (pd : Nat → Nat) (L : Nat → Nat → Bool) (V : Nat → Nat → Int) : Prop := RP σ w ∧ gI σ 3 2 = nI w.P ∧ ∀ j, j < w.P → gR σ j = some (pd j) ∧ IsP n (pd j) ∧ gI σ (pd j) 0 = nI (w.pu j) ∧ TbC σ (pd j) w.N (L j) (V j)
def okC (m : Md) : Bool := okP m && (cellFree m 3 2 && (rowFree m 18 && noP m))
theorem CX.fr {σ σ' : St} {n : Nat} {w : Wd} {pd : Nat → Nat} {L : Nat → Nat → Bool} {V : Nat → Nat → Int} (h : CX σ n w pd L V) (h1 : RP σ' w) (h2 : gI σ' 3 2 = gI σ 3 2) (h3 : gR σ' = gR σ) (h4 : ∀ q k, 83 ≤ q → gI σ' q k = gI σ q k) : CX σ' n w pd L V := by
  obtain ⟨a1, a2, a3⟩ := h
  refine ⟨h1, by rw [h2]; exact a2, fun j hj => ?_⟩
  obtain ⟨b1, b2, b3, b4⟩ := a3 j hj
  have b5 : 83 ≤ pd j := b2.1
  exact ⟨by rw [h3]; exact b1, b2, by rw [h4 _ _ b5]; exact b3, b4.fr (h4 _ _ b5) (fun q k x y => h4 q k (by omega))⟩
theorem CX.st {m : Md} {σ σ' : St} {n : Nat} {w : Wd} {pd : Nat → Nat} {L : Nat → Nat → Bool} {V : Nat → Nat → Int} (h : CX σ n w pd L V) (hf : Fr m σ σ') (ho : okC m = true) : CX σ' n w pd L V := by
  simp only [okC, Bool.and_eq_true] at ho
  obtain ⟨o1, o2, o3, o4⟩ := ho
  exact h.fr (h.1.st hf o1) (hf.cell o2) (funext fun k => hf.2.2 k (rowFree_spec o3 k)) (fun q k hq => hf.per o4 hq k)
theorem CX.set {σ : St} {n : Nat} {w : Wd} {pd : Nat → Nat} {L : Nat → Nat → Bool} {V : Nat → Nat → Int} {q k : Nat} {v : Int32} (h : CX σ n w pd L V) (ho : q < 83 ∧ q ≠ 1 ∧ q ≠ 3 ∧ (q < 12 ∨ 16 < q)) : CX (sI σ q k v) n w pd L V :=
  h.fr (h.1.fr (fun k' _ => gI_sI_ne (by omega)) (fun q' k' _ _ => gI_sI_ne (by omega))) (gI_sI_ne (by omega)) rfl (fun q' k' hq => gI_sI_ne (by omega))
theorem TbC.rnk {σ : St} {p N : Nat} {L : Nat → Bool} {V : Nat → Int} (h : TbC σ p N L V) : ∃ m β, Rnk σ p N L V m β := by
  obtain ⟨-, m, β, h⟩ := h
  exact ⟨m, β, h⟩
theorem rkO_bundle {σ : St} {p N m : Nat} {L : Nat → Bool} {V : Nat → Int} {β : Nat → Nat} {o : Option Nat} {v : Int32} (hR : Rnk σ p N L V m β) (hV : ∀ b, -1000000 ≤ V b ∧ V b ≤ 1000000) (hN : 2 ^ N ≤ 1024) (h : rkO m β o v) : pre_X5_bundleAt σ p v ∧ fn_X5_bundleAt σ p v = nI (o.getD 0) := by
  cases o with
  | none => rw [show v = -1 from h]; exact bundleAt_no
  | some b => obtain ⟨r, hr, rfl, rfl⟩ := h; exact bundleAt_in hR hV hN hr
theorem rkO_worth {σ : St} {p N m : Nat} {L : Nat → Bool} {V : Nat → Int} {β : Nat → Nat} {o : Option Nat} {v : Int32} (hR : Rnk σ p N L V m β) (hV : ∀ b, -1000000 ≤ V b ∧ V b ≤ 1000000) (hN : 2 ^ N ≤ 1024) (h : rkO m β o v) : pre_X5_worthAt σ p v ∧ (fn_X5_worthAt σ p v).toInt = optV V o := by
  cases o with
  | none => rw [show v = -1 from h, worthAt_no.2]; exact ⟨worthAt_no.1, rfl⟩
  | some b => obtain ⟨r, hr, rfl, rfl⟩ := h; exact worthAt_in hR hV hN hr
/-- worths of all -/
def vW (V : Nat → Nat → Int) : Prop := ∀ p b, -1000000 ≤ V p b ∧ V p b ≤ 1000000
/-- a contract, weakened; the frame may be used -/
theorem Cn.wk {d n : Nat} {M : MI} {m : Md} {as : List Value} {σ : St} {Q Q' : Option Value → St → Prop} (h : Cn d n M m as σ Q) (hq : ∀ v σ', Q v σ' → Fr m σ σ' → Q' v σ') : Cn d n M m as σ Q' := by
  intro l G A
  have h0 := h l G A
  unfold Met at h0 ⊢
  refine MetFree.mono h0 (fun _ _ h => h) (fun _ _ _ _ _ h => h) ?_
  rintro a st o t - ⟨⟨⟨v, σ', h1, h2, h3, h4⟩, h5⟩, h6⟩
  exact ⟨⟨⟨v, σ', h1, hq v σ' h2 h3, h3, h4⟩, h5⟩, h6⟩
/-- one of the people, with tables -/
def CJ (σ : St) (n : Nat) (w : Wd) (pd : Nat → Nat) (L : Nat → Nat → Bool) (V : Nat → Nat → Int) (j : Nat) : Prop := gR σ j = some (pd j) ∧ IsP n (pd j) ∧ gI σ (pd j) 0 = nI (w.pu j) ∧ TbC σ (pd j) w.N (L j) (V j)
theorem CX.j {σ : St} {n : Nat} {w : Wd} {pd : Nat → Nat} {L : Nat → Nat → Bool} {V : Nat → Nat → Int} (h : CX σ n w pd L V) {j : Nat} (hj : j < w.P) : CJ σ n w pd L V j := h.2.2 j hj
theorem CJ.fr {σ σ' : St} {n : Nat} {w : Wd} {pd : Nat → Nat} {L : Nat → Nat → Bool} {V : Nat → Nat → Int} {j : Nat} (h : CJ σ n w pd L V j) (h3 : gR σ' j = gR σ j) (h4 : ∀ q k, 83 ≤ q → gI σ' q k = gI σ q k) : CJ σ' n w pd L V j := by
  obtain ⟨b1, b2, b3, b4⟩ := h
  have b5 : 83 ≤ pd j := b2.1
  exact ⟨by rw [h3]; exact b1, b2, by rw [h4 _ _ b5]; exact b3, b4.fr (h4 _ _ b5) (fun q k x y => h4 q k (by omega))⟩
theorem CJ.st {m : Md} {σ σ' : St} {n : Nat} {w : Wd} {pd : Nat → Nat} {L : Nat → Nat → Bool} {V : Nat → Nat → Int} {j : Nat} (h : CJ σ n w pd L V j) (hf : Fr m σ σ') (ho : (rowFree m 18 && noP m) = true) : CJ σ' n w pd L V j := by
  simp only [Bool.and_eq_true] at ho
  exact h.fr (hf.2.2 j (rowFree_spec ho.1 j)) (fun q k hq => hf.per ho.2 hq k)
theorem pickC0 {d n : Nat} {σ : St} {w : Wd} {pd : Nat → Nat} {L : Nat → Nat → Bool} {V : Nat → Nat → Int} {c : Nat → Nat} {j : Nat} (hn : FIX ≤ n) (hd : 1 ≤ d) (hX : CJ σ n w pd L V j) (hw : WW w) (hV : vW V) (hM : Mrk σ c) (hc : ∀ l, l < w.N → c l ≤ 1000000) (hj : j < w.P) :
    Cn d n M_X4_pick md_X4_pick [.ref 6, .ref (pd j), .int 0] σ (liI (fun v σ' => (pre_X5_bundleAt σ' (pd j) v ∧ fn_X5_bundleAt σ' (pd j) v = nI (buyB w L V c j)) ∧ (pre_X5_worthAt σ' (pd j) v ∧ (fn_X5_worthAt σ' (pd j) v).toInt = optV (V j) (buyO w L V c j)) ∧ (v = -1 ↔ buyO w L V c j = none))) := by
  obtain ⟨b1, b2, b3, b4⟩ := hX
  obtain ⟨m, β, hR⟩ := b4.rnk
  have hpw := pow10 hw.N
  have hpu := hw.pu j
  intro l G A
  have hs := pick_spec0 (σ := σ) (p := pd j) hn hd b2 hR (hV j) hw.N hM hc b3 (by omega) (Nat.zero_le m) (fun r h => absurd h (by omega))
  have := Cn.wk hs (Q' := liI (fun v σ' => (pre_X5_bundleAt σ' (pd j) v ∧ fn_X5_bundleAt σ' (pd j) v = nI (buyB w L V c j)) ∧ (pre_X5_worthAt σ' (pd j) v ∧ (fn_X5_worthAt σ' (pd j) v).toInt = optV (V j) (buyO w L V c j)) ∧ (v = -1 ↔ buyO w L V c j = none))) ?_
  · exact this l G A
  · rintro v σ' ⟨x, rfl, hr, -⟩ hf
    have hp83 : 83 ≤ pd j := b2.1
    have hR' : Rnk σ' (pd j) w.N (L j) (V j) m β := hR.fr (hf.per (by decide) hp83 8) (fun k => hf.per (by decide) (show P0 ≤ pd j + 4 from Nat.le_trans hp83 (by omega)) k)
    refine ⟨x, rfl, rkO_bundle hR' (hV j) hpw hr, rkO_worth hR' (hV j) hpw hr, ?_⟩
    change rkO m β (buyO w L V c j) x at hr
    cases ho : buyO w L V c j with
    | none => rw [ho] at hr; exact ⟨fun _ => rfl, fun _ => hr⟩
    | some b =>
      rw [ho] at hr
      obtain ⟨r, h1, rfl, h2⟩ := hr
      have := hR.2.1
      exact ⟨fun h => absurd h (optI_ne (x := r) (by omega)), fun h => by cases h⟩
theorem pickC {d n : Nat} {σ : St} {w : Wd} {pd : Nat → Nat} {L : Nat → Nat → Bool} {V : Nat → Nat → Int} {c : Nat → Nat} {j : Nat} (hn : FIX ≤ n) (hd : 1 ≤ d) (hX : CX σ n w pd L V) (hw : WW w) (hV : vW V) (hM : Mrk σ c) (hc : cOk c) (hj : j < w.P) :
    Cn d n M_X4_pick md_X4_pick [.ref 6, .ref (pd j), .int 0] σ (liI (fun v σ' => (pre_X5_bundleAt σ' (pd j) v ∧ fn_X5_bundleAt σ' (pd j) v = nI (buyB w L V c j)) ∧ (pre_X5_worthAt σ' (pd j) v ∧ (fn_X5_worthAt σ' (pd j) v).toInt = optV (V j) (buyO w L V c j)) ∧ (v = -1 ↔ buyO w L V c j = none))) := pickC0 hn hd (hX.j hj) hw hV hM (fun l hl => hc l (by have := hw.N; omega)) hj

/-- rows that squareAt is called at -/
def sqRow (q : Nat) : Prop := q = 24 ∨ q = 29 ∨ q = 31
theorem sqRow.ar {n q : Nat} (hn : FIX ≤ n) (h : sqRow q) : Ar n q 20 10 := by
  rcases h with rfl | rfl | rfl
  · exact ar_24 hn
  · exact ar_29 hn
  · exact ar_31 hn
theorem sqRow.fr {m : Md} {σ σ' : St} {q : Nat} (h : sqRow q) (hf : Fr m σ σ') (ho : (rowFree m 24 && (rowFree m 29 && rowFree m 31)) = true) (k : Nat) : gI σ' q k = gI σ q k := by
  simp only [Bool.and_eq_true] at ho
  obtain ⟨o1, o2, o3⟩ := ho
  rcases h with rfl | rfl | rfl
  · exact hf.row o1 k
  · exact hf.row o2 k
  · exact hf.row o3 k
/-- the market's row of excesses while the seats are counted -/
def Exc (σ : St) (w : Wd) (f : Nat → Nat) : Prop := ∀ l, l < w.N → (gI σ 25 l).toInt = (f l : Int) - w.pl l
theorem squareAt_spec0 {d n q : Nat} {σ : St} {w : Wd} {pd : Nat → Nat} {L : Nat → Nat → Bool} {V : Nat → Nat → Int} {c : Nat → Nat} (hn : FIX ≤ n) (hd : 2 ≤ d) (hX : CX σ n w pd L V) (hw : WW w) (hV : vW V) (hc : ∀ l, l < w.N → c l ≤ 1000000) (hq : sqRow q) (hqc : ∀ l, l < 10 → gI σ q l = nI (c l)) (h0 : gI σ 26 0 = 0 ∧ gI σ 27 0 = 0) :
    Cn d n M_X4_squareAt md_X4_squareAt [.ref 6, .ref q] σ (liI (fun v σ' => v.toInt = sqU (ovr w c (buyB w L V c)) w.N ∧ Mrk σ' c ∧ ∀ l, l < w.N → (gI σ' 25 l).toInt = ovr w c (buyB w L V c) l)) := by
  have hP := hw.P
  have hN := hw.N
  have hpw := pow10 hN
  have ha := hq.ar hn
  have q1 : q ≠ 25 := by unfold sqRow at hq; omega
  have q2 : q ≠ 26 := by unfold sqRow at hq; omega
  have q3 : q ≠ 27 := by unfold sqRow at hq; omega
  have z0 : (0 : Int32).toInt = 0 := by decide
  refine S_X4_squareAt hn (by omega) ha ⟨_, mark_spec hn ha q2 q3 hqc h0, fun σ1 hM1 hf1 => ?_⟩
  generalize hQ : (fun (v : Int32) (σ' : St) => v.toInt = sqU (ovr w c (buyB w L V c)) w.N ∧ Mrk σ' c ∧ ∀ l, l < w.N → (gI σ' 25 l).toInt = ovr w c (buyB w L V c) l) = Q
  have hX1 := hX.st hf1 (by decide)
  have hq1 : ∀ l, l < 10 → gI σ1 q l = nI (c l) := fun l hl => by rw [hq.fr hf1 (by decide)]; exact hqc l hl
  generalize hh : buyB w L V c = h at hQ
  have hhl : ∀ p, h p < 2 ^ w.N := fun p => by rw [← hh]; exact buyB_lt
  -- the last loop
  have last : ∀ l, l ≤ w.N → ∀ (σ2 : St) (x : Int32), CX σ2 n w pd L V → Mrk σ2 c → (∀ l, l < 10 → gI σ2 q l = nI (c l)) → x.toInt = sqU (ovr w c h) l → (∀ l', l' < l → (gI σ2 25 l').toInt = ovr w c h l') → (∀ l', l ≤ l' → l' < w.N → (gI σ2 25 l').toInt = (cntU h l' w.P : Int) - w.pl l') → K_X4_squareAt_127 d n σ Q σ2 q 10 x (nI l) := by
    refine up_ind (N := w.N) ?_ ?_
    · intro σ2 x k1 k2 k3 k4 k5 k6
      refine B_X4_squareAt_127 hn (by omega) ha ⟨fun _ => ?_, fun h => absurd (by rw [k1.1.N]; exact nI_le (Nat.le_refl _) (by omega)) h⟩
      rw [← hQ]; exact ⟨k4, k2, k5⟩
    · intro l hl ih σ2 x k1 k2 k3 k4 k5 k6
      have hv : vp_in (nI l) 10 := vp_in_nI (by omega) (by decide)
      have hpl := hw.pl l
      have g4 := k6 l (Nat.le_refl _) hl
      have hcn := cntU_le h l w.P
      have fin : ∀ σ3 : St, CX σ3 n w pd L V → Mrk σ3 c → (∀ l, l < 10 → gI σ3 q l = nI (c l)) → (∀ l', l' < l + 1 → (gI σ3 25 l').toInt = ovr w c h l') → (∀ l', l + 1 ≤ l' → l' < w.N → (gI σ3 25 l').toInt = (cntU h l' w.P : Int) - w.pl l') → K_X4_squareAt_127 d n σ Q σ3 q 10 (x + gI σ3 25 l * gI σ3 25 l) (nI l + 1) := by
        intro σ3 j1 j2 j3 j4 j5
        rw [nI_1]
        refine ih σ3 _ j1 j2 j3 ?_ j4 j5
        have e := j4 l (by omega)
        have r1 := sq_le (ovr_rng hw c h l)
        have r2 := sqU_rng hw c h l
        have em : (gI σ3 25 l * gI σ3 25 l).toInt = ovr w c h l * ovr w c h l := by
          rw [ti_mul] <;> rw [e] <;> omega
        rw [ti_add] <;> rw [em, k4] <;> (try simp only [sqU]) <;> omega
      have same : ovr w c h l = (cntU h l w.P : Int) - w.pl l → ∀ l', l' < l + 1 → (gI σ2 25 l').toInt = ovr w c h l' := by
        intro he l' hl'
        rcases Nat.lt_or_ge l' l with z | z
        · exact k5 l' z
        · rw [show l' = l by omega, he]; exact g4
      refine B_X4_squareAt_127 hn (by omega) ha ⟨fun h => absurd (by rw [k1.1.N] at h; exact h) (nI_ge hl (by omega)), fun _ => ⟨hv, ?_⟩⟩
      rw [nI_clamp (by omega)]
      refine ⟨fun hge => ⟨hv, hv, fin σ2 k1 k2 k3 (same ?_) (fun l' a b => k6 l' (by omega) b)⟩, fun hge => ⟨hv, fun hc0 => ⟨hv, hv, fin σ2 k1 k2 k3 (same ?_) (fun l' a b => k6 l' (by omega) b)⟩, fun hc0 => ⟨hv, hv, hv, ?_⟩⟩⟩
      · have := le_ti.mp hge; rw [g4, z0] at this
        unfold ovr; rw [if_neg (by omega)]
      · unfold ovr; rw [if_neg]
        rintro ⟨-, qq⟩
        apply hc0
        rw [k3 l (by omega), qq]; rfl
      · have hneg : (cntU h l w.P : Int) - w.pl l < 0 := by
          have : ¬ (0 : Int32).toInt ≤ (gI σ2 25 l).toInt := fun z => hge (le_ti.mpr z)
          rw [g4, z0] at this; omega
        have hcz : c l = 0 := by
          rw [k3 l (by omega)] at hc0
          exact (nI_eq (b := 0) (by have := hc l (by omega); omega) (by decide)).mp hc0
        refine fin (sI σ2 25 l 0) (k1.set (by omega)) (fun b hb => by rw [gI_sI_ne (by omega), gI_sI_ne (by omega)]; exact k2 b hb) (fun l' hl' => by rw [gI_sI_ne (by omega)]; exact k3 l' hl') (fun l' hl' => ?_) (fun l' a b => by rw [gI_sI_ne (by omega)]; exact k6 l' (by omega) b)
        rw [gI_sI]
        by_cases e : l' = l
        · subst e; rw [if_pos ⟨rfl, rfl⟩, z0]; unfold ovr; rw [if_pos ⟨hneg, hcz⟩]
        · rw [if_neg (by omega)]; exact k5 l' (by omega)
  -- the seats
  have mid : ∀ p, p ≤ w.P → ∀ σ2 : St, CX σ2 n w pd L V → Mrk σ2 c → (∀ l, l < 10 → gI σ2 q l = nI (c l)) → Exc σ2 w (fun l => cntU h l p) → K_X4_squareAt_42 d n σ Q σ2 q 10 (nI p) := by
    refine up_ind (N := w.P) ?_ ?_
    · intro σ2 k1 k2 k3 k4
      refine B_X4_squareAt_42 hn (by omega) ha ⟨fun _ => ?_, fun h => absurd (by rw [k1.2.1]; exact nI_le (Nat.le_refl _) (by omega)) h⟩
      exact last 0 (Nat.zero_le _) σ2 0 k1 k2 k3 rfl (fun l' h => absurd h (by omega)) (fun l' _ hl => k4 l' hl)
    · intro p hp ih σ2 k1 k2 k3 k4
      obtain ⟨b1, b2, -, -⟩ := k1.2.2 p hp
      have hpC := nI_clamp (show p < 2 ^ 31 by omega)
      refine B_X4_squareAt_42 hn (by omega) ha ⟨fun h => absurd (by rw [k1.2.1] at h; exact h) (nI_ge hp (by omega)), fun _ => ⟨vp_in_nI (by omega) (by decide), pd p, by rw [hpC]; exact b1, b2, _, pickC0 hn (by omega) (k1.j hp) hw hV k2 hc hp, fun v σ3 ⟨⟨hp1, hp2⟩, _, _⟩ hf3 => ⟨hp1, ?_⟩⟩⟩
      rw [hp2, hh]
      have hX3 := k1.st hf3 (by decide)
      have hM3 : Mrk σ3 c := fun b hb => by rw [hf3.row (by decide), hf3.row (by decide)]; exact k2 b hb
      have hq3 : ∀ l, l < 10 → gI σ3 q l = nI (c l) := fun l hl => by rw [hq.fr hf3 (by decide)]; exact k3 l hl
      have hE3 : Exc σ3 w (fun l => cntU h l p) := fun l hl => by rw [hf3.row (by decide)]; exact k4 l hl
      have inner : ∀ l, l ≤ w.N → ∀ σ4 : St, CX σ4 n w pd L V → Mrk σ4 c → (∀ l, l < 10 → gI σ4 q l = nI (c l)) → Exc σ4 w (fun l' => if l' < l then cntU h l' (p + 1) else cntU h l' p) → K_X4_squareAt_78 d n σ Q σ4 q 10 (nI p) (nI (h p)) (nI l) := by
        refine up_ind (N := w.N) ?_ ?_
        · intro σ4 g1 g2 g3 g4
          refine B_X4_squareAt_78 hn (by omega) ha ⟨fun _ => ?_, fun h => absurd (by rw [g1.1.N]; exact nI_le (Nat.le_refl _) (by omega)) h⟩
          rw [nI_1]
          refine ih σ4 g1 g2 g3 (fun l hl => ?_)
          have := g4 l hl
          simp only [if_pos hl] at this
          exact this
        · intro l hl ih2 σ4 g1 g2 g3 g4
          have hv : vp_in (nI l) 10 := vp_in_nI (by omega) (by decide)
          have hpl := hw.pl l
          have hcn := cntU_le h l p
          have e0 := g4 l hl
          simp only [Nat.lt_irrefl, if_false] at e0
          have hb := hhl p
          refine B_X4_squareAt_78 hn (by omega) ha ⟨fun h => absurd (by rw [g1.1.N] at h; exact h) (nI_ge hl (by omega)), fun _ => ⟨fun hz => ?_, fun hz => ⟨hv, hv, ?_⟩⟩⟩
          · have ht := (cont_z (by omega) (by omega)).mp hz
            rw [nI_1]
            refine ih2 σ4 g1 g2 g3 (fun l' hl' => ?_)
            have g := g4 l' hl'
            by_cases e : l' = l
            · subst e
              simp only [Nat.lt_succ_self, if_true, cntU, if_neg ht, Nat.add_zero]
              exact e0
            · have e2 : (l' < l + 1) ↔ (l' < l) := by omega
              simp only [e2]; exact g
          · have ht := cont_nz (by omega) (by omega) hz
            rw [nI_1, nI_clamp (by omega)]
            refine ih2 _ (g1.set (by omega)) (fun b hb => by rw [gI_sI_ne (by omega), gI_sI_ne (by omega)]; exact g2 b hb) (fun l' hl' => by rw [gI_sI_ne (by omega)]; exact g3 l' hl') (fun l' hl' => ?_)
            have g := g4 l' hl'
            by_cases e : l' = l
            · subst e
              simp only [Nat.lt_succ_self, if_true, cntU, if_pos ht]
              have o1 : (1 : Int32).toInt = 1 := by decide
              rw [gI_sI_same, ti_add] <;> rw [e0, o1] <;> (try push_cast) <;> omega
            · have e2 : (l' < l + 1) ↔ (l' < l) := by omega
              rw [gI_sI_ne (by omega)]
              simp only [e2]; exact g
      refine inner 0 (Nat.zero_le _) σ3 hX3 hM3 hq3 (fun l hl => ?_)
      simp only [Nat.not_lt_zero, if_false]
      exact hE3 l hl
  -- the first loop
  have first : ∀ l, l ≤ w.N → ∀ σ2 : St, CX σ2 n w pd L V → Mrk σ2 c → (∀ l, l < 10 → gI σ2 q l = nI (c l)) → (∀ l', l' < l → (gI σ2 25 l').toInt = -(w.pl l' : Int)) → K_X4_squareAt_7 d n σ Q σ2 q 10 (nI l) := by
    refine up_ind (N := w.N) ?_ ?_
    · intro σ2 k1 k2 k3 k4
      refine B_X4_squareAt_7 hn (by omega) ha ⟨fun _ => ?_, fun h => absurd (by rw [k1.1.N]; exact nI_le (Nat.le_refl _) (by omega)) h⟩
      exact mid 0 (Nat.zero_le _) σ2 k1 k2 k3 (fun l' hl => by rw [k4 l' hl]; simp [cntU])
    · intro l hl ih σ2 k1 k2 k3 k4
      have hv : vp_in (nI l) 10 := vp_in_nI (by omega) (by decide)
      have hpl := hw.pl l
      refine B_X4_squareAt_7 hn (by omega) ha ⟨fun h => absurd (by rw [k1.1.N] at h; exact h) (nI_ge hl (by omega)), fun _ => ⟨hv, hv, ?_⟩⟩
      rw [nI_clamp (by omega), (k1.1.les l (by omega)).1, nI_1]
      refine ih _ (k1.set (by omega)) (fun b hb => by rw [gI_sI_ne (by omega), gI_sI_ne (by omega)]; exact k2 b hb) (fun l' hl' => by rw [gI_sI_ne (by omega)]; exact k3 l' hl') (fun l' hl' => ?_)
      by_cases e : l' = l
      · subst e; rw [gI_sI_same, ti_neg] <;> rw [nI_toInt (by omega)]; omega
      · rw [gI_sI_ne (by omega)]; exact k4 l' (by omega)
  exact first 0 (Nat.zero_le _) σ1 hX1 hM1 hq1 (fun l' h => absurd h (by omega))
theorem squareAt_spec {d n q : Nat} {σ : St} {w : Wd} {pd : Nat → Nat} {L : Nat → Nat → Bool} {V : Nat → Nat → Int} {c : Nat → Nat} (hn : FIX ≤ n) (hd : 2 ≤ d) (hX : CX σ n w pd L V) (hw : WW w) (hV : vW V) (hc : cOk c) (hq : sqRow q) (hqc : ∀ l, l < 10 → gI σ q l = nI (c l)) (h0 : gI σ 26 0 = 0 ∧ gI σ 27 0 = 0) :
    Cn d n M_X4_squareAt md_X4_squareAt [.ref 6, .ref q] σ (liI (fun v σ' => v.toInt = sqU (ovr w c (buyB w L V c)) w.N ∧ Mrk σ' c ∧ ∀ l, l < w.N → (gI σ' 25 l).toInt = ovr w c (buyB w L V c) l)) := squareAt_spec0 hn hd hX hw hV (fun l hl => hc l (by have := hw.N; omega)) hq hqc h0
