/-! ===== the component: squares ===== -/
/-- the component at work: its plan, its people by seats with their tables -/
def CX (σ : St) (n : Nat) (w : Wd) (pd : Nat → Nat) (L : Nat → Nat → Bool) (V : Nat → Nat → Int) : Prop := RP σ w ∧ gI σ 3 2 = nI w.P ∧ ∀ j, j < w.P → gR σ j = some (pd j) ∧ IsP n (pd j) ∧ gI σ (pd j) 0 = nI (w.pu j) ∧ TbC σ (pd j) w.N (L j) (V j)
def okC (m : Md) : Bool := okP m && (cellFree m 3 2 && (rowFree m 18 && noP m))
theorem CX.fr {σ σ' : St} {n : Nat} {w : Wd} {pd : Nat → Nat} {L : Nat → Nat → Bool} {V : Nat → Nat → Int} (h : CX σ n w pd L V) (h1 : RP σ' w) (h2 : gI σ' 3 2 = gI σ 3 2) (h3 : gR σ' = gR σ) (h4 : ∀ q k, 83 ≤ q → gI σ' q k = gI σ q k) : CX σ' n w pd L V := by
  obtain ⟨a1, a2, a3⟩ := h
  refine ⟨h1, by rw [h2]; exact a2, fun j hj => ?_⟩
  obtain ⟨b1, b2, b3, b4⟩ := a3 j hj
  have b5 : 83 ≤ pd j := b2.1
  exact ⟨by rw [h3]; exact b1, b2, by rw [h4 _ _ b5]; exact b3, b4.fr (h4 _ _ b5) (fun q k x y => h4 q k (by omega))⟩
theorem CX.st {m : Md} {σ σ' : St} {n : Nat} {w : Wd} {pd : Nat → Nat} {L : Nat → Nat → Bool} {V : Nat → Nat → Int} (h : CX σ n w pd L V) (hf : Fr m σ σ') (ho : okC m = true) : CX σ' n w pd L V := by
  simp only [okC, Bool.and_eq_true] at ho
  obtain ⟨o1, o2, o3, o4⟩ := ho
  exact h.fr (h.1.st hf o1) (hf.cell o2) (funext fun k => hf.2.2 k (rowFree_spec o3 k)) (fun q k hq => hf.per o4 hq k)
theorem CX.set {σ : St} {n : Nat} {w : Wd} {pd : Nat → Nat} {L : Nat → Nat → Bool} {V : Nat → Nat → Int} {q k : Nat} {v : Int32} (h : CX σ n w pd L V) (ho : q < 83 ∧ q ≠ 1 ∧ q ≠ 3 ∧ (q < 12 ∨ 16 < q)) : CX (sI σ q k v) n w pd L V :=
  h.fr (h.1.fr (fun k' _ => gI_sI_ne (by omega)) (fun q' k' _ _ => gI_sI_ne (by omega))) (gI_sI_ne (by omega)) rfl (fun q' k' hq => gI_sI_ne (by omega))
theorem TbC.rnk {σ : St} {p N : Nat} {L : Nat → Bool} {V : Nat → Int} (h : TbC σ p N L V) : ∃ m β, Rnk σ p N L V m β := by
  obtain ⟨-, m, β, h⟩ := h
  exact ⟨m, β, h⟩
theorem rkO_bundle {σ : St} {p N m : Nat} {L : Nat → Bool} {V : Nat → Int} {β : Nat → Nat} {o : Option Nat} {v : Int32} (hR : Rnk σ p N L V m β) (hV : ∀ b, -1000000 ≤ V b ∧ V b ≤ 1000000) (hN : 2 ^ N ≤ 1024) (h : rkO m β o v) : pre_X5_bundleAt σ p v ∧ fn_X5_bundleAt σ p v = nI (o.getD 0) := by
  cases o with
  | none => rw [show v = -1 from h]; exact bundleAt_no
  | some b => obtain ⟨r, hr, rfl, rfl⟩ := h; exact bundleAt_in hR hV hN hr
theorem rkO_worth {σ : St} {p N m : Nat} {L : Nat → Bool} {V : Nat → Int} {β : Nat → Nat} {o : Option Nat} {v : Int32} (hR : Rnk σ p N L V m β) (hV : ∀ b, -1000000 ≤ V b ∧ V b ≤ 1000000) (hN : 2 ^ N ≤ 1024) (h : rkO m β o v) : pre_X5_worthAt σ p v ∧ (fn_X5_worthAt σ p v).toInt = optV V o := by
  cases o with
  | none => rw [show v = -1 from h, worthAt_no.2]; exact ⟨worthAt_no.1, rfl⟩
  | some b => obtain ⟨r, hr, rfl, rfl⟩ := h; exact worthAt_in hR hV hN hr
/-- worths of all -/
def vW (V : Nat → Nat → Int) : Prop := ∀ p b, -1000000 ≤ V p b ∧ V p b ≤ 1000000
/-- a contract, weakened; the frame may be used -/
theorem Cn.wk {d n : Nat} {M : MI} {m : Md} {as : List Value} {σ : St} {Q Q' : Option Value → St → Prop} (h : Cn d n M m as σ Q) (hq : ∀ v σ', Q v σ' → Fr m σ σ' → Q' v σ') : Cn d n M m as σ Q' := by
  intro l G A
  have h0 := h l G A
  unfold Met at h0 ⊢
  refine MetFree.mono h0 (fun _ _ h => h) (fun _ _ _ _ _ h => h) ?_
  rintro a st o t - ⟨⟨⟨v, σ', h1, h2, h3, h4⟩, h5⟩, h6⟩
  exact ⟨⟨⟨v, σ', h1, hq v σ' h2 h3, h3, h4⟩, h5⟩, h6⟩
/-- a seat's pick from the first rank on -/
theorem pickC {d n : Nat} {σ : St} {w : Wd} {pd : Nat → Nat} {L : Nat → Nat → Bool} {V : Nat → Nat → Int} {c : Nat → Nat} {j : Nat} (hn : FIX ≤ n) (hd : 1 ≤ d) (hX : CX σ n w pd L V) (hw : WW w) (hV : vW V) (hM : Mrk σ c) (hc : cOk c) (hj : j < w.P) :
    Cn d n M_X4_pick md_X4_pick [.ref 6, .ref (pd j), .int 0] σ (liI (fun v σ' => (pre_X5_bundleAt σ' (pd j) v ∧ fn_X5_bundleAt σ' (pd j) v = nI (buyB w L V c j)) ∧ (pre_X5_worthAt σ' (pd j) v ∧ (fn_X5_worthAt σ' (pd j) v).toInt = optV (V j) (buyO w L V c j)) ∧ (v = -1 ↔ buyO w L V c j = none))) := by
  obtain ⟨b1, b2, b3, b4⟩ := hX.2.2 j hj
  obtain ⟨m, β, hR⟩ := b4.rnk
  have hpw := pow10 hw.N
  have hpu := hw.pu j
  intro l G A
  have hs := pick_spec (σ := σ) (p := pd j) hn hd b2 hR (hV j) hw.N hM hc b3 (by omega) (Nat.zero_le m) (fun r h => absurd h (by omega))
  have := Cn.wk hs (Q' := liI (fun v σ' => (pre_X5_bundleAt σ' (pd j) v ∧ fn_X5_bundleAt σ' (pd j) v = nI (buyB w L V c j)) ∧ (pre_X5_worthAt σ' (pd j) v ∧ (fn_X5_worthAt σ' (pd j) v).toInt = optV (V j) (buyO w L V c j)) ∧ (v = -1 ↔ buyO w L V c j = none))) ?_
  · exact this l G A
  · rintro v σ' ⟨x, rfl, hr, -⟩ hf
    have hp83 : 83 ≤ pd j := b2.1
    have hR' : Rnk σ' (pd j) w.N (L j) (V j) m β := hR.fr (hf.per (by decide) hp83 8) (fun k => hf.per (by decide) (show P0 ≤ pd j + 4 from Nat.le_trans hp83 (by omega)) k)
    refine ⟨x, rfl, rkO_bundle hR' (hV j) hpw hr, rkO_worth hR' (hV j) hpw hr, ?_⟩
    change rkO m β (buyO w L V c j) x at hr
    cases ho : buyO w L V c j with
    | none => rw [ho] at hr; exact ⟨fun _ => rfl, fun _ => hr⟩
    | some b =>
      rw [ho] at hr
      obtain ⟨r, h1, rfl, h2⟩ := hr
      have := hR.2.1
      exact ⟨fun h => absurd h (optI_ne (x := r) (by omega)), fun h => by cases h⟩
