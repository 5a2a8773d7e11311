/-! ===== the model: goesOn, fits ===== -/
theorem squares_MT {d n : Nat} {σ : St} {w : Wd} {c : Nat → Nat} (hn : FIX ≤ n) (hd : 3 ≤ d) (hM : MT σ w c) (hw : WW w) (hc : cOk c) : Cn d n M_X12_squares md_X12_squares [.ref 11] σ (liI (fun v σ' => MT σ' w c ∧ v.toInt = sqN w (tM w) c ∧ (∀ p, p < w.P → gI σ' 64 p = nI (buyB w (LM w) (VM w) c p)) ∧ ∀ l, l < w.N → (gI σ' 65 l).toInt = ovN w (tM w) c l)) :=
  Cn.wk (squares_spec hn hd (hM.x hw) hw (VM_ok w) hc) (by
    rintro v σ' ⟨x, rfl, h1, h2, h3⟩ hf
    exact ⟨x, rfl, hM.st hw hf (by decide), h1, h2, h3⟩)
theorem sqN_rng {w : Wd} (hw : WW w) (t : Tb) (c : Nat → Nat) : 0 ≤ sqN w t c ∧ sqN w t c ≤ 810 := by
  have h := sqU_rng hw c (buyB w t.1 t.2 c) w.N
  have hN := hw.N
  unfold sqN
  have e : sqU (ovN w t c) w.N = sqU (ovr w c (buyB w t.1 t.2 c)) w.N := rfl
  omega
