/-! ===== the model: feed; worlds stay well ===== -/
def byK (a : Int32) (k : Nat) : Nat := a.toBitVec.toNat / 2 ^ k % 256
theorem byK_lt (a : Int32) (k : Nat) : byK a k < 256 := Nat.mod_lt _ (by decide)
theorem shr_bv {a : Int32} {k : Nat} (hk : k < 32) : (a >>> (nI k &&& 31)).toBitVec = a.toBitVec.sshiftRight k := by
  rw [Int32.toBitVec_shiftRight]
  show a.toBitVec.sshiftRight ((nI k &&& 31).toBitVec.smod 32).toNat = _
  rw [smod_and hk]
theorem shr_bit {a : Int32} {k i : Nat} (hk : k + 8 ≤ 32) (hi : i < 8) : (a >>> (nI k &&& 31)).toBitVec.getLsbD i = a.toBitVec.getLsbD (k + i) := by
  rw [shr_bv (by omega), BitVec.getLsbD_sshiftRight]
  simp only [show ¬ (32 ≤ i) by omega, decide_false, Bool.not_false, Bool.true_and]
  rw [if_pos (by omega)]
theorem byK_bit {a : Int32} {k i : Nat} : (byK a k).testBit i = (decide (i < 8) && a.toBitVec.getLsbD (k + i)) := by
  unfold byK
  rw [show 256 = 2 ^ 8 from rfl, Nat.testBit_mod_two_pow, Nat.testBit_div_two_pow, Nat.add_comm]
  rfl
theorem shr255 {a : Int32} {k : Nat} (hk : k + 8 ≤ 32) : (a >>> (nI k &&& 31)) &&& 255 = nI (byK a k) := by
  apply Int32.toBitVec_inj.mp
  rw [Int32.toBitVec_and, nI_bv]
  apply BitVec.eq_of_getLsbD_eq
  intro i hi
  rw [BitVec.getLsbD_and, BitVec.getLsbD_ofNat, byK_bit]
  have e : (255 : Int32).toBitVec.getLsbD i = decide (i < 8) := by
    revert i hi; decide
  rw [e]
  by_cases h8 : i < 8
  · rw [shr_bit hk h8]; simp [h8, hi]
  · simp [h8]
theorem shr8 {a : Int32} {k : Nat} (hk : k + 8 ≤ 32) : (a >>> (nI k &&& 31)).toInt8.toInt32 = sb8 (byK a k) := by
  unfold sb8
  congr 1
  apply Int8.toBitVec_inj.mp
  rw [Int32.toBitVec_toInt8, Int32.toBitVec_toInt8, nI_bv]
  apply BitVec.eq_of_getLsbD_eq
  intro i hi
  rw [BitVec.getLsbD_signExtend, BitVec.getLsbD_signExtend, if_pos (by omega), if_pos (by omega), BitVec.getLsbD_ofNat, byK_bit, shr_bit hk hi]
  simp [hi]; omega
theorem nar8 (x : Int8) : vp_nar .byte x.toInt32 = x.toInt32 := by rw [vp_nar_byte]; simp
/-- one byte more on the tape -/
def pushB (w : Wd) (x : Nat) : Wd := (w.N, w.P, w.A, w.mo, w.sp, w.pl, w.fr, w.to, w.a1, w.a2, w.pr, w.pu, w.dn, w.hd, w.ws, w.lie, w.T + 1, puh w.tp w.T x, w.fa, w.ver)
def putW (w : Wd) (a : Int32) : Wd := pushB (pushB (pushB (pushB w (byK a 24)) (byK a 16)) (byK a 8)) (byK a 0)
def feedW (w : Wd) (a b c d e : Int32) : Wd := if w.T ≤ 380 then putW (putW (putW (putW (putW w a) b) c) d) e else w
def feedV (w : Wd) : Int32 := if w.T ≤ 380 then nI (w.T + 20) else -1
theorem push_MG {σ : St} {w : Wd} {x : Nat} (hM : MG σ w) (hT : w.T < 400) : MG (sI (sI σ 59 w.T (sb8 x)) 11 14 (nI (w.T + 1))) (pushB w x) := by
  obtain ⟨⟨x1, x2, x3, x4, x5, x6, x7, x8, x9, x10, x11, x12, x13, x14, v, x15, x16⟩, h38, hc⟩ := hM
  generalize hτ : sI (sI σ 59 w.T (sb8 x)) 11 14 (nI (w.T + 1)) = τ
  have f : ∀ q k, ¬ (q = 11 ∧ k = 14) → q ≠ 59 → gI τ q k = gI σ q k := fun q k hq h2 => by
    subst hτ; rw [gI_sI_ne (by omega), gI_sI_ne (by omega)]
  refine ⟨⟨?_, ?_, ?_, ?_, ?_, fun l' hl' => ?_, fun k hk => ?_, fun j hj => ?_, fun r hr => (x9 r hr).fr (fun q k a b => f q k (by omega) (by omega)), ?_, ?_, fun i hi => ?_, ?_, ?_, v, x15, ?_⟩, ?_, fun e r hr => ?_⟩
  · rw [f _ _ (by decide) (by decide)]; exact x1
  · rw [f _ _ (by decide) (by decide)]; exact x2
  · rw [f _ _ (by decide) (by decide)]; exact x3
  · rw [f _ _ (by decide) (by decide)]; exact x4
  · rw [f _ _ (by decide) (by decide)]; exact x5
  · rw [f 41 _ (by omega) (by decide), f 42 _ (by omega) (by decide), f 43 _ (by omega) (by decide), f 44 _ (by omega) (by decide)]; exact x6 l' hl'
  · rw [f 45 _ (by omega) (by decide), f 46 _ (by omega) (by decide)]; exact x7 k hk
  · rw [f 47 _ (by omega) (by decide), f 48 _ (by omega) (by decide), f 49 _ (by omega) (by decide)]; exact x8 j hj
  · rw [f _ _ (by decide) (by decide)]; exact x10
  · subst hτ; rw [gI_sI_same]; rfl
  · subst hτ
    replace hi : i < w.T + 1 := hi
    rw [gI_sI_ne (by omega), gI_sI]
    show _ = sb8 (puh w.tp w.T x i)
    by_cases e : i = w.T
    · rw [if_pos ⟨rfl, e⟩, e, puh_same]
    · rw [if_neg (fun z => e z.2), puh_ne e]; exact x12 i (by omega)
  · rw [f _ _ (by decide) (by decide)]; exact x13
  · rw [f _ _ (by decide) (by decide)]; exact x14
  · rw [f _ _ (by decide) (by decide)]; exact x16
  · rw [f _ _ (by decide) (by decide)]; exact h38
  · rw [f _ _ (by decide) (by decide), f _ _ (by decide) (by decide)] at e
    rw [law_ext (w := w) (w' := pushB w x) (j := r) rfl rfl rfl rfl rfl rfl rfl rfl rfl rfl, wth_ext (w := w) (w' := pushB w x) (j := r) rfl rfl rfl rfl rfl]
    exact (hc e r hr).fr (fun k _ _ => ⟨f _ _ (by omega) (by decide), f _ _ (by omega) (by decide)⟩)
theorem four_M {d n : Nat} {σ : St} {w : Wd} {a : Int32} (hn : FIX ≤ n) (hM : MG σ w) (hT : w.T + 4 ≤ 400) : Cn d n M_X12_four md_X12_four [.ref 11, .int a] σ (liV (fun σ' => MG σ' (putW w a))) := by
  have eT : ∀ (σ1 : St) (w1 : Wd), MG σ1 w1 → gI σ1 11 14 = nI w1.T := fun σ1 w1 m => m.1.2.2.2.2.2.2.2.2.2.2.1
  have one : ∀ (σ1 : St) (w1 : Wd) (k : Nat), MG σ1 w1 → w1.T < 400 → k + 8 ≤ 32 → (∀ σ2, MG σ2 (pushB w1 (byK a k)) → K_X12_four_3 d n σ (fun σ' => MG σ' (putW w a)) σ2 a (nI k + (-8))) → K_X12_four_3 d n σ (fun σ' => MG σ' (putW w a)) σ1 a (nI k) := by
    intro σ1 w1 k m hT1 hk h
    refine B_X12_four_3 hn ⟨fun z => ?_, fun _ => ?_⟩
    · have := lt_ti.mp z
      rw [nI_toInt (by omega), show (0 : Int32).toInt = 0 by decide] at this; omega
    · rw [gI_sI_ne (j := 11) (by omega), eT _ _ m, nI_clamp (by omega), nI_1, nar8, shr8 hk]
      exact ⟨vp_in_nI (by omega) (by decide), h _ (push_MG m hT1)⟩
  refine S_X12_four hn ?_
  refine one σ w 24 hM (by omega) (by decide) (fun σ2 m2 => ?_)
  refine one σ2 _ 16 m2 (by show w.T + 1 < 400; omega) (by decide) (fun σ3 m3 => ?_)
  refine one σ3 _ 8 m3 (by show w.T + 1 + 1 < 400; omega) (by decide) (fun σ4 m4 => ?_)
  refine one σ4 _ 0 m4 (by show w.T + 1 + 1 + 1 < 400; omega) (by decide) (fun σ5 m5 => ?_)
  exact B_X12_four_3 hn ⟨fun _ => m5, fun z => absurd (by decide) z⟩
theorem putW_T (w : Wd) (a : Int32) : (putW w a).T = w.T + 4 := rfl
theorem feed_M {d n : Nat} {σ : St} {w : Wd} {a b c e g : Int32} (hn : FIX ≤ n) (hd : 2 ≤ d) (hM : MG σ w) (hw : WW w) : Cn d n M_X12_feed md_X12_feed [.ref 11, .int a, .int b, .int c, .int e, .int g] σ (liI (fun v σ' => v = feedV w ∧ MG σ' (feedW w a b c e g))) := by
  have hT := hw.T
  have eT : ∀ (σ1 : St) (w1 : Wd), MG σ1 w1 → gI σ1 11 14 = nI w1.T := fun σ1 w1 m => m.1.2.2.2.2.2.2.2.2.2.2.1
  have e20 : (gI σ 11 14 + 20).toInt = w.T + 20 := by
    rw [eT _ _ hM, ti_add] <;> rw [nI_toInt (by omega), show (20 : Int32).toInt = 20 by decide] <;> omega
  have e400 : (400 : Int32).toInt = 400 := by decide
  unfold feedV feedW
  refine S_X12_feed hn (by omega) ⟨fun h => ?_, fun h => ?_⟩
  · have h2 := le_ti.mp h
    rw [e20, e400] at h2
    rw [if_pos (by omega), if_pos (by omega)]
    refine ⟨_, four_M hn hM (by omega), fun σ1 m1 _ => ⟨_, four_M hn m1 (by rw [putW_T]; omega), fun σ2 m2 _ => ⟨_, four_M hn m2 (by rw [putW_T, putW_T]; omega), fun σ3 m3 _ => ⟨_, four_M hn m3 (by rw [putW_T, putW_T, putW_T]; omega), fun σ4 m4 _ => ⟨_, four_M hn m4 (by rw [putW_T, putW_T, putW_T, putW_T]; omega), fun σ5 m5 _ => ⟨?_, m5⟩⟩⟩⟩⟩⟩
    rw [eT _ _ m5]; rfl
  · have h2 : ¬ _ ≤ _ := fun z => h (le_ti.mpr z)
    rw [e20, e400] at h2
    rw [if_neg (by omega), if_neg (by omega)]; exact ⟨rfl, hM⟩
/-! worlds stay well -/
theorem puh_all {f : Nat → Nat} {p x : Nat} {S : Nat → Prop} (h : ∀ q, S (f q)) (hx : S x) : ∀ q, S (puh f p x q) := fun q => by unfold puh; split; exact hx; exact h q
theorem placesW_WW {w : Wd} (h : WW w) (a1 a2 : Int32) : WW (placesW w a1 a2) := by
  unfold placesW; split
  · next g =>
    obtain ⟨x1, x2, x3, x4, x5, x6, x7, x8, x9, x10, x11, x12, x13, x14, x15, x16⟩ := h
    have g1 := inP_tn g.1
    have g2 := inP_tn g.2
    exact ⟨x1, x2, x3, x4, x5, puh_all (S := fun y => y ≤ 9) x6 (by show tn a2 ≤ 9; omega), x7, x8, x9, x10, x11, x12, x13, x14, x15, fun l hl => ⟨by show puh w.pl _ _ l = 0; replace hl : w.N ≤ l := hl; rw [puh_ne (by omega)]; exact (x16 l hl).1, (x16 l hl).2⟩⟩
  · exact h
theorem priceW_WW {w : Wd} (h : WW w) (a1 a2 : Int32) : WW (priceW w a1 a2) := by
  unfold priceW; split
  · next g =>
    have g1 := inP_tn g.1
    have g2 := inP_tn g.2
    exact setPr_WW h (puh_all (S := fun y => y ≤ 250) h.pr (by show tn a2 ≤ 250; omega)) (fun l hl => by rw [puh_ne (by omega)]; exact (h.zz l hl).2)
  · exact h
theorem stepW_WW {w : Wd} (h : WW w) (a : Int32) : WW (stepW w a) := by
  unfold stepW; split
  · next g =>
    obtain ⟨x1, x2, x3, x4, x5, x6, x7, x8, x9, x10, x11, x12, x13, x14, x15, x16⟩ := h
    exact ⟨x1, x2, x3, x4, by show 1 ≤ tn a ∧ tn a ≤ 50; unfold tn; omega, x6, x7, x8, x9, x10, x11, x12, x13, x14, x15, x16⟩
  · exact h
theorem mostW_WW {w : Wd} (h : WW w) (a : Int32) : WW (mostW w a) := by
  unfold mostW; split
  · next g =>
    obtain ⟨x1, x2, x3, x4, x5, x6, x7, x8, x9, x10, x11, x12, x13, x14, x15, x16⟩ := h
    exact ⟨x1, x2, x3, by show 1 ≤ tn a ∧ tn a ≤ 6; unfold tn; omega, x5, x6, x7, x8, x9, x10, x11, x12, x13, x14, x15, x16⟩
  · exact h
theorem giveW_WW {w : Wd} (h : WW w) (a1 a2 : Int32) : WW (giveW w a1 a2) := by
  unfold giveW; split
  · next g =>
    obtain ⟨x1, x2, x3, x4, x5, x6, x7, x8, x9, x10, x11, x12, x13, x14, x15, x16⟩ := h
    have g2 := inP_tn g.2
    exact ⟨x1, x2, x3, x4, x5, x6, x7, x8, x9, x10, x11, puh_all (S := fun x => x < 2 ^ w.N) x12 g2.1, x13, x14, x15, x16⟩
  · exact h
theorem purseW_WW {w : Wd} (h : WW w) (a1 a2 : Int32) : WW (purseW w a1 a2) := by
  unfold purseW; split
  · next g =>
    obtain ⟨x1, x2, x3, x4, x5, x6, x7, x8, x9, x10, x11, x12, x13, x14, x15, x16⟩ := h
    have g2 := inP_tn g.2
    exact ⟨x1, x2, x3, x4, x5, x6, x7, x8, x9, puh_all (S := fun y => y ≤ 200) x10 (by show tn a2 ≤ 200; omega), x11, x12, x13, x14, x15, x16⟩
  · exact h
theorem lessonW_WW {w : Wd} (h : WW w) (a1 a2 a3 : Int32) : WW (lessonW w a1 a2 a3) := by
  unfold lessonW; split
  · next g =>
    obtain ⟨g1, g2, g3, g4⟩ := g
    obtain ⟨x1, x2, x3, x4, x5, x6, x7, x8, x9, x10, x11, x12, x13, x14, x15, x16⟩ := h
    have e1 := inP_tn g1
    have e2 := g2.1
    refine ⟨by show w.N + 1 ≤ 10; omega, x2, x3, x4, x5, puh_all (S := fun y => y ≤ 9) x6 (by show tn a1 ≤ 9; omega), fun l hl => ?_, fun k hk => ?_, x9, x10, x11, fun j => ?_, x13, x14, x15, fun l hl => ?_⟩
    · show puh w.fr w.N (tn a2) l < puh w.to w.N (tn a3) l ∧ puh w.to w.N (tn a3) l ≤ 40
      replace hl : l < w.N + 1 := hl
      by_cases e : l = w.N
      · rw [e, puh_same, puh_same]; unfold tn; omega
      · rw [puh_ne e, puh_ne e]; exact x7 l (by omega)
    · have := x8 k hk
      show w.a1 k < w.N + 1 ∧ w.a2 k < w.N + 1
      omega
    · have h1 : w.hd j < 2 ^ w.N := x12 j
      have h2 : 2 ^ w.N ≤ 2 ^ (w.N + 1) := Nat.pow_le_pow_right (by decide) (by omega)
      show w.hd j < 2 ^ (w.N + 1)
      omega
    · replace hl : w.N + 1 ≤ l := hl
      refine ⟨?_, (x16 l (by omega)).2⟩
      show puh w.pl w.N (tn a1) l = 0
      rw [puh_ne (by omega)]; exact (x16 l (by omega)).1
  · exact h
theorem afterW_WW {w : Wd} (h : WW w) (a1 a2 : Int32) : WW (afterW w a1 a2) := by
  unfold afterW; split
  · next g =>
    obtain ⟨⟨g1, g2, g3, g4⟩, g5⟩ := g
    obtain ⟨x1, x2, x3, x4, x5, x6, x7, x8, x9, x10, x11, x12, x13, x14, x15, x16⟩ := h
    have e1 := inP_tn g1
    have e2 := inP_tn g2
    refine ⟨x1, x2, by show w.A + 1 ≤ 20; omega, x4, x5, x6, x7, fun k hk => ?_, x9, x10, x11, x12, x13, x14, x15, x16⟩
    replace hk : k < w.A + 1 := hk
    show puh w.a1 w.A (tn a1) k < w.N ∧ puh w.a2 w.A (tn a2) k < w.N
    by_cases e : k = w.A
    · rw [e, puh_same, puh_same]; omega
    · rw [puh_ne e, puh_ne e]; exact x8 k (by omega)
  · exact h
theorem WR_nil : WR [] := ⟨fun s hs => by simp at hs, by decide, by decide⟩
theorem personW_WW {w : Wd} (h : WW w) (a1 a2 : Int32) : WW (personW w a1 a2) := by
  unfold personW; split
  · next g =>
    obtain ⟨g1, g2, g3⟩ := g
    obtain ⟨x1, x2, x3, x4, x5, x6, x7, x8, x9, x10, x11, x12, x13, x14, x15, x16⟩ := h
    have e1 := inP_tn g1
    have e2 := inP_tn g2
    refine ⟨x1, by show w.P + 1 ≤ 8; omega, x3, x4, x5, x6, x7, x8, x9, puh_all (S := fun y => y ≤ 200) x10 (by show tn a1 ≤ 200; omega), puh_all (S := fun y => y < 1024) x11 e2.1, x12, fun r => ?_, x14, x15, x16⟩
    show WR (if r = w.P then [] else w.ws r)
    split
    · exact WR_nil
    · exact x13 r
  · exact h
theorem pushB_WW {w : Wd} {x : Nat} (h : WW w) (hT : w.T < 400) (hx : x < 256) : WW (pushB w x) := by
  obtain ⟨x1, x2, x3, x4, x5, x6, x7, x8, x9, x10, x11, x12, x13, x14, x15, x16⟩ := h
  exact ⟨x1, x2, x3, x4, x5, x6, x7, x8, x9, x10, x11, x12, x13, by show w.T + 1 ≤ 400; omega, puh_all (S := fun y => y < 256) x15 hx, x16⟩
theorem putW_WW {w : Wd} {a : Int32} (h : WW w) (hT : w.T + 4 ≤ 400) : WW (putW w a) :=
  pushB_WW (pushB_WW (pushB_WW (pushB_WW h (by omega) (byK_lt _ _)) (by show w.T + 1 < 400; omega) (byK_lt _ _)) (by show w.T + 1 + 1 < 400; omega) (byK_lt _ _)) (by show w.T + 1 + 1 + 1 < 400; omega) (byK_lt _ _)
theorem feedW_WW {w : Wd} (h : WW w) (a b c d e : Int32) : WW (feedW w a b c d e) := by
  unfold feedW; split
  · exact putW_WW (putW_WW (putW_WW (putW_WW (putW_WW h (by omega)) (by rw [putW_T]; omega)) (by rw [putW_T, putW_T]; omega)) (by rw [putW_T, putW_T, putW_T]; omega)) (by rw [putW_T, putW_T, putW_T, putW_T]; omega)
  · exact h
