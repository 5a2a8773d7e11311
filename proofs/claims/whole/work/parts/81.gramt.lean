/-! ===== what is said stands: types, lengths ===== -/
theorem tcL_app (B : Nat) : ∀ (a b : List Op) (ts : List Bool), tcL B (a ++ b) ts = (tcL B a ts).bind (tcL B b)
  | [], b, ts => rfl
  | o :: a, b, ts => by
    show (tcO B o ts).bind (tcL B (a ++ b)) = ((tcO B o ts).bind (tcL B a)).bind (tcL B b)
    cases tcO B o ts with
    | none => rfl
    | some x => exact tcL_app B a b x
/-- a part leaves one more of a type, if there is room -/
def TG (b : Bool) (R : Nat) (A : Nat → Res) : Prop := ∀ i ts, (A i).1 = true → ts.length + R ≤ 40 → tcL 40 (A i).2.2 ts = some (b :: ts)
def JG (b : Bool) (t : Nat) : Prop := ∀ ts : List Bool, tcL 40 [(opK t, 0)] (b :: b :: ts) = some (b :: ts)
theorem chn_tg {K : Nat → Nat} {sg : Nat → Bool} {A : Nat → Res} {b : Bool} {R : Nat} (hA : TG b R A) (hj : ∀ t, sg t = true → t ≠ 0 ∧ JG b t) : ∀ g i t ts, (t ≠ 0 → JG b t) → (chn K sg A g i t).1 = true → ts.length + R + 1 ≤ 40 → tcL 40 (chn K sg A g i t).2.2 (if t = 0 then ts else b :: ts) = some (b :: ts)
  | 0, i, t, ts, ht, h, hR => by cases h
  | g + 1, i, t, ts, ht, h, hR => by
    have step : (A i).1 = true → tcL 40 ((A i).2.2 ++ em t) (if t = 0 then ts else b :: ts) = some (b :: ts) := fun h1 => by
      rw [tcL_app]
      unfold em
      by_cases e : t = 0
      · rw [if_pos e, if_pos e, hA i ts h1 (by omega)]; rfl
      · rw [if_neg e, if_neg e, hA i (b :: ts) h1 (by rw [List.length_cons]; omega)]
        exact ht e ts
    unfold chn at h ⊢
    by_cases h1 : (A i).1 = true
    · rw [if_pos h1] at h ⊢
      by_cases h2 : sg (K (A i).2.1) = true
      · rw [if_pos h2] at h ⊢
        obtain ⟨n0, hJ⟩ := hj _ h2
        have ih := chn_tg hA hj g ((A i).2.1 + 1) (K (A i).2.1) ts (fun _ => hJ) h hR
        rw [if_neg n0] at ih
        show tcL 40 ((A i).2.2 ++ em t ++ _) _ = _
        rw [tcL_app, step h1]
        exact ih
      · rw [if_neg h2]
        exact step h1
    · rw [if_neg h1] at h; cases h
theorem chn0_tg {K : Nat → Nat} {sg : Nat → Bool} {A : Nat → Res} {b : Bool} {R g : Nat} (hA : TG b R A) (hj : ∀ t, sg t = true → t ≠ 0 ∧ JG b t) : TG b (R + 1) (fun i => chn K sg A g i 0) := fun i ts h hR => by
  have := chn_tg hA hj g i 0 ts (fun z => absurd rfl z) h (by omega)
  simpa using this
theorem jT : ∀ t, isT t = true → t ≠ 0 ∧ JG true t := fun t h => by
  rcases of_decide_eq_true h with e | e <;> subst e <;> exact ⟨by decide, fun ts => rfl⟩
theorem jP : ∀ t, isP t = true → t ≠ 0 ∧ JG true t := fun t h => by
  rcases of_decide_eq_true h with e | e <;> subst e <;> exact ⟨by decide, fun ts => rfl⟩
theorem jA : ∀ t, isA t = true → t ≠ 0 ∧ JG false t := fun t h => by
  have e := of_decide_eq_true h; subst e; exact ⟨by decide, fun ts => rfl⟩
theorem jO : ∀ t, isO t = true → t ≠ 0 ∧ JG false t := fun t h => by
  have e := of_decide_eq_true h; subst e; exact ⟨by decide, fun ts => rfl⟩
theorem ex_tg {K : Nat → Nat} {A : Nat → Res} {R : Nat} (hA : TG true R A) : TG true (R + 2) (exOf K A) := chn0_tg (chn0_tg (A := A) hA jT) jP
theorem any_tg {K : Nat → Nat} {A : Nat → Res} {R : Nat} (hA : TG false R A) : TG false (R + 2) (anyOf K A) := chn0_tg (chn0_tg (A := A) hA jA) jO
theorem clsd_ok {K : Nat → Nat} {k : Nat} {r : Res} (h : (clsd K k r).1 = true) : r.1 = true ∧ (clsd K k r).2.2 = r.2.2 := by
  unfold clsd at h ⊢
  by_cases h1 : r.1 = true
  · rw [if_pos h1] at h ⊢
    by_cases h2 : K r.2.1 = k
    · rw [if_pos h2]; exact ⟨h1, rfl⟩
    · rw [if_neg h2] at h; cases h
  · rw [if_neg h1] at h; cases h
theorem atom0_tg {K V : Nat → Nat} {E : Option (Nat → Res)} {R : Nat} (hV : ∀ j, V j ≤ 99999) (hR0 : 1 ≤ R) (hE : ∀ e, E = some e → TG true R e) : TG true R (atom0 K V E) := fun i ts h hR => by
  unfold atom0 at h ⊢
  by_cases h1 : K i = 256
  · rw [if_pos h1]
    show (tcO 40 (0, V i) ts).bind (tcL 40 []) = some (true :: ts)
    unfold tcO
    rw [if_pos rfl, if_pos ⟨hV i, by omega⟩]; rfl
  rw [if_neg h1] at h ⊢
  by_cases h2 : 8 ≤ K i ∧ K i ≤ 13
  · rw [if_pos h2]
    show (tcO 40 (1, K i - 8) ts).bind (tcL 40 []) = some (true :: ts)
    unfold tcO
    rw [if_neg (show ¬ (1 : Nat) = 0 by decide), if_pos rfl, if_pos ⟨by show K i - 8 < 6; omega, by omega⟩]; rfl
  rw [if_neg h2] at h ⊢
  by_cases h3 : K i = 7
  · rw [if_pos h3] at h ⊢
    by_cases h5 : K (i + 1) = 256 ∧ V (i + 1) < 10
    · rw [if_pos h5]
      show (tcO 40 (2, V (i + 1)) ts).bind (tcL 40 []) = some (true :: ts)
      unfold tcO
      rw [if_neg (show ¬ (2 : Nat) = 0 by decide), if_neg (show ¬ (2 : Nat) = 1 by decide), if_pos rfl, if_pos ⟨h5.2, by omega⟩]; rfl
    · rw [if_neg h5] at h; cases h
  rw [if_neg h3] at h ⊢
  by_cases h4 : K i = 40
  · rw [if_pos h4] at h ⊢
    cases E with
    | none => cases h
    | some e =>
      have h' : (clsd K 41 (e (i + 1))).1 = true := h
      obtain ⟨q1, q2⟩ := clsd_ok h'
      show tcL 40 (clsd K 41 (e (i + 1))).2.2 ts = some (true :: ts)
      rw [q2]; exact hE e rfl (i + 1) ts q1 hR
  · rw [if_neg h4] at h; cases h
theorem atom_tg {K V : Nat → Nat} (hV : ∀ j, V j ≤ 99999) : ∀ L, TG true (2 * L + 1) (atomS K V L)
  | 0 => atom0_tg hV (by omega) (fun e h => by cases h)
  | L + 1 => atom0_tg hV (by omega) (fun e h => by
    cases h
    have := ex_tg (K := K) (atom_tg (K := K) hV L)
    rw [show 2 * (L + 1) + 1 = 2 * L + 1 + 2 by omega]; exact this)
theorem exS_tg {K V : Nat → Nat} (hV : ∀ j, V j ≤ 99999) (L : Nat) : TG true (2 * L + 3) (exS K V L) := ex_tg (atom_tg hV L)
theorem sgl0_tg {K : Nat → Nat} {E : Nat → Res} {S : Option (Nat → Res)} {R : Nat} (hE : TG true R E) (hS : ∀ s, S = some s → TG false (R - 1) s) (hR1 : 2 ≤ R) : TG false (R + 1) (sgl0 K E S) := fun i ts h hR => by
  unfold sgl0 at h ⊢
  by_cases h1 : K i = 6
  · rw [if_pos h1] at h ⊢
    cases S with
    | none => cases h
    | some s =>
      by_cases h6 : (s (i + 1)).1 = true
      · show tcL 40 (if (s (i + 1)).1 = true then (true, (s (i + 1)).2.1, (s (i + 1)).2.2 ++ [(12, 0)]) else (false, (s (i + 1)).2.1, []) : Res).2.2 ts = _
        rw [if_pos h6]
        show tcL 40 ((s (i + 1)).2.2 ++ [(12, 0)]) ts = _
        rw [tcL_app, hS s rfl (i + 1) ts h6 (by omega)]; rfl
      · have h' : (if (s (i + 1)).1 = true then (true, (s (i + 1)).2.1, (s (i + 1)).2.2 ++ [(12, 0)]) else (false, (s (i + 1)).2.1, []) : Res).1 = true := h
        rw [if_neg h6] at h'; cases h'
  rw [if_neg h1] at h ⊢
  by_cases h2 : K i = 91
  · rw [if_pos h2] at h ⊢
    cases S with
    | none => cases h
    | some s =>
      have h' : (clsd K 93 (anyOf K s (i + 1))).1 = true := h
      obtain ⟨q1, q2⟩ := clsd_ok h'
      show tcL 40 (clsd K 93 (anyOf K s (i + 1))).2.2 ts = _
      rw [q2]; exact any_tg (hS s rfl) (i + 1) ts q1 (by omega)
  rw [if_neg h2] at h ⊢
  by_cases h3 : (E i).1 = true
  · rw [if_pos h3] at h ⊢
    by_cases h4 : K (E i).2.1 = 60 ∨ K (E i).2.1 = 62 ∨ K (E i).2.1 = 61
    · rw [if_pos h4] at h ⊢
      by_cases h6 : (E ((E i).2.1 + 1)).1 = true
      · rw [if_pos h6]
        show tcL 40 ((E i).2.2 ++ (E ((E i).2.1 + 1)).2.2 ++ [(opK (K (E i).2.1), 0)]) ts = _
        rw [tcL_app, tcL_app, hE i ts h3 (by omega)]
        show ((tcL 40 (E ((E i).2.1 + 1)).2.2 (true :: ts)).bind _) = _
        rw [hE ((E i).2.1 + 1) (true :: ts) h6 (by rw [List.length_cons]; omega)]
        rcases h4 with e | e | e <;> rw [e] <;> rfl
      · rw [if_neg h6] at h; cases h
    · rw [if_neg h4] at h; cases h
  · rw [if_neg h3] at h; cases h
theorem one_tg {K V : Nat → Nat} (hV : ∀ j, V j ≤ 99999) : ∀ L, TG false (2 * L + 4) (oneS K V L)
  | 0 => sgl0_tg (exS_tg hV 0) (fun s h => by cases h) (by omega)
  | L + 1 => sgl0_tg (exS_tg hV (L + 1)) (fun s h => by
    cases h
    have := one_tg (K := K) hV L
    rw [show 2 * (L + 1) + 3 - 1 = 2 * L + 4 by omega]; exact this) (by omega)
theorem anyS_tg {K V : Nat → Nat} (hV : ∀ j, V j ≤ 99999) (L : Nat) : TG false (2 * L + 6) (anyS K V L) := any_tg (one_tg hV L)
/-! a statement, and all of them -/
theorem tcL_ne {ops : List Op} {b : Bool} (h : tcL 40 ops [] = some [b]) : ops ≠ [] := fun e => by rw [e] at h; cases h
theorem head_rg {K V : Nat → Nat} {m i : Nat} (hT : TkE K V m) (hi : i ≤ m) : (headS K V i).2.1 ≤ m ∧ i ≤ (headS K V i).2.1 ∧ ((headS K V i).1 = true → i < (headS K V i).2.1 ∧ (encL (headS K V i).2.2).length + (i + 1) ≤ (headS K V i).2.1 ∧ (K i = 1 ∨ K i = 2)) := by
  unfold headS
  by_cases h1 : K i = 1
  · rw [if_pos h1]
    have := notEnd hT hi h1 (by decide)
    obtain ⟨a1, a2, a3⟩ := exS_rg hT 9 (i + 1) (by omega)
    exact ⟨a1, by omega, fun h => ⟨by have := (a3 h).1; omega, (a3 h).2, Or.inl h1⟩⟩
  · rw [if_neg h1]
    by_cases h2 : K i = 2
    · rw [if_pos h2]
      have := notEnd hT hi h2 (by decide)
      exact ⟨this, Nat.le_succ _, fun _ => ⟨Nat.lt_succ_self _, by show 0 + (i + 1) ≤ i + 1; omega, Or.inr h2⟩⟩
    · rw [if_neg h2]; exact ⟨hi, Nat.le_refl _, fun h => by cases h⟩
theorem tail_rg {K V : Nat → Nat} {m j : Nat} (hT : TkE K V m) (hj : j ≤ m) : (tailS K V j).2.1 ≤ m ∧ j ≤ (tailS K V j).2.1 ∧ ((tailS K V j).1 = true → (encL (tailS K V j).2.2).length + j + (if K j = 3 then 1 else 0) ≤ (tailS K V j).2.1 ∧ (K j ≠ 3 → (tailS K V j).2.2 = [])) := by
  unfold tailS
  by_cases h1 : K j = 3
  · rw [if_pos h1, if_pos h1]
    have := notEnd hT hj h1 (by decide)
    obtain ⟨a1, a2, a3⟩ := anyS_rg hT 9 (j + 1) (by omega)
    exact ⟨a1, by omega, fun h => ⟨by have := (a3 h).2; omega, fun z => absurd h1 z⟩⟩
  · rw [if_neg h1, if_neg h1]
    exact ⟨hj, Nat.le_refl _, fun _ => ⟨by show 0 + j + 0 ≤ j; omega, fun _ => rfl⟩⟩
theorem st_rg {K V : Nat → Nat} {m i : Nat} (hT : TkE K V m) (hi : i ≤ m) : (stS K V i).2.1 ≤ m ∧ i ≤ (stS K V i).2.1 ∧ ((stS K V i).1 = true → i < (stS K V i).2.1 ∧ (encS (stS K V i).2.2).length + i ≤ (stS K V i).2.1 ∧ WS (stS K V i).2.2) := by
  obtain ⟨a1, a2, a3⟩ := head_rg hT hi
  unfold stS
  by_cases h1 : (headS K V i).1 = true
  · obtain ⟨a4, a5, a6⟩ := a3 h1
    rw [if_pos h1]
    obtain ⟨b1, b2, b3⟩ := tail_rg hT a1
    by_cases h2 : (tailS K V (headS K V i).2.1).1 = true
    · obtain ⟨b4, b5⟩ := b3 h2
      rw [if_pos h2]
      by_cases h3 : K (tailS K V (headS K V i).2.1).2.1 = 59
      · rw [if_pos h3]
        have h4 := notEnd hT b1 h3 (by decide)
        refine ⟨by show (tailS K V (headS K V i).2.1).2.1 + 1 ≤ m; omega, by show i ≤ (tailS K V (headS K V i).2.1).2.1 + 1; omega, fun _ => ⟨by show i < (tailS K V (headS K V i).2.1).2.1 + 1; omega, ?_, ?_, ?_⟩⟩
        · show (encS (K i - 1, (headS K V i).2.2, (tailS K V (headS K V i).2.1).2.2)).length + i ≤ (tailS K V (headS K V i).2.1).2.1 + 1
          unfold encS
          rw [List.length_append, List.length_append]
          show (encL (headS K V i).2.2).length + ((if (tailS K V (headS K V i).2.1).2.2 = [] then [(1 : Int)] else encL (tailS K V (headS K V i).2.1).2.2).length + 1) + i ≤ _
          by_cases h5 : K (headS K V i).2.1 = 3
          · rw [if_pos h5] at b4
            split
            · show _ + (1 + 1) + i ≤ _; omega
            · omega
          · rw [if_pos (b5 h5)]
            show _ + (1 + 1) + i ≤ _
            omega
        · show (K i - 1 = 0 ∧ tcL 40 (headS K V i).2.2 [] = some [true] ∨ K i - 1 = 1 ∧ (headS K V i).2.2 = [])
          rcases a6 with e | e
          · left
            refine ⟨by omega, ?_⟩
            unfold headS at h1 ⊢
            rw [if_pos e] at h1 ⊢
            exact exS_tg hT.2.2.2 9 (i + 1) [] h1 (by decide)
          · right
            refine ⟨by omega, ?_⟩
            unfold headS
            rw [if_neg (by omega), if_pos e]
        · show (tailS K V (headS K V i).2.1).2.2 = [] ∨ tcL 40 (tailS K V (headS K V i).2.1).2.2 [] = some [false]
          by_cases h5 : K (headS K V i).2.1 = 3
          · right
            unfold tailS at h2 ⊢
            rw [if_pos h5] at h2 ⊢
            exact anyS_tg hT.2.2.2 9 ((headS K V i).2.1 + 1) [] h2 (by decide)
          · exact Or.inl (b5 h5)
      · rw [if_neg h3]
        exact ⟨b1, by show i ≤ (tailS K V (headS K V i).2.1).2.1; omega, fun h => by cases h⟩
    · rw [if_neg h2]
      exact ⟨b1, by show i ≤ (tailS K V (headS K V i).2.1).2.1; omega, fun h => by cases h⟩
  · rw [if_neg h1]
    exact ⟨a1, a2, fun h => by cases h⟩
theorem enc_cons' (s : Stm) (S : List Stm) : (enc (s :: S)).length = (encS s).length + (enc S).length := by rw [enc_cons, List.length_append]
theorem rd_rg {K V : Nat → Nat} {m : Nat} (hT : TkE K V m) : ∀ g i, i ≤ m → (rdS K V g i).2.1 ≤ m ∧ i ≤ (rdS K V g i).2.1 ∧ ((rdS K V g i).1 = true → (enc (rdS K V g i).2.2).length + i ≤ (rdS K V g i).2.1 ∧ (∀ s ∈ (rdS K V g i).2.2, WS s) ∧ (rdS K V g i).2.2.length ≤ g)
  | 0, i, hi => by
    refine ⟨hi, Nat.le_refl _, fun _ => ⟨by show 0 + i ≤ i; omega, fun s hs => by simp [rdS] at hs, Nat.le_refl _⟩⟩
  | g + 1, i, hi => by
    unfold rdS
    by_cases h1 : K i = 258
    · rw [if_pos h1]
      exact ⟨hi, Nat.le_refl _, fun _ => ⟨by show 0 + i ≤ i; omega, fun s hs => by simp at hs, by show 0 ≤ g + 1; omega⟩⟩
    · rw [if_neg h1]
      obtain ⟨a1, a2, a3⟩ := st_rg hT hi
      by_cases h2 : (stS K V i).1 = true
      · obtain ⟨a4, a5, a6⟩ := a3 h2
        rw [if_pos h2]
        obtain ⟨b1, b2, b3⟩ := rd_rg hT g (stS K V i).2.1 a1
        refine ⟨b1, by show i ≤ (rdS K V g (stS K V i).2.1).2.1; omega, fun h => ?_⟩
        obtain ⟨b4, b5, b6⟩ := b3 h
        refine ⟨?_, fun s hs => ?_, ?_⟩
        · show (enc ((stS K V i).2.2 :: (rdS K V g (stS K V i).2.1).2.2)).length + i ≤ (rdS K V g (stS K V i).2.1).2.1
          rw [enc_cons']; omega
        · rcases List.mem_cons.mp hs with e | e
          · rw [e]; exact a6
          · exact b5 s e
        · show (rdS K V g (stS K V i).2.1).2.2.length + 1 ≤ g + 1; omega
      · rw [if_neg h2]
        exact ⟨a1, a2, fun h => by cases h⟩
theorem encO_pos (o : Op) : 1 ≤ (encO o).length := by unfold encO; (repeat' split) <;> simp
theorem encL_len : ∀ a : List Op, a.length ≤ (encL a).length
  | [] => Nat.le_refl _
  | o :: a => by
    have := encL_len a
    have h := encO_pos o
    show a.length + 1 ≤ (encO o ++ encL a).length
    rw [List.length_append]; omega
theorem flat_enc : ∀ S : List Stm, (flat S).length ≤ (enc S).length
  | [] => Nat.le_refl _
  | s :: S => by
    have ih := flat_enc S
    rw [enc_cons']
    show ((s.2.1 ++ s.2.2) ++ flat S).length ≤ _
    rw [List.length_append, List.length_append]
    have h1 := encL_len s.2.1
    have h2 := encL_len s.2.2
    unfold encS
    rw [List.length_append, List.length_append]
    have h3 : s.2.2.length ≤ (if s.2.2 = [] then [(1 : Int)] else encL s.2.2).length := by
      split
      · next e => rw [e]; simp
      · exact h2
    omega
theorem rd_WR {K V : Nat → Nat} {m : Nat} (hT : TkE K V m) (h : (rdS K V 16 0).1 = true) : WR (rdS K V 16 0).2.2 ∧ (enc (rdS K V 16 0).2.2).length ≤ 400 := by
  obtain ⟨a1, a2, a3⟩ := rd_rg hT 16 0 (Nat.zero_le _)
  obtain ⟨b1, b2, b3⟩ := a3 h
  have := hT.1
  have := flat_enc (rdS K V 16 0).2.2
  exact ⟨⟨b2, b3, by omega⟩, by omega⟩
