/-! ===== the abstract memory of both systems: cells by ids, ints by (cell, slot) ===== -/
abbrev St : Type := (Nat → Nat → Int32) × (Nat → Nat → Int64) × (Nat → Option Nat)
def gI (σ : St) (q k : Nat) : Int32 := σ.1 q k
def gL (σ : St) (q k : Nat) : Int64 := σ.2.1 q k
def gR (σ : St) (k : Nat) : Option Nat := σ.2.2 k
def up2 {α : Type} (f : Nat → Nat → α) (q k : Nat) (v : α) : Nat → Nat → α := fun a b => if a = q ∧ b = k then v else f a b
def sI (σ : St) (q k : Nat) (v : Int32) : St := (up2 σ.1 q k v, σ.2.1, σ.2.2)
def sL (σ : St) (q k : Nat) (v : Int64) : St := (σ.1, up2 σ.2.1 q k v, σ.2.2)
def sR (σ : St) (k : Nat) (v : Option Nat) : St := (σ.1, σ.2.1, fun j => if j = k then v else σ.2.2 j)
def sA (σ : St) (q : Nat) (f : Nat → Int32) : St := (fun a => if a = q then f else σ.1 a, σ.2.1, σ.2.2)
def kdT : List (Nat × Nat) := [(11, 13), (6, 8), (0, 11), (1, 3), (9, 6), (7, 5), (4, 8), (8, 11), (10, 8), (3, 4), (2, 5), (12, 55), (20, 10), (20, 10), (20, 10), (20, 10), (20, 10), (20, 64), (24, 8), (20, 400), (20, 401), (20, 401), (20, 401), (20, 400), (20, 10), (20, 10), (20, 32), (20, 32), (20, 10), (20, 10), (20, 10), (20, 10), (20, 10), (25, 8), (20, 8), (20, 10), (20, 10), (20, 8), (20, 80), (20, 4), (20, 8), (20, 10), (20, 10), (20, 10), (20, 10), (20, 20), (20, 20), (20, 8), (20, 8), (20, 8), (20, 10), (20, 160), (20, 160), (20, 160), (20, 160), (20, 5000), (20, 5000), (23, 64), (23, 6), (22, 400), (22, 400), (21, 9216), (20, 9216), (20, 10), (20, 8), (20, 10), (20, 610), (20, 10), (20, 10), (20, 10), (20, 10), (20, 8), (21, 80), (20, 64), (20, 8), (20, 10), (20, 10), (20, 10), (20, 10), (20, 10), (20, 10), (20, 10), (20, 10)]
def rfT : List (List Nat) := [[1, 3, 2, 4, 5, 6, 7, 8, 9, 10, 83, 0, 0], [0, 0, 0, 12, 13, 14, 15, 16], [1, 0, 0, 17, 0, 0, 0, 0, 0, 0, 0], [2, 18, 0], [0, 19, 0, 20, 21, 22], [4, 0, 23, 0, 0], [1, 3, 24, 0, 25, 0, 26, 27], [1, 6, 28, 0, 0, 29, 30, 31, 32, 0, 33], [1, 3, 6, 34, 35, 36, 37, 38], [1, 3, 8, 39], [1, 3, 8, 0, 40], [0, 0, 0, 0, 0, 41, 42, 43, 44, 45, 46, 47, 48, 49, 0, 0, 0, 0, 0, 0, 0, 0, 50, 51, 52, 53, 54, 55, 56, 57, 58, 59, 60, 0, 0, 61, 62, 0, 0, 63, 0, 0, 64, 65, 66, 67, 68, 69, 70, 0, 0, 71, 72, 73, 74]]
def irT : List (List Bool) := [[true, false, false, true, false, false, false, false, false, false, false], [true, true, false], [true, true, true, false, true], [true, true, true, true], [true, true, true, false, true, false, true, true], [false, false, false, true, false, false, true, true, false, true], [false, false, false, true, true, true, true, true], [true, false, true, false, false], [true, true, true, false, false, true, true, true, true, false, true], [false, true, false, true, true, true], [true, true, true, true, true, true, true, true], [true, true, true, true, true, true, true, true, true, true, true, false, false], [false, false, false, false, false, true, true, true, true, true, true, true, true, true, false, false, false, false, false, false, false, false, true, true, true, true, true, true, true, true, true, true, true, false, false, true, true, false, false, true, false, false, true, true, true, true, true, true, true, false, false, true, true, true, true]]
abbrev P0 : Nat := 83
abbrev FIX : Nat := 88
abbrev GONE0 : Nat := 75
def kdP (c : Nat) : Nat × Nat := match c with
  | 0 => (5, 10)
  | 1 => (20, 400)
  | 2 => (20, 1024)
  | 3 => (21, 1024)
  | _ => (20, 1024)
def kd (q : Nat) : Nat × Nat := if q < P0 then kdT.getD q (99, 0) else kdP ((q - P0) % 5)
def rf (q k : Nat) : Nat := if q < P0 then (rfT.getD q []).getD k 0 else q + (match k with
  | 3 => 1
  | 6 => 2
  | 7 => 3
  | _ => 4)
def ir (ci k : Nat) : Bool := (irT.getD ci []).getD k false
abbrev cls13 : List vw_C := [(RX0, TX0, 11), (RX1, TX1, 3), (RX2, TX2, 5), (RX3, TX3, 4), (RX4, TX4, 8), (RX5, TX5, 10), (RX6, TX6, 8), (RX7, TX7, 5), (RX8, TX8, 11), (RX9, TX9, 6), (RX10, TX10, 8), (RX11, TX11, 13), (RX12, TX12, 55)]
abbrev Gx : Type := va_G × (Nat → Nat) × (Nat → ClassId)
def conc (G : Gx) (v : Value) : Value := match v with
  | .ref q => .ref (G.2.1 q)
  | v => v
def fv (G : Gx) (σ : St) (q ci k : Nat) : Value := if ir ci k = true then .ref (G.2.1 (rf q k)) else .int (gI σ q k)
def cellOf (G : Gx) (σ : St) (q : Nat) : va_E :=
  if (kd q).1 < 20 then .inr ((kd q).1, (List.range (kd q).2).map (fv G σ q (kd q).1))
  else if (kd q).1 = 23 then .inl (G.2.2 23, (kd q).2, .inr (.inl (gL σ q)))
  else if (kd q).1 = 24 then .inl (G.2.2 24, (kd q).2, .inr (.inr (.inr (.inr (fun j => (gR σ j).map G.2.1)))))
  else if (kd q).1 = 25 then .inl (G.2.2 25, (kd q).2, .inr (.inr (.inr (.inr (fun j => some (G.2.1 (GONE0 + j)))))))
  else .inl (G.2.2 (kd q).1, (kd q).2, .inl (gI σ q))
def wl (G : Gx) (n : Nat) (σ : St) : va_W := (List.range n).map (fun q => (G.2.1 q, cellOf G σ q))
def tyA (G : Gx) : List (ClassId × FieldType) := [(G.2.2 20, .int), (G.2.2 21, .boolean), (G.2.2 22, .byte), (G.2.2 23, .long), (G.2.2 24, .object "LessonPurses$Person"), (G.2.2 25, .array .int)]
theorem wl_get {G : Gx} {n : Nat} {σ : St} {q : Nat} (h : q < n) : (wl G n σ)[q]? = some (G.2.1 q, cellOf G σ q) := by
  simp [wl, h]
theorem wl_set {G : Gx} {n : Nat} {σ σ' : St} {q : Nat} {e : va_E} (he : cellOf G σ' q = e) (hj : ∀ j, j ≠ q → cellOf G σ' j = cellOf G σ j) : (wl G n σ).set q (G.2.1 q, e) = wl G n σ' := by
  apply List.ext_getElem?
  intro i
  rw [List.getElem?_set]
  by_cases h : q = i
  · subst h
    by_cases hn : q < n
    · rw [wl_get hn]; simp [wl, hn, he]
    · simp [wl, hn]
  · rw [if_neg h]
    by_cases hn : i < n
    · rw [wl_get hn, wl_get hn, hj i (fun e => h e.symm)]
    · simp [wl, hn]
theorem gI_row_ne {σ : St} {q k j : Nat} {v : Int32} (h : j ≠ q) : gI (sI σ q k v) j = gI σ j := by
  funext b; simp [gI, sI, up2, h]
theorem gL_sI (σ : St) (q k : Nat) (v : Int32) : gL (sI σ q k v) = gL σ := rfl
theorem gR_sI (σ : St) (q k : Nat) (v : Int32) : gR (sI σ q k v) = gR σ := rfl
theorem gI_sL (σ : St) (q k : Nat) (v : Int64) : gI (sL σ q k v) = gI σ := rfl
theorem gR_sL (σ : St) (q k : Nat) (v : Int64) : gR (sL σ q k v) = gR σ := rfl
theorem gI_sR (σ : St) (k : Nat) (v : Option Nat) : gI (sR σ k v) = gI σ := rfl
theorem gL_sR (σ : St) (k : Nat) (v : Option Nat) : gL (sR σ k v) = gL σ := rfl
theorem gL_sA (σ : St) (q : Nat) (f : Nat → Int32) : gL (sA σ q f) = gL σ := rfl
theorem gR_sA (σ : St) (q : Nat) (f : Nat → Int32) : gR (sA σ q f) = gR σ := rfl
theorem gI_sA_same (σ : St) (q : Nat) (f : Nat → Int32) : gI (sA σ q f) q = f := by funext b; simp [gI, sA]
theorem gI_sA_ne {σ : St} {q j : Nat} {f : Nat → Int32} (h : j ≠ q) : gI (sA σ q f) j = gI σ j := by funext b; simp [gI, sA, h]
theorem gL_row_ne {σ : St} {q k j : Nat} {v : Int64} (h : j ≠ q) : gL (sL σ q k v) j = gL σ j := by
  funext b; simp [gL, sL, up2, h]
theorem gI_sI_same (σ : St) (q k : Nat) (v : Int32) : gI (sI σ q k v) q k = v := by simp [gI, sI, up2]
theorem gI_sI_ne {σ : St} {q k j b : Nat} {v : Int32} (h : ¬ (j = q ∧ b = k)) : gI (sI σ q k v) j b = gI σ j b := by simp [gI, sI, up2, h]
theorem gI_sI (σ : St) (q k j b : Nat) (v : Int32) : gI (sI σ q k v) j b = if j = q ∧ b = k then v else gI σ j b := rfl
theorem gL_sL (σ : St) (q k j b : Nat) (v : Int64) : gL (sL σ q k v) j b = if j = q ∧ b = k then v else gL σ j b := rfl
theorem gR_sR (σ : St) (k j : Nat) (v : Option Nat) : gR (sR σ k v) j = if j = k then v else gR σ j := rfl
theorem gI_sA (σ : St) (q j b : Nat) (f : Nat → Int32) : gI (sA σ q f) j b = if j = q then f b else gI σ j b := by
  by_cases h : j = q <;> simp [gI, sA, h]
theorem cell_congr {G : Gx} {σ σ' : St} {j : Nat} (h1 : gI σ' j = gI σ j) (h2 : gL σ' j = gL σ j) (h3 : (kd j).1 = 24 → gR σ' = gR σ) : cellOf G σ' j = cellOf G σ j := by
  unfold cellOf
  split
  · have : fv G σ' j (kd j).1 = fv G σ j (kd j).1 := by funext k; simp only [fv, h1]
    rw [this]
  · split
    · rw [h2]
    · split
      · rename_i h; rw [h3 h]
      · split
        · rfl
        · rw [h1]
/-- an array of a kind, alive -/
def Ar (n q ty N : Nat) : Prop := kd q = (ty, N) ∧ q < n
/-- an object of a class, alive -/
def Ob (n q ci : Nat) : Prop := (∃ N, kd q = (ci, N) ∧ ∃ r, cls13[ci]? = some r ∧ r.2.2 = N) ∧ q < n ∧ ci < 20
/-- a person's id -/
def IsP (n p : Nat) : Prop := P0 ≤ p ∧ (p - P0) % 5 = 0 ∧ p + 5 ≤ n
theorem kd_per {p c : Nat} (h : P0 ≤ p) (h0 : (p - P0) % 5 = 0) (hc : c < 5) : kd (p + c) = kdP c := by
  have h1 : ¬ (p + c < P0) := by omega
  have h2 : (p + c - P0) % 5 = c := by omega
  unfold kd
  rw [if_neg h1, h2]
theorem Ar.p1 {n p : Nat} (h : IsP n p) : Ar n (p + 1) 20 400 := ⟨kd_per h.1 h.2.1 (c := 1) (by decide), by have := h.2.2; omega⟩
theorem Ar.p2 {n p : Nat} (h : IsP n p) : Ar n (p + 2) 20 1024 := ⟨kd_per h.1 h.2.1 (c := 2) (by decide), by have := h.2.2; omega⟩
theorem Ar.p3 {n p : Nat} (h : IsP n p) : Ar n (p + 3) 21 1024 := ⟨kd_per h.1 h.2.1 (c := 3) (by decide), by have := h.2.2; omega⟩
theorem Ar.p4 {n p : Nat} (h : IsP n p) : Ar n (p + 4) 20 1024 := ⟨kd_per h.1 h.2.1 (c := 4) (by decide), by have := h.2.2; omega⟩
theorem Ob.p {n p : Nat} (h : IsP n p) : Ob n p 5 := ⟨⟨10, kd_per h.1 h.2.1 (c := 0) (by decide), _, rfl, rfl⟩, by have := h.2.2; omega, by decide⟩
theorem Ar.fx {n q ty N : Nat} (hn : FIX ≤ n) (h : kd q = (ty, N) ∧ q < FIX) : Ar n q ty N := ⟨h.1, Nat.lt_of_lt_of_le h.2 hn⟩
theorem Ob.fx {n q ci N : Nat} {r : vw_C} (hn : FIX ≤ n) (h : kd q = (ci, N) ∧ q < FIX ∧ ci < 20) (hr : cls13[ci]? = some r) (h2 : r.2.2 = N) : Ob n q ci := ⟨⟨N, h.1, r, hr, h2⟩, Nat.lt_of_lt_of_le h.2.1 hn, h.2.2⟩
theorem Ar.gone {n j : Nat} (hn : FIX ≤ n) (hj : j < 8) : Ar n (GONE0 + j) 20 10 := by
  refine ⟨?_, by simp only [FIX, GONE0] at *; omega⟩
  rcases (show j = 0 ∨ j = 1 ∨ j = 2 ∨ j = 3 ∨ j = 4 ∨ j = 5 ∨ j = 6 ∨ j = 7 by omega) with h | h | h | h | h | h | h | h <;> subst h <;> rfl
theorem cell_i {G : Gx} {σ : St} {q N : Nat} (h : kd q = (20, N)) : cellOf G σ q = .inl (G.2.2 20, N, .inl (gI σ q)) := by simp [cellOf, h]
theorem cell_z {G : Gx} {σ : St} {q N : Nat} (h : kd q = (21, N)) : cellOf G σ q = .inl (G.2.2 21, N, .inl (gI σ q)) := by simp [cellOf, h]
theorem cell_b {G : Gx} {σ : St} {q N : Nat} (h : kd q = (22, N)) : cellOf G σ q = .inl (G.2.2 22, N, .inl (gI σ q)) := by simp [cellOf, h]
theorem cell_l {G : Gx} {σ : St} {q N : Nat} (h : kd q = (23, N)) : cellOf G σ q = .inl (G.2.2 23, N, .inr (.inl (gL σ q))) := by simp [cellOf, h]
theorem cell_r {G : Gx} {σ : St} {q N : Nat} (h : kd q = (24, N)) : cellOf G σ q = .inl (G.2.2 24, N, .inr (.inr (.inr (.inr (fun j => (gR σ j).map G.2.1))))) := by simp [cellOf, h]
theorem cell_g {G : Gx} {σ : St} {q N : Nat} (h : kd q = (25, N)) : cellOf G σ q = .inl (G.2.2 25, N, .inr (.inr (.inr (.inr (fun j => some (G.2.1 (GONE0 + j))))))) := by simp [cellOf, h]
theorem cell_o {G : Gx} {σ : St} {q ci N : Nat} (h : kd q = (ci, N)) (hc : ci < 20) : cellOf G σ q = .inr (ci, (List.range N).map (fv G σ q ci)) := by simp [cellOf, h, hc]
