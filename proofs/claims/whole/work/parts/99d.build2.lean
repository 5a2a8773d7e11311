/-! ===== an array of arrays among the cells made ===== -/
section Build2
variable {p : Program} {l : Launch} {e : Env} {R : Room} {s : State} {m : MethodId} {args : Array Value} {below : List Frame} {meth : Method} {c : Code} {H : Heap} {locs : List Loc} {cells slots : Nat} {Q : State → Prop}
variable {D : va_G} {tys : List (ClassId × FieldType)} {base : va_W} {sz : Nat} {Es : List va_E} {A : Nat → Prop} {pc : Nat} {ls : Array Slot} {rest : List Value} {M : MI}
theorem iwl_app2 (sz : Nat) (Es Ns : List va_E) : iwl sz (Es ++ Ns) = iwl sz Es ++ iwl (sz + Es.length) Ns := by
  unfold iwl
  rw [List.mapIdx_append]
  congr 1
  congr 1
  funext i e
  rw [show sz + Es.length + i = sz + (i + Es.length) by omega]
theorem Wi.pushL {Ns : List va_E} {H1 : Heap} {locs1 : List Loc} (w : Wi D tys base sz Es A s H locs) (hb : ∀ q ∈ base, q.1 < H.size) (hz : H.size = sz + Es.length) (z1 : H.size ≤ H1.size) (o1 : ∀ q, q < H.size → H1[q]? = H[q]?) (hl : ∀ q ∈ locs1, A q.base) (ha : ∀ j E, Ns[j]? = some E → va_at D cls13 (sz + Es.length + j, E) H1) : Wi D tys base sz (Es ++ Ns) A s H1 locs1 := by
  obtain ⟨hK, hP, hD, hS, hA, hs⟩ := w
  refine ⟨hK, ?_, ?_, ⟨Nat.le_trans hS.1 z1, fun q h1 h2 => (o1 q (Nat.lt_of_lt_of_le h1 hS.1)).trans (hS.2.1 q h1 h2), hl⟩, hA, hs⟩
  · rw [iwl_app2, ← List.append_assoc]
    refine (hP.kept (fun k x hx => o1 x.1 ((hP k x hx).lt))).app (fun k x hx => ?_)
    obtain ⟨i, E, hi, rfl⟩ := iwl_mem (List.mem_of_getElem? hx)
    exact ha i E hi
  · rw [iwl_app2, ← List.append_assoc]
    have sp : ∀ (i : Nat) (x : Nat × va_E), ((base ++ iwl sz Es) ++ iwl (sz + Es.length) Ns)[i]? = some x → ((base ++ iwl sz Es)[i]? = some x ∧ x.1 < H.size) ∨ (x.1 = H.size + (i - (base ++ iwl sz Es).length) ∧ (base ++ iwl sz Es).length ≤ i) := by
      intro i x hx
      by_cases hi : i < (base ++ iwl sz Es).length
      · rw [List.getElem?_append_left hi] at hx; exact Or.inl ⟨hx, (hP i x hx).lt⟩
      · rw [List.getElem?_append_right (by omega), iwl_get] at hx
        cases hE : Ns[i - (base ++ iwl sz Es).length]? with
        | none => rw [hE] at hx; cases hx
        | some E => rw [hE] at hx; exact Or.inr ⟨by rw [← Option.some.inj hx, hz], by omega⟩
    refine ⟨fun i j x y hx hy hxy => ?_, fun k x hx => ?_⟩
    · rcases sp i x hx with ⟨a1, a2⟩ | ⟨a1, a2⟩ <;> rcases sp j y hy with ⟨b1, b2⟩ | ⟨b1, b2⟩
      · exact hD.1 i j x y a1 b1 hxy
      · omega
      · omega
      · omega
    · rcases sp k x hx with ⟨a1, a2⟩ | ⟨a1, a2⟩
      · exact hD.2 k x a1
      · exact hA _ (by omega)
theorem i_mna (F : Fx p M s m args meth c) {index : Nat} (hcl : (.classLink M.1.cls index "[[I" : Cond) ∈ TT) (hov : AG s) (harr : (.arrayClass .int : Cond) ∈ TT) (t0 : Nat) {cI : ClassId} (ht : tys[t0]? = some (cI, .int)) (t1 : Nat) {cA : ClassId} (ht1 : tys[t1]? = some (cA, .array .int)) {h0 : Nat} {o0 : va_E} (w : Wi D tys [(h0, o0)] sz Es A s H locs) (hcell : cells = Es.length) (hcells : cells + 9 ≤ R.cells) (hslots : slots + 88 ≤ R.slots) (hdg : decode M.2.1 pc = .ok (.multianewarray index 2, 4))
    (kk : ∀ (H1 : Heap) (locs1 : List Loc), Wi D tys [(h0, o0)] sz (Es ++ .inl (cA, 8, .inr (.inr (.inr (.inr (fun j => some (sz + Es.length + 1 + j)))))) :: List.replicate 8 (.inl (cI, 10, .inl (fun _ => 0)))) A s H1 locs1 → W p l e R s m args below meth c H1 locs1 (cells + 9) (slots + 88) Q (F0 m (pc + 4) ls (.ref (sz + Es.length) :: rest))) : W p l e R s m args below meth c H locs cells slots Q (F0 m pc ls (.int 10 :: .int 8 :: rest)) := by
  refine W_sz (fun hup => ?_)
  have hlow := w.low
  have hz : H.size = sz + Es.length := by have := w.2.2.2.2.2; omega
  have hts := F.2.2.2.2.2.2
  refine W_mna F.1 F.2.1 F.2.2.2.2.2.1 (hts _ hcl) hov (hts _ harr) rfl hdg rfl hcells hslots (fun H1 locs1 cB cJ n1 a1 n2 a2 z1 e0 o1 e1 hl => ?_)
  have eA : cB = cA := by
    have h1 : s.vm.findClass "[[I" = some cA := (w.1.2 t1 _ ht1).2
    rw [n1] at h1; exact Option.some.inj h1
  have eI : cJ = cI := by
    have h1 : s.vm.findClass "[I" = some cI := (w.1.2 t0 _ ht).2
    rw [n2] at h1; exact Option.some.inj h1
  subst eA; subst eI
  have hb : ∀ q ∈ [(h0, o0)], q.1 < H.size := fun q hq => by
    rw [List.mem_singleton] at hq
    subst hq
    exact (w.2.1 0 _ rfl).lt
  have hk := kk H1 locs1 (w.pushL hb hz (by omega) o1 (fun q hq => ?_) (fun j E hj => ?_))
  · rw [hz]; exact hk
  · rcases hl q hq with z | z
    · exact w.2.2.2.1.2.2 q z
    · rw [z]; exact w.2.2.2.2.1 _ (by omega)
  · match j, hj with
    | 0, hj =>
      cases hj
      show H1[sz + Es.length + 0]? = some (vp_cell _ _)
      rw [Nat.add_zero, ← hz, e0]; rfl
    | j + 1, hj =>
      have hj2 : (List.replicate 8 (.inl (cJ, 10, .inl (fun _ => 0)) : va_E))[j]? = some E := hj
      have hlt : j < 8 := by
        have := (List.getElem?_eq_some_iff.mp hj2).1
        rw [List.length_replicate] at this; exact this
      rw [List.getElem?_replicate, if_pos hlt] at hj2
      cases hj2
      show H1[sz + Es.length + (j + 1)]? = some (vp_cell _ _)
      rw [show sz + Es.length + (j + 1) = H.size + 1 + j by omega, e1 j hlt]; rfl
end Build2
