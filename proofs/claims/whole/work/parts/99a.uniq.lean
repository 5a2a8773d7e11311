/-! ===== each answer that a relation gives is one ===== -/
theorem dearA.uq {w : Wd} {a v v' : Int32} (hw : WW w) (h : dearA w a v) (h' : dearA w a v') : v = v' := by
  have hP := hw.P
  rcases h with ⟨n, rfl⟩ | ⟨j, hj, rfl, o, hl, rfl⟩
  · rcases h' with ⟨-, rfl⟩ | ⟨j', hj', e, -⟩
    · rfl
    · exact absurd ⟨j', hj', e⟩ n
  · rcases h' with ⟨n, -⟩ | ⟨j', hj', e, o', hl', rfl⟩
    · exact absurd ⟨j, hj, rfl⟩ n
    · have ej : j = j' := (nI_eq (by omega) (by omega)).mp e
      subst ej
      rw [hl.uniq hl']
theorem tiesA.uq {w : Wd} {a v v' : Int32} (hw : WW w) (h : tiesA w a v) (h' : tiesA w a v') : v = v' := by
  have hP := hw.P
  rcases h with ⟨n, rfl⟩ | ⟨j, hj, rfl, rfl⟩
  · rcases h' with ⟨-, rfl⟩ | ⟨j', hj', e, -⟩
    · rfl
    · exact absurd ⟨j', hj', e⟩ n
  · rcases h' with ⟨n, -⟩ | ⟨j', hj', e, rfl⟩
    · exact absurd ⟨j, hj, rfl⟩ n
    · have ej : j = j' := (nI_eq (by omega) (by omega)).mp e
      subst ej; rfl
theorem whyA.uq {w : Wd} {a1 a2 a3 v v' : Int32} (hw : WW w) (h : whyA w a1 a2 a3 v) (h' : whyA w a1 a2 a3 v') : v = v' := by
  have hP := hw.P
  have hN := hw.N
  rcases h with ⟨n, rfl⟩ | ⟨j, l, hj, rfl, hl, rfl, o, ho, hv⟩
  · rcases h' with ⟨-, rfl⟩ | ⟨j, l, hj, rfl, hl, rfl, o, ho, hv⟩
    · rfl
    · exact absurd ⟨⟨j, hj, rfl⟩, ⟨l, hl, rfl⟩, by rcases hv with z | z; exact Or.inl z.1; exact Or.inr z.1⟩ n
  · rcases h' with ⟨n, -⟩ | ⟨j', l', hj', e, hl', e2, o', ho', hv'⟩
    · exact absurd ⟨⟨j, hj, rfl⟩, ⟨l, hl, rfl⟩, by rcases hv with z | z; exact Or.inl z.1; exact Or.inr z.1⟩ n
    · have ej : j = j' := (nI_eq (by omega) (by omega)).mp e
      have el : l = l' := (nI_eq (by omega) (by omega)).mp e2
      subst ej; subst el
      have eo := ho.uniq ho'
      subst eo
      rcases hv with ⟨z1, z2⟩ | ⟨z1, z2⟩ <;> rcases hv' with ⟨y1, y2⟩ | ⟨y1, y2⟩
      · rw [z2, y2]
      · rw [z1] at y1; exact absurd y1 (by decide)
      · rw [z1] at y1; exact absurd y1 (by decide)
      · rw [z2, y2]
theorem edgeA.uq {w : Wd} {a1 a2 v v' : Int32} (hw : WW w) (h : edgeA w a1 a2 v) (h' : edgeA w a1 a2 v') : v = v' := by
  have hP := hw.P
  have hN := hw.N
  rcases h with ⟨n, rfl⟩ | ⟨j, l, hj, rfl, hl, rfl, hv⟩
  · rcases h' with ⟨-, rfl⟩ | ⟨j, l, hj, rfl, hl, rfl, hv⟩
    · rfl
    · exact absurd ⟨⟨j, hj, rfl⟩, ⟨l, hl, rfl⟩⟩ n
  · rcases h' with ⟨n, -⟩ | ⟨j', l', hj', e, hl', e2, hv'⟩
    · exact absurd ⟨⟨j, hj, rfl⟩, ⟨l, hl, rfl⟩⟩ n
    · have ej : j = j' := (nI_eq (by omega) (by omega)).mp e
      have el : l = l' := (nI_eq (by omega) (by omega)).mp e2
      subst ej; subst el
      rcases hv with ⟨z1, z2⟩ | ⟨x, z1, z2, z3, z4⟩ <;> rcases hv' with ⟨y1, y2⟩ | ⟨x', y1, y2, y3, y4⟩
      · rw [z2, y2]
      · exact absurd (z1 x' y1) y3
      · exact absurd (y1 x z1) z3
      · rcases Nat.lt_trichotomy x x' with g | g | g
        · exact absurd (y4 x g) z3
        · rw [z2, y2, g]
        · exact absurd (z4 x' g) y3
