/-! ===== the model: worth, never, what bars ===== -/
def okK (m : Md) : Bool := m.1.all (fun q => decide (q ≠ 11 ∧ (q < 41 ∨ 56 < q) ∧ q ≠ 59)) && m.2.1.all (fun c => if c.1 = 11 then decide (¬ (c.2 ≤ 4 ∨ c.2 = 14 ∨ c.2 = 19 ∨ c.2 = 20 ∨ c.2 = 21 ∨ c.2 = 37)) else decide ((c.1 < 41 ∨ 56 < c.1) ∧ c.1 ≠ 59))
theorem okK_spec {m : Md} (h : okK m = true) {q k : Nat} (hk : keepM q k) : ¬ inMd m q k := by
  simp only [okK, Bool.and_eq_true] at h
  intro hm
  have hq : q < P0 := by unfold keepM at hk; simp only [P0]; omega
  rcases hm with z | z | z | z
  · have := of_decide_eq_true (List.all_eq_true.mp h.1 q z)
    unfold keepM at hk
    omega
  · have := List.all_eq_true.mp h.2 (q, k) z
    simp only at this
    unfold keepM at hk
    by_cases e : q = 11
    · rw [if_pos e] at this
      have := of_decide_eq_true this
      omega
    · rw [if_neg e] at this
      have := of_decide_eq_true this
      omega
  · omega
  · omega
theorem RM.st {m : Md} {σ σ' : St} {w : Wd} (hM : RM σ w) (hf : Fr m σ σ') (h : okK m = true) : RM σ' w := hM.fr (fun q k hk => hf.1 q k (okK_spec h hk))
theorem flat_cons (s : Stm) (S : List Stm) : flat (s :: S) = (s.2.1 ++ s.2.2) ++ flat S := rfl
theorem flat_app (S T : List Stm) : flat (S ++ T) = flat S ++ flat T := by simp [flat]
theorem take_succ' {S : List Stm} {i : Nat} {s : Stm} (h : S[i]? = some s) : S.take (i + 1) = S.take i ++ [s] := by
  rw [List.take_succ, h]; rfl
theorem flat_at {S : List Stm} {i : Nat} {s : Stm} (h : S[i]? = some s) {t : Nat} {o : Op} (ho : (s.2.1 ++ s.2.2)[t]? = some o) : (flat S)[offS S i + t]? = some o := by
  have e : S = S.take i ++ s :: S.drop (i + 1) := by
    have hi := (List.getElem?_eq_some_iff.mp h)
    rw [← hi.2, List.getElem_cons_drop hi.1, List.take_append_drop]
  have e2 : flat S = flat (S.take i) ++ ((s.2.1 ++ s.2.2) ++ flat (S.drop (i + 1))) := by
    conv => lhs; rw [e]
    rw [flat_app, flat_cons]
  rw [e2, offS, List.getElem?_append_right (by omega), Nat.add_sub_cancel_left, List.getElem?_append_left (List.getElem?_eq_some_iff.mp ho).1]
  exact ho
theorem flat_len {S : List Stm} {i : Nat} {s : Stm} (h : S[i]? = some s) : offS S i + s.2.1.length + s.2.2.length ≤ (flat S).length := by
  have e : S = S.take i ++ s :: S.drop (i + 1) := by
    have hi := (List.getElem?_eq_some_iff.mp h)
    rw [← hi.2, List.getElem_cons_drop hi.1, List.take_append_drop]
  have e2 : flat S = flat (S.take i) ++ ((s.2.1 ++ s.2.2) ++ flat (S.drop (i + 1))) := by
    conv => lhs; rw [e]
    rw [flat_app, flat_cons]
  rw [e2, offS]; simp; omega
theorem RowM.segE {σ : St} {r i : Nat} {S : List Stm} {s : Stm} (h : RowM σ r S) (hs : S[i]? = some s) : Seg σ (500 * r + offS S i) s.2.1 := by
  intro t o ho
  have := h.2.2 (offS S i + t) o (flat_at hs (by rw [List.getElem?_append_left (List.getElem?_eq_some_iff.mp ho).1]; exact ho))
  rw [show 500 * r + offS S i + t = 500 * r + (offS S i + t) by omega]; exact this
theorem RowM.segC {σ : St} {r i : Nat} {S : List Stm} {s : Stm} (h : RowM σ r S) (hs : S[i]? = some s) : Seg σ (500 * r + offS S i + s.2.1.length) s.2.2 := by
  intro t o ho
  have := h.2.2 (offS S i + (s.2.1.length + t)) o (flat_at hs (by rw [List.getElem?_append_right (by omega), Nat.add_sub_cancel_left]; exact ho))
  rw [show 500 * r + offS S i + s.2.1.length + t = 500 * r + (offS S i + (s.2.1.length + t)) by omega]; exact this
theorem hlW_rng (z : Int) : -1000000 ≤ hlW z ∧ hlW z ≤ 1000000 := by unfold hlW; omega
theorem wthL_rng (g : Nat → Int) (b : Nat) (S : List Stm) : -1000000 ≤ wthL g b S ∧ wthL g b S ≤ 1000000 := by
  unfold wthL
  suffices h : ∀ (S : List Stm) (z : Int), (-1000000 ≤ z ∧ z ≤ 1000000) → -1000000 ≤ S.foldl (fun z s => if s.1 = 0 ∧ hlds g b s = true then hlW (z + topv (evl g b s.2.1 [])) else z) z ∧ S.foldl (fun z s => if s.1 = 0 ∧ hlds g b s = true then hlW (z + topv (evl g b s.2.1 [])) else z) z ≤ 1000000 from h S 0 (by omega)
  intro S
  induction S with
  | nil => intro z h; exact h
  | cons s S ih =>
    intro z h
    simp only [List.foldl_cons]
    apply ih
    split
    · exact hlW_rng _
    · exact h
theorem wthL_succ {g : Nat → Int} {b : Nat} {S : List Stm} {i : Nat} {s : Stm} (h : S[i]? = some s) : wthL g b (S.take (i + 1)) = if s.1 = 0 ∧ hlds g b s = true then hlW (wthL g b (S.take i) + topv (evl g b s.2.1 [])) else wthL g b (S.take i) := by
  rw [take_succ' h]; simp [wthL, List.foldl_append]
theorem nevL_succ {g : Nat → Int} {b : Nat} {S : List Stm} {i : Nat} {s : Stm} (h : S[i]? = some s) : nevL g b (S.take (i + 1)) = (nevL g b (S.take i) || (decide (s.1 = 1) && hlds g b s)) := by
  rw [take_succ' h]; simp [nevL]
theorem tv_rng {w : Wd} (hw : WW w) {j b : Nat} {ops : List Op} (h : tcL 40 ops [] = some [true]) : -1000000000 ≤ topv (evl (wrd w j b) b ops []) ∧ topv (evl (wrd w j b) b ops []) ≤ 1000000000 := by
  have hv := tc_all (g := wrd w j b) (b := b) (fun k => wrd_rng hw) (ts := []) (s := []) trivial h
  match hE : evl (wrd w j b) b ops [], hv with
  | [x], hv => have := hv.1; simp only [okT, if_true] at this; exact this
theorem tv_bool {w : Wd} (hw : WW w) {j b : Nat} {ops : List Op} (h : tcL 40 ops [] = some [false]) : topv (evl (wrd w j b) b ops []) = 0 ∨ topv (evl (wrd w j b) b ops []) = 1 := by
  have hv := tc_all (g := wrd w j b) (b := b) (fun k => wrd_rng hw) (ts := []) (s := []) trivial h
  match hE : evl (wrd w j b) b ops [], hv with
  | [x], hv => exact (show x = 0 ∨ x = 1 by simpa [okT] using hv.1)
theorem toI32 {x : Int64} (h : -2 ^ 31 ≤ x.toInt ∧ x.toInt < 2 ^ 31) : x.toInt32.toInt = x.toInt := by
  rw [Int64.toInt_toInt32]; exact Int.bmod_eq_of_le (by omega) (by omega)
/-- the worth's clamp -/
theorem clW {x v : Int64} {z t : Int} (hx : x.toInt = z) (hv : v.toInt = t) (hz : -1000000 ≤ z ∧ z ≤ 1000000) (ht : -1000000000 ≤ t ∧ t ≤ 1000000000) : (mxL (-1000000) (mnL 1000000 (x + v))).toInt = hlW (z + t) := by
  rw [mxL_ti, mnL_ti, tl_add (by omega) (by omega), hx, hv]; rfl
theorem m16 (r : Nat) : 16 * nI r = nI (16 * r) := pk_mul 16 r
theorem m1024 (r : Nat) : 1024 * nI r = nI (1024 * r) := pk_mul 1024 r
theorem worthBy_spec {d n : Nat} {σ : St} {w : Wd} {r j b : Nat} (hn : FIX ≤ n) (hd : 4 ≤ d) (hM : RM σ w) (hw : WW w) (hr : r < 9) (hj : j < 8) (hb : b < 1024) :
    Cn d n M_X12_worthBy md_X12_worthBy [.ref 11, .int (nI r), .int (nI j), .int (nI b)] σ (liI (fun v σ' => v.toInt = wth w r j b)) := by
  refine S_X12_worthBy hn (by omega) ⟨_, asks_spec hn (by omega) hM hw hj hb, ?_⟩
  intro σ3 hW3 hf3
  have hM3 : RM σ3 w := hM.st hf3 (by decide)
  clear hM hf3
  rw [m16]
  obtain ⟨hWS, hSl, hfl⟩ := hw.ws r
  generalize hS : w.ws r = S at hWS hSl hfl
  have loop : ∀ i, i ≤ S.length → ∀ (σ1 : St) (x4 : Int64), RM σ1 w → Wrds σ1 w j b → x4.toInt = wthL (wrd w j b) b (S.take i) → K_X12_worthBy_15 d n σ (fun v σ' => v.toInt = wth w r j b) σ1 (nI r) (nI b) x4 (nI (16 * r + i)) := by
    refine up_ind (N := S.length) ?_ ?_
    · intro σ1 x4 hM1 hW1 hx
      have hrow := hM1.row r hr
      rw [hS] at hrow
      refine B_X12_worthBy_15 hn (by omega) ⟨vp_in_nI (by omega) (by decide), fun _ => ?_, fun h => absurd ?_ h⟩
      · rw [List.take_length] at hx
        have := wthL_rng (wrd w j b) b S
        rw [toI32 (by omega), hx, wth, hS]
      · rw [nI_clamp (by omega), hrow.1, m16, nI_add]; exact nI_le (Nat.le_refl _) (by omega)
    · intro i hi ih σ1 x4 hM1 hW1 hx
      have hrow := hM1.row r hr
      rw [hS] at hrow
      obtain ⟨s, hs⟩ : ∃ s, S[i]? = some s := ⟨S[i], List.getElem?_eq_getElem hi⟩
      obtain ⟨r1, r2, r3, r4⟩ := hrow.2.1 i s hs
      have hws := hWS s (List.mem_of_getElem? hs)
      have hlen := flat_len hs
      have hv : vp_in (nI (16 * r + i)) 160 := vp_in_nI (by omega) (by decide)
      have hacc := wthL_rng (wrd w j b) b (S.take i)
      have hsucc := wthL_succ (g := wrd w j b) (b := b) hs
      refine B_X12_worthBy_15 hn (by omega) ⟨vp_in_nI (by omega) (by decide), fun h => absurd ?_ (nI_ge (a := 16 * r + i) (b := 16 * r + S.length) (by omega) (by omega)), fun _ => ⟨hv, ?_⟩⟩
      · rw [nI_clamp (by omega), hrow.1, m16, nI_add] at h; exact h
      · rw [nI_clamp (by omega), r1, r2, r3, r4, nI_1]
        refine ⟨fun h0 => ?_, fun h0 => ⟨hv, hv, ?_, ?_⟩⟩
        · have h0' : ¬ s.1 = 0 := fun e => h0 (by rw [e]; rfl)
          rw [show 16 * r + i + 1 = 16 * r + (i + 1) by omega]
          exact ih σ1 x4 hM1 hW1 (by rw [hsucc, if_neg (fun z => h0' z.1)]; exact hx)
        · intro hle
          have hs1 : s.1 = 0 := by rcases hws.1 with z | z
                                   · exact z.1
                                   · rw [z.1] at h0; exact absurd h0 (by decide)
          have hc : s.2.2 = [] := by
            have := (nI_leI (by omega) (by omega)).mp hle
            exact List.length_eq_zero_iff.mp (by omega)
          have htc : tcL 40 s.2.1 [] = some [true] := by rcases hws.1 with z | z
                                                         · exact z.2
                                                         · omega
          refine ⟨hv, hv, _, runs_spec hn (by omega) hw hb (hrow.segE hs) (by omega) htc hW1, ?_⟩
          rintro v σ6 ⟨hv6, hW6⟩ hf6
          rw [show 16 * r + i + 1 = 16 * r + (i + 1) by omega]
          refine ih σ6 _ (hM1.st hf6 (by decide)) hW6 ?_
          rw [hsucc, if_pos ⟨hs1, by simp [hlds, hc]⟩]
          exact clW hx hv6 hacc (tv_rng hw htc)
        · intro hle
          have hs1 : s.1 = 0 := by rcases hws.1 with z | z
                                   · exact z.1
                                   · rw [z.1] at h0; exact absurd h0 (by decide)
          have hcl : s.2.2.length ≠ 0 := by
            intro z
            exact hle (nI_le (by omega) (by omega))
          have hcne : s.2.2 ≠ [] := fun z => hcl (by rw [z]; rfl)
          have hcc : tcL 40 s.2.2 [] = some [false] := hws.2.resolve_left hcne
          have htc : tcL 40 s.2.1 [] = some [true] := by rcases hws.1 with z | z
                                                         · exact z.2
                                                         · omega
          refine ⟨hv, hv, _, runs_spec hn (by omega) hw hb (hrow.segC hs) (by omega) hcc hW1, ?_⟩
          rintro v σ6 ⟨hv6, hW6⟩ hf6
          have hM6 := hM1.st hf6 (by decide)
          have hrow6 := hM6.row r hr
          rw [hS] at hrow6
          obtain ⟨-, q2, q3, -⟩ := hrow6.2.1 i s hs
          have hemp : s.2.2.isEmpty = false := by simpa using hcne
          refine ⟨fun hc => ⟨hv, hv, ?_⟩, fun hc => ?_⟩
          · have hnz : topv (evl (wrd w j b) b s.2.2 []) ≠ 0 := fun z => hc (cmp_z.mpr (by rw [hv6, z]; rfl))
            rw [q2, q3]
            refine ⟨_, runs_spec hn (by omega) hw hb (hrow6.segE hs) (by omega) htc hW6, ?_⟩
            rintro v2 σ7 ⟨hv7, hW7⟩ hf7
            rw [show 16 * r + i + 1 = 16 * r + (i + 1) by omega]
            refine ih σ7 _ (hM6.st hf7 (by decide)) hW7 ?_
            rw [hsucc, if_pos ⟨hs1, by simp [hlds, hnz]⟩]
            exact clW hx hv7 hacc (tv_rng hw htc)
          · have hz : topv (evl (wrd w j b) b s.2.2 []) = 0 := by have := cmp_z.mp hc; rw [hv6] at this; exact this
            rw [show 16 * r + i + 1 = 16 * r + (i + 1) by omega]
            exact ih σ6 x4 hM6 hW6 (by rw [hsucc, if_neg (by simp [hlds, hz, hemp])]; exact hx)
  have := loop 0 (Nat.zero_le _) σ3 0 hM3 hW3 (by simp [wthL])
  simpa using this
theorem saysNever_spec {d n : Nat} {σ : St} {w : Wd} {r j b : Nat} (hn : FIX ≤ n) (hd : 4 ≤ d) (hM : RM σ w) (hw : WW w) (hr : r < 9) (hj : j < 8) (hb : b < 1024) :
    Cn d n M_X12_saysNever md_X12_saysNever [.ref 11, .int (nI r), .int (nI j), .int (nI b)] σ (liI (fun v σ' => v = if nev w r j b = true then 1 else 0)) := by
  refine S_X12_saysNever hn (by omega) ⟨_, asks_spec hn (by omega) hM hw hj hb, ?_⟩
  intro σ3 hW3 hf3
  have hM3 : RM σ3 w := hM.st hf3 (by decide)
  clear hM hf3
  rw [m16]
  obtain ⟨hWS, hSl, hfl⟩ := hw.ws r
  generalize hS : w.ws r = S at hWS hSl hfl
  have loop : ∀ i, i ≤ S.length → ∀ (σ1 : St) (x4 : Int32), RM σ1 w → Wrds σ1 w j b → (x4 = if nevL (wrd w j b) b (S.take i) = true then 1 else 0) → K_X12_saysNever_15 d n σ (fun v σ' => v = if nev w r j b = true then 1 else 0) σ1 (nI r) (nI b) x4 (nI (16 * r + i)) := by
    refine up_ind (N := S.length) ?_ ?_
    · intro σ1 x4 hM1 hW1 hx
      have hrow := hM1.row r hr
      rw [hS] at hrow
      refine B_X12_saysNever_15 hn (by omega) ⟨vp_in_nI (by omega) (by decide), fun _ => ⟨?_, ?_⟩, fun h => absurd ?_ h⟩
      · rw [hx]; split <;> simp
      · rw [List.take_length] at hx
        rw [hx, nev, hS]
      · rw [nI_clamp (by omega), hrow.1, m16, nI_add]; exact nI_le (Nat.le_refl _) (by omega)
    · intro i hi ih σ1 x4 hM1 hW1 hx
      have hrow := hM1.row r hr
      rw [hS] at hrow
      obtain ⟨s, hs⟩ : ∃ s, S[i]? = some s := ⟨S[i], List.getElem?_eq_getElem hi⟩
      obtain ⟨r1, r2, r3, r4⟩ := hrow.2.1 i s hs
      have hws := hWS s (List.mem_of_getElem? hs)
      have hlen := flat_len hs
      have hv : vp_in (nI (16 * r + i)) 160 := vp_in_nI (by omega) (by decide)
      have hsucc := nevL_succ (g := wrd w j b) (b := b) hs
      refine B_X12_saysNever_15 hn (by omega) ⟨vp_in_nI (by omega) (by decide), fun h => absurd ?_ (nI_ge (a := 16 * r + i) (b := 16 * r + S.length) (by omega) (by omega)), fun _ => ⟨fun hx1 => ?_, fun hx0 => ⟨hv, ?_⟩⟩⟩
      · rw [nI_clamp (by omega), hrow.1, m16, nI_add] at h; exact h
      · have hp : nevL (wrd w j b) b (S.take i) = true := by
          rcases Bool.eq_false_or_eq_true (nevL (wrd w j b) b (S.take i)) with e | e
          · exact e
          · rw [e] at hx; exact absurd hx hx1
        rw [nI_1, show 16 * r + i + 1 = 16 * r + (i + 1) by omega]
        exact ih σ1 1 hM1 hW1 (by rw [hsucc, hp]; rfl)
      · have hp : nevL (wrd w j b) b (S.take i) = false := by
          rcases Bool.eq_false_or_eq_true (nevL (wrd w j b) b (S.take i)) with e | e
          · rw [e] at hx; rw [hx] at hx0; exact absurd hx0 (by decide)
          · exact e
        rw [nI_clamp (by omega), r1, r3, r4, nI_1, show 16 * r + i + 1 = 16 * r + (i + 1) by omega]
        refine ⟨fun h1 => ?_, fun h1 => ⟨hv, hv, fun hc => ?_, fun hc => ⟨hv, hv, ?_⟩⟩⟩
        · have h1' : ¬ s.1 = 1 := fun e => h1 (by rw [e]; rfl)
          exact ih σ1 0 hM1 hW1 (by rw [hsucc, hp]; simp [h1'])
        · have hs1 : s.1 = 1 := by rcases hws.1 with z | z
                                   · rw [z.1] at h1; exact absurd h1 (by decide)
                                   · exact z.1
          have hce : s.2.2 = [] := by
            have := (nI_eq (by omega) (by omega)).mp hc
            exact List.length_eq_zero_iff.mp (by omega)
          exact ih σ1 1 hM1 hW1 (by rw [hsucc, hp]; simp [hs1, hlds, hce])
        · have hs1 : s.1 = 1 := by rcases hws.1 with z | z
                                   · rw [z.1] at h1; exact absurd h1 (by decide)
                                   · exact z.1
          have hcne : s.2.2 ≠ [] := fun z => hc (by rw [z]; rfl)
          have hcc : tcL 40 s.2.2 [] = some [false] := hws.2.resolve_left hcne
          refine ⟨_, runs_spec hn (by omega) hw hb (hrow.segC hs) (by omega) hcc hW1, ?_⟩
          rintro v σ6 ⟨hv6, hW6⟩ hf6
          have hM6 := hM1.st hf6 (by decide)
          have hb01 := tv_bool (j := j) (b := b) hw hcc
          refine ⟨fun h2 => ?_, fun h2 => ?_⟩
          · have hz : topv (evl (wrd w j b) b s.2.2 []) = 0 := by
              rcases hb01 with z | z
              · exact z
              · exact absurd (cmp_z.mpr (by rw [hv6, z]; rfl)) h2
            exact ih σ6 0 hM6 hW6 (by rw [hsucc, hp]; simp [hlds, hz, hcne])
          · have hz : topv (evl (wrd w j b) b s.2.2 []) = 1 := by have := cmp_z.mp h2; rw [hv6] at this; exact this
            exact ih σ6 1 hM6 hW6 (by rw [hsucc, hp]; simp [hlds, hz, hs1])
  have := loop 0 (Nat.zero_le _) σ3 0 hM3 hW3 (by simp [nevL])
  simpa using this
theorem clashB_iff {w : Wd} {b : Nat} : clashB w b = true ↔ ∃ l o, l < o ∧ o < w.N ∧ b.testBit l = true ∧ b.testBit o = true ∧ w.fr l < w.to o ∧ w.fr o < w.to l := by
  simp only [clashB, List.any_eq_true, List.mem_range, Bool.and_eq_true, decide_eq_true_eq]
  constructor
  · rintro ⟨l, hl, o, ho, h1, h2, h3, h4, h5⟩
    exact ⟨l, o, h1, ho, h2, h3, h4, h5⟩
  · rintro ⟨l, o, h1, ho, h2, h3, h4, h5⟩
    exact ⟨l, by omega, o, ho, h1, h2, h3, h4, h5⟩
theorem lackB_iff {w : Wd} {j b : Nat} : lackB w j b = true ↔ ∃ k, k < w.A ∧ b.testBit (w.a1 k) = true ∧ b.testBit (w.a2 k) = false ∧ (w.dn j).testBit (w.a2 k) = false := by
  simp only [lackB, List.any_eq_true, List.mem_range, Bool.and_eq_true, Bool.not_eq_true']
theorem barsBy_spec {d n : Nat} {σ : St} {w : Wd} {r j b : Nat} (hn : FIX ≤ n) (hd : 5 ≤ d) (hM : RM σ w) (hw : WW w) (hr : r < 9) (hj : j < 8) (hb : b < 1024) :
    Cn d n M_X12_barsBy md_X12_barsBy [.ref 11, .int (nI r), .int (nI j), .int (nI b)] σ (liI (fun v σ' => v = nI (bar w r j b))) := by
  have hN := hw.N
  have hA := hw.A
  refine S_X12_barsBy hn (by omega) ⟨fun h1 => ?_, fun h1 => ?_⟩
  · rw [hM.N, shrN (by omega) (by omega)] at h1
    have hdl : b / 2 ^ w.N ≤ b := Nat.div_le_self _ _
    have h1' : b / 2 ^ w.N = 0 := by
      rcases Nat.eq_zero_or_pos (b / 2 ^ w.N) with z | z
      · exact z
      · exact absurd h1 (nI_nle z (by omega))
    refine ⟨_, bits_spec hb, ?_⟩
    rintro v σ4 ⟨rfl, rfl⟩ _
    have hpc : popc b ≤ 10 := popU_le b 10
    have hmo := hw.mo
    rw [hM.mo]
    refine ⟨fun h2 => ?_, fun h2 => ?_⟩
    · have h2' : ¬ w.mo < popc b := by have := (nI_leI (by omega) (by omega)).mp h2; omega
      -- the couples of AFTER, then the wishes
      have aft : clashB w b = false → ∀ k, k ≤ w.A → (∀ k', k' < k → ¬ (b.testBit (w.a1 k') = true ∧ b.testBit (w.a2 k') = false ∧ (w.dn j).testBit (w.a2 k') = false)) → K_X12_barsBy_120 d n σ (fun v σ' => v = nI (bar w r j b)) σ (nI r) (nI j) (nI b) (nI k) := by
        intro hc
        refine up_ind (N := w.A) ?_ ?_
        · intro hno
          have hl : lackB w j b = false := by
            rcases Bool.eq_false_or_eq_true (lackB w j b) with e | e
            · obtain ⟨k, hk, h⟩ := lackB_iff.mp e
              exact absurd h (hno k hk)
            · exact e
          refine B_X12_barsBy_120 hn (by omega) ⟨fun _ => ⟨_, saysNever_spec hn (by omega) hM hw hr hj hb, ?_⟩, fun h => absurd (by rw [hM.A]; exact nI_le (Nat.le_refl _) (by omega)) h⟩
          rintro v σ5 rfl _
          by_cases hv : nev w r j b = true
          · rw [if_pos hv]
            refine ⟨fun z => absurd z (by decide), fun _ => ?_⟩
            simp [bar, h1', h2', hc, hl, hv]; rfl
          · rw [if_neg hv]
            refine ⟨fun _ => ?_, fun z => absurd rfl z⟩
            simp [bar, h1', h2', hc, hl, hv]; rfl
        · intro k hk ih hno
          obtain ⟨k1, k2⟩ := hM.aft k hk
          obtain ⟨a1, a2⟩ := hw.af k hk
          have hv : vp_in (nI k) 20 := vp_in_nI (by omega) (by decide)
          have hdn := hw.dn j
          have next : ¬ (b.testBit (w.a1 k) = true ∧ b.testBit (w.a2 k) = false ∧ (w.dn j).testBit (w.a2 k) = false) → K_X12_barsBy_120 d n σ (fun v σ' => v = nI (bar w r j b)) σ (nI r) (nI j) (nI b) (nI k + 1) := by
            intro hk2
            rw [nI_1]
            refine ih (fun k' hk' => ?_)
            rcases Nat.lt_or_ge k' k with z | z
            · exact hno k' z
            · rw [show k' = k by omega]; exact hk2
          refine B_X12_barsBy_120 hn (by omega) ⟨fun h => absurd (by rw [hM.A] at h; exact h) (nI_ge hk (by omega)), fun _ => ⟨hv, ?_⟩⟩
          rw [nI_clamp (by omega), k1, k2, nI_clamp (n := j) (by omega), (hM.per j hj).2.1]
          refine ⟨fun z => next (fun q => (hold_z (by omega) (by omega)).mp z q.1), fun z => ⟨hv, fun z2 => ?_, fun z2 => ⟨vp_in_nI hj (by decide), hv, fun z3 => ?_, fun z3 => ?_⟩⟩⟩
          · have := hold_nz (by omega) (by omega) z2
            exact next (fun q => by rw [this] at q; exact absurd q.2.1 (by decide))
          · have := hold_nz (by omega) (by omega) z3
            exact next (fun q => by rw [this] at q; exact absurd q.2.2 (by decide))
          · have q1 := hold_nz (by omega) (by omega) z
            have q2 := (hold_z (by omega) (by omega)).mp z2
            have q3 := (hold_z (by omega) (by omega)).mp z3
            have hl : lackB w j b = true := lackB_iff.mpr ⟨k, hk, q1, by simpa using q2, by simpa using q3⟩
            show (4 : Int32) = _
            simp [bar, h1', h2', hc, hl]; rfl
      -- the couples that clash
      have outer : ∀ l, l ≤ w.N → (∀ l' o, l' < l → l' < o → o < w.N → ¬ (b.testBit l' = true ∧ b.testBit o = true ∧ w.fr l' < w.to o ∧ w.fr o < w.to l')) → K_X12_barsBy_27 d n σ (fun v σ' => v = nI (bar w r j b)) σ (nI r) (nI j) (nI b) (nI l) := by
        refine up_ind (N := w.N) ?_ ?_
        · intro hno
          have hc : clashB w b = false := by
            rcases Bool.eq_false_or_eq_true (clashB w b) with e | e
            · obtain ⟨l, o, h1, h2, h⟩ := clashB_iff.mp e
              exact absurd h (hno l o (by omega) h1 h2)
            · exact e
          exact B_X12_barsBy_27 hn (by omega) ⟨fun _ => aft hc 0 (Nat.zero_le _) (fun k' hk' => absurd hk' (by omega)), fun h => absurd (by rw [hM.N]; exact nI_le (Nat.le_refl _) (by omega)) h⟩
        · intro l hl ih hno
          refine B_X12_barsBy_27 hn (by omega) ⟨fun h => absurd (by rw [hM.N] at h; exact h) (nI_ge hl (by omega)), fun _ => ?_⟩
          rw [nI_1]
          have inner : ∀ o, o ≤ w.N → l < o → (∀ o', l < o' → o' < o → ¬ (b.testBit l = true ∧ b.testBit o' = true ∧ w.fr l < w.to o' ∧ w.fr o' < w.to l)) → K_X12_barsBy_42 d n σ (fun v σ' => v = nI (bar w r j b)) σ (nI r) (nI j) (nI b) (nI l) (nI o) := by
            refine up_ind (N := w.N) ?_ ?_
            · intro hlo hno2
              refine B_X12_barsBy_42 hn (by omega) ⟨fun _ => ?_, fun h => absurd (by rw [hM.N]; exact nI_le (Nat.le_refl _) (by omega)) h⟩
              rw [nI_1]
              refine ih (fun l' o h1 h2 h3 => ?_)
              rcases Nat.lt_or_ge l' l with z | z
              · exact hno l' o z h2 h3
              · have e : l' = l := by omega
                subst e; exact hno2 o h2 h3
            · intro o ho ih2 hlo hno2
              have next : ¬ (b.testBit l = true ∧ b.testBit o = true ∧ w.fr l < w.to o ∧ w.fr o < w.to l) → K_X12_barsBy_42 d n σ (fun v σ' => v = nI (bar w r j b)) σ (nI r) (nI j) (nI b) (nI l) (nI o + 1) := by
                intro hx
                rw [nI_1]
                refine ih2 (by omega) (fun o' h1 h2 => ?_)
                rcases Nat.lt_or_ge o' o with z | z
                · exact hno2 o' h1 z
                · rw [show o' = o by omega]; exact hx
              have hvl : vp_in (nI l) 10 := vp_in_nI (by omega) (by decide)
              have hvo : vp_in (nI o) 10 := vp_in_nI (by omega) (by decide)
              obtain ⟨-, l2, l3, -⟩ := hM.les l (by omega)
              obtain ⟨-, o2, o3, -⟩ := hM.les o (by omega)
              have hfl := hw.ft l hl
              have hfo := hw.ft o ho
              refine B_X12_barsBy_42 hn (by omega) ⟨fun h => absurd (by rw [hM.N] at h; exact h) (nI_ge ho (by omega)), fun _ => ⟨fun z => ?_, fun z => ⟨fun z2 => ?_, fun z2 => ⟨hvl, hvo, ?_⟩⟩⟩⟩
              · exact next (fun q => (hold_z (by omega) (by omega)).mp z q.1)
              · exact next (fun q => (hold_z (by omega) (by omega)).mp z2 q.2.1)
              · rw [nI_clamp (by omega), nI_clamp (by omega), l2, l3, o2, o3]
                refine ⟨fun z3 => ?_, fun z3 => ⟨hvo, hvl, fun z4 => ?_, fun z4 => ?_⟩⟩
                · have := (nI_leI (by omega) (by omega)).mp z3
                  exact next (fun q => by omega)
                · have := (nI_leI (by omega) (by omega)).mp z4
                  exact next (fun q => by omega)
                · have q3 : w.fr l < w.to o := by
                    rcases Nat.lt_or_ge (w.fr l) (w.to o) with e | e
                    · exact e
                    · exact absurd (nI_le e (by omega)) z3
                  have q4 : w.fr o < w.to l := by
                    rcases Nat.lt_or_ge (w.fr o) (w.to l) with e | e
                    · exact e
                    · exact absurd (nI_le e (by omega)) z4
                  have hc : clashB w b = true := clashB_iff.mpr ⟨l, o, hlo, ho, hold_nz (by omega) (by omega) z, hold_nz (by omega) (by omega) z2, q3, q4⟩
                  show (3 : Int32) = _
                  simp [bar, h1', h2', hc]; rfl
          exact inner (l + 1) (by omega) (by omega) (fun o' h1 h2 => absurd h1 (by omega))
      exact outer 0 (Nat.zero_le _) (fun l' o h => absurd h (by omega))
    · have h2' : w.mo < popc b := by
        rcases Nat.lt_or_ge w.mo (popc b) with z | z
        · exact z
        · exact absurd (nI_le z (by omega)) h2
      show (2 : Int32) = _
      simp [bar, h1', h2']; rfl
  · have h1' : b / 2 ^ w.N ≠ 0 := by
      intro z
      apply h1
      rw [hM.N, shrN (by omega) (by omega), z]; decide
    show (1 : Int32) = _
    simp [bar, h1']; rfl
