abbrev M_J0_charAt_5068e : MI := (yJ0_charAt_5068e, cJ0_charAt_5068e, 2, some .char)
abbrev M_J0_checkIndex_df160 : MI := (yJ0_checkIndex_df160, cJ0_checkIndex_df160, 2, none)
abbrev M_J0_coder_7d493 : MI := (yJ0_coder_7d493, cJ0_coder_7d493, 1, some .byte)
abbrev M_J0_indexOf_0f7a4 : MI := (yJ0_indexOf_0f7a4, cJ0_indexOf_0f7a4, 2, some .int)
abbrev M_J0_indexOf_7cf53 : MI := (yJ0_indexOf_7cf53, cJ0_indexOf_7cf53, 3, some .int)
abbrev M_J0_isLatin1_aae02 : MI := (yJ0_isLatin1_aae02, cJ0_isLatin1_aae02, 1, some .boolean)
abbrev M_J0_length_8abf5 : MI := (yJ0_length_8abf5, cJ0_length_8abf5, 1, some .int)
abbrev M_J1_canEncode_9a6ad : MI := (yJ1_canEncode_9a6ad, cJ1_canEncode_9a6ad, 1, some .boolean)
abbrev M_J1_charAt_3b067 : MI := (yJ1_charAt_3b067, cJ1_charAt_3b067, 2, some .char)
abbrev M_J1_indexOfChar_4cfef : MI := (yJ1_indexOfChar_4cfef, cJ1_indexOfChar_4cfef, 6, some .int)
abbrev M_J1_indexOf_4cfef : MI := (yJ1_indexOf_4cfef, cJ1_indexOf_4cfef, 4, some .int)
abbrev M_J2_charAt_3b067 : MI := (yJ2_charAt_3b067, cJ2_charAt_3b067, 2, some .char)
abbrev M_J2_indexOf_4cfef : MI := (yJ2_indexOf_4cfef, cJ2_indexOf_4cfef, 4, some .int)
abbrev M_J3_checkIndex_8e157 : MI := (yJ3_checkIndex_8e157, cJ3_checkIndex_8e157, 3, some .int)
theorem mk_J0_charAt_5068e : Mv M_J0_charAt_5068e 1 := ⟨⟨(sw_U_t3_5 2 rfl rfl), (sw_U_t1_0 15 rfl rfl), by decide +kernel, by decide⟩, (sw_U_t3_5 0 rfl rfl), (sw_U_t3_5 1 rfl rfl)⟩
theorem mk_J0_checkIndex_df160 : Ms M_J0_checkIndex_df160 2 := ⟨⟨(sw_U_t3_5 14 rfl rfl), (sw_U_t1_0 15 rfl rfl), by decide +kernel, by decide⟩, (sw_U_t3_5 13 rfl rfl)⟩
theorem mk_J0_coder_7d493 : Mv M_J0_coder_7d493 0 := ⟨⟨(sw_U_t3_9 2 rfl rfl), (sw_U_t1_0 15 rfl rfl), by decide +kernel, by decide⟩, (sw_U_t3_9 0 rfl rfl), (sw_U_t3_9 1 rfl rfl)⟩
theorem mk_J0_indexOf_0f7a4 : Mv M_J0_indexOf_0f7a4 1 := ⟨⟨(sw_U_t3_8 6 rfl rfl), (sw_U_t1_0 15 rfl rfl), by decide +kernel, by decide⟩, (sw_U_t3_8 4 rfl rfl), (sw_U_t3_8 5 rfl rfl)⟩
theorem mk_J0_indexOf_7cf53 : Mv M_J0_indexOf_7cf53 2 := ⟨⟨(sw_U_t3_8 10 rfl rfl), (sw_U_t1_0 15 rfl rfl), by decide +kernel, by decide⟩, (sw_U_t3_8 8 rfl rfl), (sw_U_t3_8 9 rfl rfl)⟩
theorem mk_J0_isLatin1_aae02 : Mv M_J0_isLatin1_aae02 0 := ⟨⟨(sw_U_t3_5 6 rfl rfl), (sw_U_t1_0 15 rfl rfl), by decide +kernel, by decide⟩, (sw_U_t3_5 4 rfl rfl), (sw_U_t3_5 5 rfl rfl)⟩
theorem mk_J0_length_8abf5 : Mv M_J0_length_8abf5 0 := ⟨⟨(sw_U_t3_8 14 rfl rfl), (sw_U_t1_0 15 rfl rfl), by decide +kernel, by decide⟩, (sw_U_t3_8 12 rfl rfl), (sw_U_t3_8 13 rfl rfl)⟩
theorem mk_J1_canEncode_9a6ad : Ms M_J1_canEncode_9a6ad 1 := ⟨⟨(sw_U_t3_9 8 rfl rfl), (sw_U_t1_1 0 rfl rfl), by decide +kernel, by decide⟩, (sw_U_t3_9 7 rfl rfl)⟩
theorem mk_J1_charAt_3b067 : Ms M_J1_charAt_3b067 2 := ⟨⟨(sw_U_t3_5 11 rfl rfl), (sw_U_t1_1 0 rfl rfl), by decide +kernel, by decide⟩, (sw_U_t3_5 10 rfl rfl)⟩
theorem mk_J1_indexOfChar_4cfef : Ms M_J1_indexOfChar_4cfef 4 := ⟨⟨(sw_U_t3_9 15 rfl rfl), (sw_U_t1_1 0 rfl rfl), by decide +kernel, by decide⟩, (sw_U_t3_9 14 rfl rfl)⟩
theorem mk_J1_indexOf_4cfef : Ms M_J1_indexOf_4cfef 4 := ⟨⟨(sw_U_t3_9 5 rfl rfl), (sw_U_t1_1 0 rfl rfl), by decide +kernel, by decide⟩, (sw_U_t3_9 4 rfl rfl)⟩
theorem mk_J2_charAt_3b067 : Ms M_J2_charAt_3b067 2 := ⟨⟨(sw_U_t3_6 6 rfl rfl), (sw_U_t1_1 2 rfl rfl), by decide +kernel, by decide⟩, (sw_U_t3_6 5 rfl rfl)⟩
theorem mk_J2_indexOf_4cfef : Ms M_J2_indexOf_4cfef 4 := ⟨⟨(sw_U_t3_10 2 rfl rfl), (sw_U_t1_1 2 rfl rfl), by decide +kernel, by decide⟩, (sw_U_t3_10 1 rfl rfl)⟩
theorem mk_J3_checkIndex_8e157 : Ms M_J3_checkIndex_8e157 3 := ⟨⟨(sw_U_t3_6 3 rfl rfl), (sw_U_t1_1 1 rfl rfl), by decide +kernel, by decide⟩, (sw_U_t3_6 2 rfl rfl)⟩
theorem ml_J0_335 : (.methodLink RJ0 335 yJ0_coder_7d493 : Cond) ∈ TT := (sw_U_t3_8 15 rfl rfl)
theorem ml_J0_492 : (.methodLink RJ0 492 yJ0_isLatin1_aae02 : Cond) ∈ TT := (sw_U_t3_5 3 rfl rfl)
theorem ml_J0_495 : (.methodLink RJ0 495 yJ1_charAt_3b067 : Cond) ∈ TT := (sw_U_t3_5 9 rfl rfl)
theorem ml_J0_498 : (.methodLink RJ0 498 yJ2_charAt_3b067 : Cond) ∈ TT := (sw_U_t3_6 4 rfl rfl)
theorem ml_J0_505 : (.methodLink RJ0 505 yJ0_length_8abf5 : Cond) ∈ TT := (sw_U_t3_8 11 rfl rfl)
theorem ml_J0_633 : (.methodLink RJ0 633 yJ0_indexOf_7cf53 : Cond) ∈ TT := (sw_U_t3_8 7 rfl rfl)
theorem ml_J0_637 : (.methodLink RJ0 637 yJ1_indexOf_4cfef : Cond) ∈ TT := (sw_U_t3_9 3 rfl rfl)
theorem ml_J0_640 : (.methodLink RJ0 640 yJ2_indexOf_4cfef : Cond) ∈ TT := (sw_U_t3_10 0 rfl rfl)
theorem ml_J1_9 : (.methodLink RJ1 9 yJ0_checkIndex_df160 : Cond) ∈ TT := (sw_U_t3_5 12 rfl rfl)
theorem ml_J1_38 : (.methodLink RJ1 38 Lib.Math.min.name : Cond) ∈ TT := (sw_U_t3_9 12 rfl rfl)
theorem ml_J1_88 : (.methodLink RJ1 88 yJ1_canEncode_9a6ad : Cond) ∈ TT := (sw_U_t3_9 6 rfl rfl)
theorem ml_J1_92 : (.methodLink RJ1 92 Lib.Math.max.name : Cond) ∈ TT := (sw_U_t3_9 9 rfl rfl)
theorem ml_J1_95 : (.methodLink RJ1 95 yJ1_indexOfChar_4cfef : Cond) ∈ TT := (sw_U_t3_9 13 rfl rfl)
theorem ml_X9_31 : (.methodLink RX9 31 Lib.Math.min.name : Cond) ∈ TT := (sw_U_t3_4 0 rfl rfl)
theorem ml_X9_37 : (.methodLink RX9 37 yX9_isLetter : Cond) ∈ TT := (sw_U_t3_4 3 rfl rfl)
theorem ml_X9_41 : (.methodLink RX9 41 yX9_wordKind : Cond) ∈ TT := (sw_U_t3_4 6 rfl rfl)
theorem ml_X9_44 : (.methodLink RX9 44 yX9_token : Cond) ∈ TT := (sw_U_t3_7 7 rfl rfl)
theorem ml_X9_48 : (.methodLink RX9 48 yX9_isDigit : Cond) ∈ TT := (sw_U_t3_7 11 rfl rfl)
theorem ml_X9_51 : (.methodLink RX9 51 yX9_numberOf : Cond) ∈ TT := (sw_U_t3_7 14 rfl rfl)
theorem ml_X9_56 : (.methodLink RX9 56 yJ0_indexOf_0f7a4 : Cond) ∈ TT := (sw_U_t3_8 3 rfl rfl)
theorem ml_X9_68 : (.methodLink RX9 68 yJ0_charAt_5068e : Cond) ∈ TT := (sw_U_t3_4 15 rfl rfl)
theorem flj_J0_9 : (.fieldLink RJ0 9 RJ0 "value" "[B" : Cond) ∈ TT := (sw_U_t8_5 6 rfl rfl)
theorem flj_J0_15 : (.fieldLink RJ0 15 RJ0 "coder" "B" : Cond) ∈ TT := (sw_U_t8_5 5 rfl rfl)
theorem flj_J0_38 : (.fieldLink RJ0 38 RJ0 "COMPACT_STRINGS" "Z" : Cond) ∈ TT := (sw_U_t3_5 7 rfl rfl)
theorem flj_J0_1053 : (.fieldLink RJ0 1053 RJ3 "SIOOBE_FORMATTER" "Ljava/util/function/BiFunction;" : Cond) ∈ TT := (sw_U_t3_5 15 rfl rfl)
theorem flj_X5_79 : (.fieldLink RX5 79 RX5 "STRIDES" "[I" : Cond) ∈ TT := (sw_U_t4_6 3 rfl rfl)
theorem ml_J0_1059 : (.methodLink RJ0 1059 yJ3_checkIndex_8e157 : Cond) ∈ TT := (sw_U_t3_6 1 rfl rfl)
/-! ===== rules of the constants ===== -/
def kLen (i : Nat) : Nat := ([65, 12] : List Nat).getD i 0
def kBy (i j : Nat) : Int32 := (([kWords, kSigns] : List (List Int32)).getD i []).getD j 0
section RulesK
variable {X : Cx} {M : MI} {pc : Nat} {ls : List (Option Value)} {st : List Value} {σ : St}
theorem KC.str {G : Gx} {A : Nat → Prop} {s : State} (h : KC G A s) : vk_S 2 [65, 12] [kWords, kSigns] (fun i => G.2.1 (2000 + i)) (fun i => G.2.1 (2002 + i)) A s s.heap := h.2.2.2.1
theorem e_ldcW (hd : decode M.2.1 pc = .ok (.ldc 66, 2)) (ho : M.1.cls = RX9) (kk : Ev X M (pc + 2) ls (.ref (2000 + 0) :: st) σ) : Ev X M pc ls st σ := by
  intro G p l e s m args below meth c H locs A lsA hF hC hL hFr
  have hown := hF.2.2.2.2.2.1
  rw [ho] at hown
  exact va_ldcS hF.1 hF.2.1 hown hC.2.2.2.2.2.2.2.2.2.1 hd (kk G p l e s m args below meth c H locs A lsA hF hC hL hFr)
theorem e_ldcG (hd : decode M.2.1 pc = .ok (.ldc 54, 2)) (ho : M.1.cls = RX9) (kk : Ev X M (pc + 2) ls (.ref (2000 + 1) :: st) σ) : Ev X M pc ls st σ := by
  intro G p l e s m args below meth c H locs A lsA hF hC hL hFr
  have hown := hF.2.2.2.2.2.1
  rw [ho] at hown
  exact va_ldcS hF.1 hF.2.1 hown hC.2.2.2.2.2.2.2.2.2.2.1 hd (kk G p l e s m args below meth c H locs A lsA hF hC hL hFr)
theorem e_getfV {index i : Nat} (hd : decode M.2.1 pc = .ok (.getfield index, 3)) (hw : (.fieldLink M.1.cls index RJ0 "value" "[B" : Cond) ∈ TT) (hi : i < 2) (kk : Ev X M (pc + 3) ls (.ref (2002 + i) :: st) σ) : Ev X M pc ls (.ref (2000 + i) :: st) σ := by
  intro G p l e s m args below meth c H locs A lsA hF hC hL hFr
  have hK := (hC.2.2.2.2.2.str.1 i hi).2.2.1
  exact vk_getf hF.1 hF.2.1 hK hC.2.2.2.1 hF.2.2.2.2.2.1 (hF.2.2.2.2.2.2 _ hw) (fun _ h => h) hd (kk G p l e s m args below meth c H locs A lsA hF hC hL hFr)
theorem e_getfC {index i : Nat} (hd : decode M.2.1 pc = .ok (.getfield index, 3)) (hw : (.fieldLink M.1.cls index RJ0 "coder" "B" : Cond) ∈ TT) (hi : i < 2) (kk : Ev X M (pc + 3) ls (.int 0 :: st) σ) : Ev X M pc ls (.ref (2000 + i) :: st) σ := by
  intro G p l e s m args below meth c H locs A lsA hF hC hL hFr
  have hK := (hC.2.2.2.2.2.str.1 i hi).2.1
  exact vk_getf hF.1 hF.2.1 hK hC.2.2.2.1 hF.2.2.2.2.2.1 (hF.2.2.2.2.2.2 _ hw) (fun _ h => h) hd (kk G p l e s m args below meth c H locs A lsA hF hC hL hFr)
theorem e_tbK {i : Nat} {x : Int32} (hd : decode M.2.1 pc = .ok (.baload, 1)) (hi : i < 2) (hin : vp_in x (kLen i)) (kk : Ev X M (pc + 1) ls (.int (kBy i x.toNatClampNeg) :: st) σ) : Ev X M pc ls (.int x :: .ref (2002 + i) :: st) σ := by
  intro G p l e s m args below meth c H locs A lsA hF hC hL hFr
  exact va_tb hF.1 hF.2.1 (hC.2.2.2.2.2.str.1 i hi).2.2.2 hC.2.2.2.1 hin rfl hd (kk G p l e s m args below meth c H locs A lsA hF hC hL hFr)
theorem e_tlenK {i : Nat} (hd : decode M.2.1 pc = .ok (.arraylength, 1)) (hi : i < 2) (kk : Ev X M (pc + 1) ls (.int (nI (kLen i)) :: st) σ) : Ev X M pc ls (.ref (2002 + i) :: st) σ := by
  intro G p l e s m args below meth c H locs A lsA hF hC hL hFr
  exact va_tlen hF.1 hF.2.1 (hC.2.2.2.2.2.str.1 i hi).2.2.2 hC.2.2.2.1 rfl hd (kk G p l e s m args below meth c H locs A lsA hF hC hL hFr)
theorem e_getsT {index : Nat} (hd : decode M.2.1 pc = .ok (.getstatic index, 3)) (hw : (.fieldLink M.1.cls index RX5 "STRIDES" "[I" : Cond) ∈ TT) (kk : Ev X M (pc + 3) ls (.ref 2004 :: st) σ) : Ev X M pc ls st σ := by
  intro G p l e s m args below meth c H locs A lsA hF hC hL hFr
  exact va_gets hF.1 hF.2.1 hC.2.2.2.2.2.2.1 hC.2.2.2.1 hF.2.2.2.2.2.1 (hF.2.2.2.2.2.2 _ hw) (fun _ h => h) hd (kk G p l e s m args below meth c H locs A lsA hF hC hL hFr)
theorem e_getsC {index : Nat} (hd : decode M.2.1 pc = .ok (.getstatic index, 3)) (hw : (.fieldLink M.1.cls index RJ0 "COMPACT_STRINGS" "Z" : Cond) ∈ TT) (kk : Ev X M (pc + 3) ls (.int 1 :: st) σ) : Ev X M pc ls st σ := by
  intro G p l e s m args below meth c H locs A lsA hF hC hL hFr
  exact va_gets hF.1 hF.2.1 hC.2.2.2.2.2.2.2.2.2.2.2.1 hC.2.2.2.1 hF.2.2.2.2.2.1 (hF.2.2.2.2.2.2 _ hw) (fun _ h => h) hd (kk G p l e s m args below meth c H locs A lsA hF hC hL hFr)
theorem e_getsF {index : Nat} (hd : decode M.2.1 pc = .ok (.getstatic index, 3)) (hw : (.fieldLink M.1.cls index RJ3 "SIOOBE_FORMATTER" "Ljava/util/function/BiFunction;" : Cond) ∈ TT) (kk : ∀ v : Value, v.category = 1 → Ev X M (pc + 3) ls (v :: st) σ) : Ev X M pc ls st σ := by
  intro G p l e s m args below meth c H locs A lsA hF hC hL hFr
  obtain ⟨v, hv, hZ⟩ := hC.2.2.2.2.2.2.2.2.2.2.2.2
  exact va_gets hF.1 hF.2.1 hZ hC.2.2.2.1 hF.2.2.2.2.2.1 (hF.2.2.2.2.2.2 _ hw) (fun _ h => h) hd (kk v (by rcases hv with h | h <;> subst h <;> rfl) G p l e s m args below meth c H locs A lsA hF hC hL hFr)
theorem e_tiK {x : Int32} (hd : decode M.2.1 pc = .ok (.iaload, 1)) (hin : vp_in x 8) (kk : Ev X M (pc + 1) ls (.int (kStrides.getD x.toNatClampNeg 0) :: st) σ) : Ev X M pc ls (.int x :: .ref 2004 :: st) σ := by
  intro G p l e s m args below meth c H locs A lsA hF hC hL hFr
  exact va_ti hF.1 hF.2.1 hC.2.2.2.2.2.2.2.1 hC.2.2.2.1 hin rfl hd (kk G p l e s m args below meth c H locs A lsA hF hC hL hFr)
theorem e_tlenT (hd : decode M.2.1 pc = .ok (.arraylength, 1)) (kk : Ev X M (pc + 1) ls (.int 8 :: st) σ) : Ev X M pc ls (.ref 2004 :: st) σ := by
  intro G p l e s m args below meth c H locs A lsA hF hC hL hFr
  exact va_tlen hF.1 hF.2.1 hC.2.2.2.2.2.2.2.1 hC.2.2.2.1 rfl hd (kk G p l e s m args below meth c H locs A lsA hF hC hL hFr)
theorem e_callK {index k i : Nat} {M' : MI} {as rest : List Value} {m' : Md} {Qc : Option Value → St → Prop} (hd : decode M.2.1 pc = .ok (.invokevirtual index, 3)) (hl : (.methodLink M.1.cls index M'.1 : Cond) ∈ TT) (hM : Mv M' k) (hi : i < 2) (hr1 : M'.1.cls = RJ0) (hn : as.length = k) (hr : (rest.map fun v => v.category).sum ≤ 8) (hd0 : 0 < X.d) (hc : Cn (X.d - 1) X.n M' m' (.ref (2000 + i) :: as) σ Qc) (hm : ∀ q k, inMd m' q k → inMd X.m q k)
    (kk : ∀ v σ', Qc v σ' → Fr m' σ σ' → Ev X M (pc + 3) ls (v.toList ++ rest) σ') : Ev X M pc ls (as.reverse ++ .ref (2000 + i) :: rest) σ := by
  intro G p l e s m args below meth c H locs A lsA hF hC hL hFr
  obtain ⟨⟨hco, hin, hnm, hmx⟩, hinst, hsel⟩ := hM
  have hts := hF.2.2.2.2.2.2
  have hcw : CallW (rmD X.d) s args M.1.cls M'.1.cls index M'.1 M'.2.1 M'.2.2.1 M'.2.2.2 (wsM M') (rmD (X.d - 1)) 0 0 k :=
    ⟨callB_of k hts (GoodIn_M hco) rfl rfl rfl (hts _ hin) (hts _ hl) hnm (room_ok hd0 hmx), hts _ hinst, hts _ hsel⟩
  have hrec : ∃ cell : Cell, H[G.2.1 (2000 + i)]? = some cell ∧ cell.vm.isStatics = false ∧ s.vm.findClass M'.1.cls = some cell.cls := by
    rw [hr1]
    exact vk_recv (adK := fun i => G.2.1 (2000 + i)) (i := i) hC.2.2.2.2.2.str hi hC.2.2.2.1
  have hrun := va_runV (l := l) (e := e) (below := below) (meth := meth) (locs := locs) (cells := 0) (slots := 0) (g := F0 m pc lsA ((as.reverse ++ .ref (2000 + i) :: rest).map (conc G))) (As := as.map (conc G)) (rest := rest.map (conc G)) (b := G.2.1 (2000 + i)) ⟨hF.1, hF.2.1, hF.2.2.1, hF.2.2.2.2.2.1, hts⟩ (hc l G A) hcw
    ⟨PcX_blind _ _ _ _ _, hrec, fun U hU hW => PcX_at hC U hU hW⟩ rfl (by rw [List.length_map]; exact hn) hL.1 (by simp [conc]) (lv_room (by simpa [List.map_map, Function.comp_def, conc_cat] using hr)) hd ⟨Nat.le_refl _, Nat.le_refl _⟩
  exact call_back rfl hF hC hL hFr hm hrun kk
end RulesK
theorem J3_checkIndex_spec {d n : Nat} {σ : St} {a1 a2 : Int32} {f : Value} (hf : f.category = 1) (h0 : ¬ a1 < 0) (h1 : a1 < a2) : Cn d n M_J3_checkIndex_8e157 ([], [], [], []) [.int a1, .int a2, f] σ (liI (fun v σ' => v = a1 ∧ σ = σ')) := by
  have e : entL [.int a1, .int a2, f] ++ List.replicate 0 none = [some (.int a1), some (.int a2), some f] := by
    simp [entL, hf, show ∀ a : Int32, (Value.int a).category = 1 from fun _ => rfl]
  refine Cn.of (k0 := 0) (by decide) (by have := congrArg List.length e; simpa using this) ?_
  rw [e]
  refine e_iload_n dJ3_checkIndex_8e157_0 rfl rfl ?_
  refine e_if_lt (tgt := 9) dJ3_checkIndex_8e157_1 (by decide) (fun c1 => absurd c1 h0) (fun c1 => ?_)
  refine e_iload_n dJ3_checkIndex_8e157_4 rfl rfl ?_
  refine e_iload_n dJ3_checkIndex_8e157_5 rfl rfl ?_
  refine e_icmp_lt (tgt := 16) dJ3_checkIndex_8e157_6 (by decide) (fun c2 => ?_) (fun c2 => absurd h1 c2)
  refine e_iload_n dJ3_checkIndex_8e157_16 rfl rfl ?_
  exact e_iret dJ3_checkIndex_8e157_17 rfl ⟨_, rfl, rfl, rfl⟩
theorem J0_checkIndex_spec {d n : Nat} {σ : St} {a1 a2 : Int32} (hd : 1 ≤ d) (h0 : ¬ a1 < 0) (h1 : a1 < a2) : Cn d n M_J0_checkIndex_df160 ([], [], [], []) [.int a1, .int a2] σ (liV (fun σ' => σ = σ')) := by
  refine Cn.of (k0 := 0) (by decide) rfl ?_
  show Ev (d, n, ([], [], [], []), σ, liV (fun σ' => σ = σ')) M_J0_checkIndex_df160 0 [some (.int a1), some (.int a2)] [] σ
  refine e_iload_n dJ0_checkIndex_df160_0 rfl rfl ?_
  refine e_iload_n dJ0_checkIndex_df160_1 rfl rfl ?_
  refine e_getsF dJ0_checkIndex_df160_2 flj_J0_1053 (fun v hv => ?_)
  refine e_callS (M' := M_J3_checkIndex_8e157) (as := [.int a1, .int a2, v]) (rest := []) dJ0_checkIndex_df160_5 ml_J0_1059 mk_J3_checkIndex_8e157 rfl (Nat.le_of_ble_eq_true rfl) (show 0 < d by omega) (J3_checkIndex_spec hv h0 h1) Md_nil (fun v σv hq hf => ?_)
  obtain ⟨v, rfl, rfl, rfl⟩ := hq
  refine e_pop dJ0_checkIndex_df160_8 rfl ?_
  exact e_vret dJ0_checkIndex_df160_9 rfl ⟨rfl, rfl⟩

abbrev md_J0_checkIndex_df160 : Md := ([], [], [], [])
abbrev md_J0_isLatin1_aae02 : Md := ([], [], [], [])
theorem S_J0_isLatin1_aae02 {d n : Nat} {Q : Int32 → St → Prop} {σ : St} {i : Nat} (hi_i : i < 2) (h : Q 1 σ) : Cn d n M_J0_isLatin1_aae02 md_J0_isLatin1_aae02 [.ref (2000 + i)] σ (liI Q) := by
  refine Cn.of (k0 := 0) (by decide) rfl ?_
  show Ev (d, n, md_J0_isLatin1_aae02, σ, liI Q) M_J0_isLatin1_aae02 0 [some (.ref (2000 + i))] [] σ
  refine e_getsC dJ0_isLatin1_aae02_0 flj_J0_38 ?_
  refine e_if_eq (tgt := 17) dJ0_isLatin1_aae02_3 (by decide) (fun c1 => absurd c1 (by decide)) (fun _ => ?_)
  refine e_aload_n dJ0_isLatin1_aae02_6 rfl rfl ?_
  refine e_getfC dJ0_isLatin1_aae02_7 flj_J0_15 hi_i ?_
  refine e_if_ne (tgt := 17) dJ0_isLatin1_aae02_10 (by decide) (fun c2 => absurd c2 (by decide)) (fun _ => ?_)
  refine e_iconst dJ0_isLatin1_aae02_13 ci_1 ?_
  refine e_goto (tgt := 18) dJ0_isLatin1_aae02_14 (by decide) ?_
  exact e_zret dJ0_isLatin1_aae02_18 rfl (nar_z (Or.inr rfl)) ⟨_, rfl, h⟩
def fn_J0_isLatin1_aae02 (i : Nat) : Int32 := 1
theorem sp_J0_isLatin1_aae02 {d n : Nat} {σ : St} {i : Nat} (hi_i : i < 2) : Cn d n M_J0_isLatin1_aae02 ([], [], [], []) [.ref (2000 + i)] σ (liI (fun v σ' => v = fn_J0_isLatin1_aae02 i ∧ σ = σ')) := by
  refine S_J0_isLatin1_aae02 hi_i ?_
  exact ⟨by unfold fn_J0_isLatin1_aae02; rfl, rfl⟩
theorem fn_J0_isLatin1_aae02_01 (i : Nat) : fn_J0_isLatin1_aae02 i = 0 ∨ fn_J0_isLatin1_aae02 i = 1 := by
  unfold fn_J0_isLatin1_aae02
  repeat' split
  all_goals first | exact Or.inl rfl | exact Or.inr rfl | simp
abbrev md_J0_coder_7d493 : Md := ([], [], [], [])
theorem S_J0_coder_7d493 {d n : Nat} {Q : Int32 → St → Prop} {σ : St} {i : Nat} (hi_i : i < 2) (h : Q 0 σ) : Cn d n M_J0_coder_7d493 md_J0_coder_7d493 [.ref (2000 + i)] σ (liI Q) := by
  refine Cn.of (k0 := 0) (by decide) rfl ?_
  show Ev (d, n, md_J0_coder_7d493, σ, liI Q) M_J0_coder_7d493 0 [some (.ref (2000 + i))] [] σ
  refine e_getsC dJ0_coder_7d493_0 flj_J0_38 ?_
  refine e_if_eq (tgt := 13) dJ0_coder_7d493_3 (by decide) (fun c1 => absurd c1 (by decide)) (fun _ => ?_)
  refine e_aload_n dJ0_coder_7d493_6 rfl rfl ?_
  refine e_getfC dJ0_coder_7d493_7 flj_J0_15 hi_i ?_
  refine e_goto (tgt := 14) dJ0_coder_7d493_10 (by decide) ?_
  exact e_zret dJ0_coder_7d493_14 rfl rfl ⟨_, rfl, h⟩
def fn_J0_coder_7d493 (i : Nat) : Int32 := 0
theorem sp_J0_coder_7d493 {d n : Nat} {σ : St} {i : Nat} (hi_i : i < 2) : Cn d n M_J0_coder_7d493 ([], [], [], []) [.ref (2000 + i)] σ (liI (fun v σ' => v = fn_J0_coder_7d493 i ∧ σ = σ')) := by
  refine S_J0_coder_7d493 hi_i ?_
  exact ⟨by unfold fn_J0_coder_7d493; rfl, rfl⟩
abbrev md_J0_length_8abf5 : Md := ([], [], [], [])
theorem S_J0_length_8abf5 {d n : Nat} {Q : Int32 → St → Prop} {σ : St} {i : Nat} (hd : 1 ≤ d) (hi_i : i < 2) (h : Q ((nI (kLen i)) >>> (0 &&& 31)) σ) : Cn d n M_J0_length_8abf5 md_J0_length_8abf5 [.ref (2000 + i)] σ (liI Q) := by
  refine Cn.of (k0 := 0) (by decide) rfl ?_
  show Ev (d, n, md_J0_length_8abf5, σ, liI Q) M_J0_length_8abf5 0 [some (.ref (2000 + i))] [] σ
  refine e_aload_n dJ0_length_8abf5_0 rfl rfl ?_
  refine e_getfV dJ0_length_8abf5_1 flj_J0_9 hi_i ?_
  refine e_tlenK dJ0_length_8abf5_4 hi_i ?_
  refine e_aload_n dJ0_length_8abf5_5 rfl rfl ?_
  refine e_callK (M' := M_J0_coder_7d493) (i := i) (as := []) (rest := [.int (nI (kLen i))]) dJ0_length_8abf5_6 ml_J0_335 mk_J0_coder_7d493 hi_i rfl rfl (Nat.le_of_ble_eq_true rfl) (show 0 < d by omega) (sp_J0_coder_7d493 hi_i) Md_nil (fun v σv hq hf => ?_)
  obtain ⟨v, rfl, rfl, rfl⟩ := hq
  show Ev _ _ _ _ (.int 0 :: [.int (nI (kLen i))]) _
  refine e_ishr dJ0_length_8abf5_9 ?_
  exact e_iret dJ0_length_8abf5_10 rfl ⟨_, rfl, h⟩
def fn_J0_length_8abf5 (i : Nat) : Int32 := ((nI (kLen i)) >>> (0 &&& 31))
theorem sp_J0_length_8abf5 {d n : Nat} {σ : St} {i : Nat} (hd : 1 ≤ d) (hi_i : i < 2) : Cn d n M_J0_length_8abf5 ([], [], [], []) [.ref (2000 + i)] σ (liI (fun v σ' => v = fn_J0_length_8abf5 i ∧ σ = σ')) := by
  refine S_J0_length_8abf5 hd hi_i ?_
  exact ⟨by unfold fn_J0_length_8abf5; rfl, rfl⟩
abbrev md_J1_canEncode_9a6ad : Md := ([], [], [], [])
theorem S_J1_canEncode_9a6ad {d n : Nat} {Q : Int32 → St → Prop} {σ : St} {a1 : Int32} (h : ((a1 < 0 → Q 0 σ) ∧ (¬ a1 < 0 → (((255 : Int32) < a1 → Q 0 σ) ∧ (¬ (255 : Int32) < a1 → Q 1 σ))))) : Cn d n M_J1_canEncode_9a6ad md_J1_canEncode_9a6ad [.int a1] σ (liI Q) := by
  refine Cn.of (k0 := 0) (by decide) rfl ?_
  show Ev (d, n, md_J1_canEncode_9a6ad, σ, liI Q) M_J1_canEncode_9a6ad 0 [some (.int a1)] [] σ
  refine e_iload_n dJ1_canEncode_9a6ad_0 rfl rfl ?_
  refine e_if_lt (tgt := 15) dJ1_canEncode_9a6ad_1 (by decide) (fun c1 => ?_) (fun c1 => ?_)
  · replace h := h.1 c1
    refine e_iconst dJ1_canEncode_9a6ad_15 ci_0 ?_
    exact e_zret dJ1_canEncode_9a6ad_16 rfl (nar_z (Or.inl rfl)) ⟨_, rfl, h⟩
  · replace h := h.2 c1
    refine e_iload_n dJ1_canEncode_9a6ad_4 rfl rfl ?_
    refine e_sipush dJ1_canEncode_9a6ad_5 cs_255 ?_
    refine e_icmp_gt (tgt := 15) dJ1_canEncode_9a6ad_8 (by decide) (fun c2 => ?_) (fun c2 => ?_)
    · replace h := h.1 c2
      refine e_iconst dJ1_canEncode_9a6ad_15 ci_0 ?_
      exact e_zret dJ1_canEncode_9a6ad_16 rfl (nar_z (Or.inl rfl)) ⟨_, rfl, h⟩
    · replace h := h.2 c2
      refine e_iconst dJ1_canEncode_9a6ad_11 ci_1 ?_
      refine e_goto (tgt := 16) dJ1_canEncode_9a6ad_12 (by decide) ?_
      exact e_zret dJ1_canEncode_9a6ad_16 rfl (nar_z (Or.inr rfl)) ⟨_, rfl, h⟩
def fn_J1_canEncode_9a6ad (a1 : Int32) : Int32 := (if a1 < 0 then 0 else (if (255 : Int32) < a1 then 0 else 1))
theorem sp_J1_canEncode_9a6ad {d n : Nat} {σ : St} {a1 : Int32} : Cn d n M_J1_canEncode_9a6ad ([], [], [], []) [.int a1] σ (liI (fun v σ' => v = fn_J1_canEncode_9a6ad a1 ∧ σ = σ')) := by
  refine S_J1_canEncode_9a6ad ?_
  refine ⟨fun c1 => ?_, fun c1 => ?_⟩
  · exact ⟨by unfold fn_J1_canEncode_9a6ad; rw [if_pos c1], rfl⟩
  · refine ⟨fun c2 => ?_, fun c2 => ?_⟩
    · exact ⟨by unfold fn_J1_canEncode_9a6ad; rw [if_neg c1, if_pos c2], rfl⟩
    · exact ⟨by unfold fn_J1_canEncode_9a6ad; rw [if_neg c1, if_neg c2], rfl⟩
theorem fn_J1_canEncode_9a6ad_01 (a1 : Int32) : fn_J1_canEncode_9a6ad a1 = 0 ∨ fn_J1_canEncode_9a6ad a1 = 1 := by
  unfold fn_J1_canEncode_9a6ad
  repeat' split
  all_goals first | exact Or.inl rfl | exact Or.inr rfl | simp
abbrev md_J1_charAt_3b067 : Md := ([], [], [], [])
theorem S_J1_charAt_3b067 {d n : Nat} {Q : Int32 → St → Prop} {σ : St} {i1 : Nat} {a2 : Int32} (hd : 1 ≤ d) (hi_i1 : i1 < 2) (h : ∃ Q1 : St → Prop, Cn (d - 1) n M_J0_checkIndex_df160 md_J0_checkIndex_df160 [.int a2, .int (nI (kLen i1))] σ (liV Q1) ∧ ∀ (σ3 : St), Q1 σ3 → Fr md_J0_checkIndex_df160 σ σ3 → vp_in a2 (kLen i1) ∧ (narrow .char (.int ((((kBy i1 a2.toNatClampNeg) &&& 255).toUInt32 % 65536).toInt32)) = .int ((((kBy i1 a2.toNatClampNeg) &&& 255).toUInt32 % 65536).toInt32)) ∧ Q ((((kBy i1 a2.toNatClampNeg) &&& 255).toUInt32 % 65536).toInt32) σ3) : Cn d n M_J1_charAt_3b067 md_J1_charAt_3b067 [.ref (2002 + i1), .int a2] σ (liI Q) := by
  refine Cn.of (k0 := 0) (by decide) rfl ?_
  show Ev (d, n, md_J1_charAt_3b067, σ, liI Q) M_J1_charAt_3b067 0 [some (.ref (2002 + i1)), some (.int a2)] [] σ
  refine e_iload_n dJ1_charAt_3b067_0 rfl rfl ?_
  refine e_aload_n dJ1_charAt_3b067_1 rfl rfl ?_
  refine e_tlenK dJ1_charAt_3b067_2 hi_i1 ?_
  obtain ⟨Q1, hc2, h⟩ := h
  refine e_callS (M' := M_J0_checkIndex_df160) (as := [.int a2, .int (nI (kLen i1))]) (rest := []) dJ1_charAt_3b067_3 ml_J1_9 mk_J0_checkIndex_df160 rfl (Nat.le_of_ble_eq_true rfl) (show 0 < d by omega) hc2 (Md_le (b := md_J1_charAt_3b067) (by decide)) (fun v σ3 hq hf => ?_)
  obtain ⟨rfl, hq⟩ := hq
  replace h := h σ3 hq hf
  refine e_aload_n dJ1_charAt_3b067_6 rfl rfl ?_
  refine e_iload_n dJ1_charAt_3b067_7 rfl rfl ?_
  refine e_tbK dJ1_charAt_3b067_8 hi_i1 h.1 ?_
  replace h := h.2
  refine e_sipush dJ1_charAt_3b067_9 cs_255 ?_
  refine e_iand dJ1_charAt_3b067_12 ?_
  refine e_i2c dJ1_charAt_3b067_13 ?_
  exact e_zret dJ1_charAt_3b067_14 rfl h.1 ⟨_, rfl, h.2⟩
abbrev md_J0_charAt_5068e : Md := ([], [], [], [])
theorem S_J0_charAt_5068e {d n : Nat} {Q : Int32 → St → Prop} {σ : St} {i : Nat} {a1 : Int32} (hd : 1 ≤ d) (hi_i : i < 2) (h : ∃ Q2 : Int32 → St → Prop, Cn (d - 1) n M_J1_charAt_3b067 md_J1_charAt_3b067 [.ref (2002 + i), .int a1] σ (liI Q2) ∧ ∀ (v5 : Int32) (σ4 : St), Q2 v5 σ4 → Fr md_J1_charAt_3b067 σ σ4 → (narrow .char (.int v5) = .int v5) ∧ Q v5 σ4) : Cn d n M_J0_charAt_5068e md_J0_charAt_5068e [.ref (2000 + i), .int a1] σ (liI Q) := by
  refine Cn.of (k0 := 0) (by decide) rfl ?_
  show Ev (d, n, md_J0_charAt_5068e, σ, liI Q) M_J0_charAt_5068e 0 [some (.ref (2000 + i)), some (.int a1)] [] σ
  refine e_aload_n dJ0_charAt_5068e_0 rfl rfl ?_
  refine e_callK (M' := M_J0_isLatin1_aae02) (i := i) (as := []) (rest := []) dJ0_charAt_5068e_1 ml_J0_492 mk_J0_isLatin1_aae02 hi_i rfl rfl (Nat.le_of_ble_eq_true rfl) (show 0 < d by omega) (sp_J0_isLatin1_aae02 hi_i) Md_nil (fun v σv hq hf => ?_)
  obtain ⟨v, rfl, rfl, rfl⟩ := hq
  show Ev _ _ _ _ (.int 1 :: []) _
  refine e_if_eq (tgt := 16) dJ0_charAt_5068e_4 (by decide) (fun c1 => absurd c1 (by decide)) (fun _ => ?_)
  refine e_aload_n dJ0_charAt_5068e_7 rfl rfl ?_
  refine e_getfV dJ0_charAt_5068e_8 flj_J0_9 hi_i ?_
  refine e_iload_n dJ0_charAt_5068e_11 rfl rfl ?_
  obtain ⟨Q2, hc3, h⟩ := h
  refine e_callS (M' := M_J1_charAt_3b067) (as := [.ref (2002 + i), .int a1]) (rest := []) dJ0_charAt_5068e_12 ml_J0_495 mk_J1_charAt_3b067 rfl (Nat.le_of_ble_eq_true rfl) (show 0 < d by omega) hc3 (Md_le (b := md_J0_charAt_5068e) (by decide)) (fun v σ4 hq hf => ?_)
  obtain ⟨v5, rfl, hq⟩ := hq
  replace h := h v5 σ4 hq hf
  exact e_zret dJ0_charAt_5068e_15 rfl h.1 ⟨_, rfl, h.2⟩
abbrev md_J1_indexOfChar_4cfef : Md := ([], [], [], [])
abbrev K_J1_indexOfChar_4cfef_7 (d n : Nat) (σ0 : St) (Q : Int32 → St → Prop) (σ : St) (i1 : Nat) (x3 : Int32) (x4 : Int32) (x5 : Int32) : Prop := Ev (d, n, md_J1_indexOfChar_4cfef, σ0, liI Q) M_J1_indexOfChar_4cfef 7 [some (.ref (2002 + i1)), none, none, some (.int x3), some (.int x4), some (.int x5)] [] σ
theorem B_J1_indexOfChar_4cfef_7 {d n : Nat} {σ0 : St} {Q : Int32 → St → Prop}  {σ : St} {i1 : Nat} {x3 : Int32} {x4 : Int32} {x5 : Int32} (hi_i1 : i1 < 2) (h : ((x3 ≤ x5 → Q (-1) σ) ∧ (¬ x3 ≤ x5 → vp_in x5 (kLen i1) ∧ (((kBy i1 x5.toNatClampNeg) ≠ x4 → K_J1_indexOfChar_4cfef_7 d n σ0 Q σ i1 x3 x4 (x5 + 1)) ∧ ((kBy i1 x5.toNatClampNeg) = x4 → Q x5 σ))))) : K_J1_indexOfChar_4cfef_7 d n σ0 Q σ i1 x3 x4 x5 := by
  refine e_iload dJ1_indexOfChar_4cfef_7 rfl ?_
  refine e_iload_n dJ1_indexOfChar_4cfef_9 rfl rfl ?_
  refine e_icmp_ge (tgt := 31) dJ1_indexOfChar_4cfef_10 (by decide) (fun c1 => ?_) (fun c1 => ?_)
  · replace h := h.1 c1
    refine e_iconst dJ1_indexOfChar_4cfef_31 ci_m1 ?_
    exact e_iret dJ1_indexOfChar_4cfef_32 rfl ⟨_, rfl, h⟩
  · replace h := h.2 c1
    refine e_aload_n dJ1_indexOfChar_4cfef_13 rfl rfl ?_
    refine e_iload dJ1_indexOfChar_4cfef_14 rfl ?_
    refine e_tbK dJ1_indexOfChar_4cfef_16 hi_i1 h.1 ?_
    replace h := h.2
    refine e_iload dJ1_indexOfChar_4cfef_17 rfl ?_
    refine e_icmp_ne (tgt := 25) dJ1_indexOfChar_4cfef_19 (by decide) (fun c2 => ?_) (fun c2 => ?_)
    · replace h := h.1 c2
      refine e_iinc dJ1_indexOfChar_4cfef_25 rfl (ii_1 _) rfl (by decide) ?_
      refine e_goto (tgt := 7) dJ1_indexOfChar_4cfef_28 (by decide) ?_
      exact h
    · replace h := h.2 c2
      refine e_iload dJ1_indexOfChar_4cfef_22 rfl ?_
      exact e_iret dJ1_indexOfChar_4cfef_24 rfl ⟨_, rfl, h⟩
theorem S_J1_indexOfChar_4cfef {d n : Nat} {Q : Int32 → St → Prop} {σ : St} {i1 : Nat} {a2 : Int32} {a3 : Int32} {a4 : Int32} (hi_i1 : i1 < 2) (h : K_J1_indexOfChar_4cfef_7 d n σ Q σ i1 a4 a2.toInt8.toInt32 a3) : Cn d n M_J1_indexOfChar_4cfef md_J1_indexOfChar_4cfef [.ref (2002 + i1), .int a2, .int a3, .int a4] σ (liI Q) := by
  refine Cn.of (k0 := 2) (by decide) rfl ?_
  show Ev (d, n, md_J1_indexOfChar_4cfef, σ, liI Q) M_J1_indexOfChar_4cfef 0 [some (.ref (2002 + i1)), some (.int a2), some (.int a3), some (.int a4), none, none] [] σ
  refine e_iload_n dJ1_indexOfChar_4cfef_0 rfl rfl ?_
  refine e_i2b dJ1_indexOfChar_4cfef_1 ?_
  refine e_istore dJ1_indexOfChar_4cfef_2 rfl (by decide) ?_
  refine e_iload_n dJ1_indexOfChar_4cfef_4 rfl rfl ?_
  refine e_istore dJ1_indexOfChar_4cfef_5 rfl (by decide) ?_
  refine e_kill [true, false, false, true, true, true] ?_
  exact h
abbrev md_J1_indexOf_4cfef : Md := ([], [], [], [])
theorem S_J1_indexOf_4cfef {d n : Nat} {Q : Int32 → St → Prop} {σ : St} {i1 : Nat} {a2 : Int32} {a3 : Int32} {a4 : Int32} (hd : 1 ≤ d) (hi_i1 : i1 < 2) (h : (((fn_J1_canEncode_9a6ad a2) ≠ 0 → (((mxI a3 0) < (mnI a4 (nI (kLen i1))) → ∃ Q3 : Int32 → St → Prop, Cn (d - 1) n M_J1_indexOfChar_4cfef md_J1_indexOfChar_4cfef [.ref (2002 + i1), .int a2, .int (mxI a3 0), .int (mnI a4 (nI (kLen i1)))] σ (liI Q3) ∧ ∀ (v6 : Int32) (σ5 : St), Q3 v6 σ5 → Fr md_J1_indexOfChar_4cfef σ σ5 → Q v6 σ5) ∧ (¬ (mxI a3 0) < (mnI a4 (nI (kLen i1))) → Q (-1) σ))) ∧ ((fn_J1_canEncode_9a6ad a2) = 0 → Q (-1) σ))) : Cn d n M_J1_indexOf_4cfef md_J1_indexOf_4cfef [.ref (2002 + i1), .int a2, .int a3, .int a4] σ (liI Q) := by
  refine Cn.of (k0 := 0) (by decide) rfl ?_
  show Ev (d, n, md_J1_indexOf_4cfef, σ, liI Q) M_J1_indexOf_4cfef 0 [some (.ref (2002 + i1)), some (.int a2), some (.int a3), some (.int a4)] [] σ
  refine e_iload_n dJ1_indexOf_4cfef_0 rfl rfl ?_
  refine e_callS (M' := M_J1_canEncode_9a6ad) (as := [.int a2]) (rest := []) dJ1_indexOf_4cfef_1 ml_J1_88 mk_J1_canEncode_9a6ad rfl (Nat.le_of_ble_eq_true rfl) (show 0 < d by omega) (sp_J1_canEncode_9a6ad) Md_nil (fun v σv hq hf => ?_)
  obtain ⟨v, rfl, rfl, rfl⟩ := hq
  refine e_if_ne (tgt := 9) dJ1_indexOf_4cfef_4 (by decide) (fun c1 => ?_) (fun c1 => ?_)
  · replace h := h.1 c1
    refine e_iload_n dJ1_indexOf_4cfef_9 rfl rfl ?_
    refine e_iconst dJ1_indexOf_4cfef_10 ci_0 ?_
    refine e_mmax (st := []) dJ1_indexOf_4cfef_11 ml_J1_92 (Nat.le_of_ble_eq_true rfl) (show 0 < d by omega) ?_
    refine e_istore_n dJ1_indexOf_4cfef_14 rfl rfl (by decide) ?_
    refine e_iload_n dJ1_indexOf_4cfef_15 rfl rfl ?_
    refine e_aload_n dJ1_indexOf_4cfef_16 rfl rfl ?_
    refine e_tlenK dJ1_indexOf_4cfef_17 hi_i1 ?_
    refine e_mmin (st := []) dJ1_indexOf_4cfef_18 ml_J1_38 (Nat.le_of_ble_eq_true rfl) (show 0 < d by omega) ?_
    refine e_istore_n dJ1_indexOf_4cfef_21 rfl rfl (by decide) ?_
    refine e_iload_n dJ1_indexOf_4cfef_22 rfl rfl ?_
    refine e_iload_n dJ1_indexOf_4cfef_23 rfl rfl ?_
    refine e_icmp_lt (tgt := 29) dJ1_indexOf_4cfef_24 (by decide) (fun c2 => ?_) (fun c2 => ?_)
    · replace h := h.1 c2
      refine e_aload_n dJ1_indexOf_4cfef_29 rfl rfl ?_
      refine e_iload_n dJ1_indexOf_4cfef_30 rfl rfl ?_
      refine e_iload_n dJ1_indexOf_4cfef_31 rfl rfl ?_
      refine e_iload_n dJ1_indexOf_4cfef_32 rfl rfl ?_
      obtain ⟨Q3, hc4, h⟩ := h
      refine e_callS (M' := M_J1_indexOfChar_4cfef) (as := [.ref (2002 + i1), .int a2, .int (mxI a3 0), .int (mnI a4 (nI (kLen i1)))]) (rest := []) dJ1_indexOf_4cfef_33 ml_J1_95 mk_J1_indexOfChar_4cfef rfl (Nat.le_of_ble_eq_true rfl) (show 0 < d by omega) hc4 (Md_le (b := md_J1_indexOf_4cfef) (by decide)) (fun v σ5 hq hf => ?_)
      obtain ⟨v6, rfl, hq⟩ := hq
      replace h := h v6 σ5 hq hf
      exact e_iret dJ1_indexOf_4cfef_36 rfl ⟨_, rfl, h⟩
    · replace h := h.2 c2
      refine e_iconst dJ1_indexOf_4cfef_27 ci_m1 ?_
      exact e_iret dJ1_indexOf_4cfef_28 rfl ⟨_, rfl, h⟩
  · replace h := h.2 c1
    refine e_iconst dJ1_indexOf_4cfef_7 ci_m1 ?_
    exact e_iret dJ1_indexOf_4cfef_8 rfl ⟨_, rfl, h⟩
abbrev md_J0_indexOf_7cf53 : Md := ([], [], [], [])
theorem S_J0_indexOf_7cf53 {d n : Nat} {Q : Int32 → St → Prop} {σ : St} {i : Nat} {a1 : Int32} {a2 : Int32} (hd : 2 ≤ d) (hi_i : i < 2) (h : ∃ Q2 : Int32 → St → Prop, Cn (d - 1) n M_J1_indexOf_4cfef md_J1_indexOf_4cfef [.ref (2002 + i), .int a1, .int a2, .int (fn_J0_length_8abf5 i)] σ (liI Q2) ∧ ∀ (v5 : Int32) (σ4 : St), Q2 v5 σ4 → Fr md_J1_indexOf_4cfef σ σ4 → Q v5 σ4) : Cn d n M_J0_indexOf_7cf53 md_J0_indexOf_7cf53 [.ref (2000 + i), .int a1, .int a2] σ (liI Q) := by
  refine Cn.of (k0 := 0) (by decide) rfl ?_
  show Ev (d, n, md_J0_indexOf_7cf53, σ, liI Q) M_J0_indexOf_7cf53 0 [some (.ref (2000 + i)), some (.int a1), some (.int a2)] [] σ
  refine e_aload_n dJ0_indexOf_7cf53_0 rfl rfl ?_
  refine e_callK (M' := M_J0_isLatin1_aae02) (i := i) (as := []) (rest := []) dJ0_indexOf_7cf53_1 ml_J0_492 mk_J0_isLatin1_aae02 hi_i rfl rfl (Nat.le_of_ble_eq_true rfl) (show 0 < d by omega) (sp_J0_isLatin1_aae02 hi_i) Md_nil (fun v σv hq hf => ?_)
  obtain ⟨v, rfl, rfl, rfl⟩ := hq
  show Ev _ _ _ _ (.int 1 :: []) _
  refine e_if_eq (tgt := 23) dJ0_indexOf_7cf53_4 (by decide) (fun c1 => absurd c1 (by decide)) (fun _ => ?_)
  refine e_aload_n dJ0_indexOf_7cf53_7 rfl rfl ?_
  refine e_getfV dJ0_indexOf_7cf53_8 flj_J0_9 hi_i ?_
  refine e_iload_n dJ0_indexOf_7cf53_11 rfl rfl ?_
  refine e_iload_n dJ0_indexOf_7cf53_12 rfl rfl ?_
  refine e_aload_n dJ0_indexOf_7cf53_13 rfl rfl ?_
  refine e_callK (M' := M_J0_length_8abf5) (i := i) (as := []) (rest := [.int a2, .int a1, .ref (2002 + i)]) dJ0_indexOf_7cf53_14 ml_J0_505 mk_J0_length_8abf5 hi_i rfl rfl (Nat.le_of_ble_eq_true rfl) (show 0 < d by omega) (sp_J0_length_8abf5 (show 1 ≤ d - 1 by omega) hi_i) Md_nil (fun v σv hq hf => ?_)
  obtain ⟨v, rfl, rfl, rfl⟩ := hq
  obtain ⟨Q2, hc3, h⟩ := h
  refine e_callS (M' := M_J1_indexOf_4cfef) (as := [.ref (2002 + i), .int a1, .int a2, .int (fn_J0_length_8abf5 i)]) (rest := []) dJ0_indexOf_7cf53_17 ml_J0_637 mk_J1_indexOf_4cfef rfl (Nat.le_of_ble_eq_true rfl) (show 0 < d by omega) hc3 (Md_le (b := md_J0_indexOf_7cf53) (by decide)) (fun v σ4 hq hf => ?_)
  obtain ⟨v5, rfl, hq⟩ := hq
  replace h := h v5 σ4 hq hf
  refine e_goto (tgt := 36) dJ0_indexOf_7cf53_20 (by decide) ?_
  exact e_iret dJ0_indexOf_7cf53_36 rfl ⟨_, rfl, h⟩
abbrev md_J0_indexOf_0f7a4 : Md := ([], [], [], [])
theorem S_J0_indexOf_0f7a4 {d n : Nat} {Q : Int32 → St → Prop} {σ : St} {i : Nat} {a1 : Int32} (hd : 1 ≤ d) (hi_i : i < 2) (h : ∃ Q1 : Int32 → St → Prop, Cn (d - 1) n M_J0_indexOf_7cf53 md_J0_indexOf_7cf53 [.ref (2000 + i), .int a1, .int 0] σ (liI Q1) ∧ ∀ (v4 : Int32) (σ3 : St), Q1 v4 σ3 → Fr md_J0_indexOf_7cf53 σ σ3 → Q v4 σ3) : Cn d n M_J0_indexOf_0f7a4 md_J0_indexOf_0f7a4 [.ref (2000 + i), .int a1] σ (liI Q) := by
  refine Cn.of (k0 := 0) (by decide) rfl ?_
  show Ev (d, n, md_J0_indexOf_0f7a4, σ, liI Q) M_J0_indexOf_0f7a4 0 [some (.ref (2000 + i)), some (.int a1)] [] σ
  refine e_aload_n dJ0_indexOf_0f7a4_0 rfl rfl ?_
  refine e_iload_n dJ0_indexOf_0f7a4_1 rfl rfl ?_
  refine e_iconst dJ0_indexOf_0f7a4_2 ci_0 ?_
  obtain ⟨Q1, hc2, h⟩ := h
  refine e_callK (M' := M_J0_indexOf_7cf53) (i := i) (as := [.int a1, .int 0]) (rest := []) dJ0_indexOf_0f7a4_3 ml_J0_633 mk_J0_indexOf_7cf53 hi_i rfl rfl (Nat.le_of_ble_eq_true rfl) (show 0 < d by omega) hc2 (Md_le (b := md_J0_indexOf_0f7a4) (by decide)) (fun v σ3 hq hf => ?_)
  obtain ⟨v4, rfl, hq⟩ := hq
  replace h := h v4 σ3 hq hf
  exact e_iret dJ0_indexOf_0f7a4_6 rfl ⟨_, rfl, h⟩
abbrev K_X9_isWord_3 (d n : Nat) (σ0 : St) (Q : Int32 → St → Prop) (σ : St) (x1 : Int32) (x2 : Int32) (x3 : Int32) (x4 : Int32) : Prop := Ev (d, n, md_X9_isWord, σ0, liI Q) M_X9_isWord 3 [some (.ref 4), some (.int x1), some (.int x2), some (.int x3), some (.int x4), none] [] σ
theorem B_X9_isWord_3 {d n : Nat} {σ0 : St} {Q : Int32 → St → Prop}  {σ : St} {x1 : Int32} {x2 : Int32} {x3 : Int32} {x4 : Int32} (hn : FIX ≤ n) (hd : 1 ≤ d) (h : (((5 : Int32) ≤ x4 → Q 1 σ) ∧ (¬ (5 : Int32) ≤ x4 → ((x3 ≤ (x2 + x4) → ∃ Q3 : Int32 → St → Prop, Cn (d - 1) n M_J0_charAt_5068e md_J0_charAt_5068e [.ref (2000 + 0), .int (((x1 - 1) * 5) + x4)] σ (liI Q3) ∧ ∀ (v6 : Int32) (σ5 : St), Q3 v6 σ5 → Fr md_J0_charAt_5068e σ σ5 → (((32 : Int32) = v6 → K_X9_isWord_3 d n σ0 Q σ5 x1 x2 x3 (x4 + 1)) ∧ (¬ (32 : Int32) = v6 → Q 0 σ5))) ∧ (¬ x3 ≤ (x2 + x4) → vp_in (x2 + x4) 400 ∧ ∃ Q10 : Int32 → St → Prop, Cn (d - 1) n M_J0_charAt_5068e md_J0_charAt_5068e [.ref (2000 + 0), .int (((x1 - 1) * 5) + x4)] σ (liI Q10) ∧ ∀ (v13 : Int32) (σ12 : St), Q10 v13 σ12 → Fr md_J0_charAt_5068e σ σ12 → (((gI σ 19 (x2 + x4).toNatClampNeg) = v13 → K_X9_isWord_3 d n σ0 Q σ12 x1 x2 x3 (x4 + 1)) ∧ (¬ (gI σ 19 (x2 + x4).toNatClampNeg) = v13 → Q 0 σ12))))))) : K_X9_isWord_3 d n σ0 Q σ x1 x2 x3 x4 := by
  refine e_iload dX9_isWord_3 rfl ?_
  refine e_iconst dX9_isWord_5 ci_5 ?_
  refine e_icmp_ge (tgt := 59) dX9_isWord_6 (by decide) (fun c1 => ?_) (fun c1 => ?_)
  · replace h := h.1 c1
    refine e_iconst dX9_isWord_59 ci_1 ?_
    exact e_zret dX9_isWord_60 rfl (nar_z (Or.inr rfl)) ⟨_, rfl, h⟩
  · replace h := h.2 c1
    refine e_iload_n dX9_isWord_9 rfl rfl ?_
    refine e_iload dX9_isWord_10 rfl ?_
    refine e_iadd dX9_isWord_12 ?_
    refine e_iload_n dX9_isWord_13 rfl rfl ?_
    refine e_icmp_ge (tgt := 29) dX9_isWord_14 (by decide) (fun c2 => ?_) (fun c2 => ?_)
    · replace h := h.1 c2
      refine e_bipush dX9_isWord_29 cb_32 ?_
      refine e_istore dX9_isWord_31 rfl (by decide) ?_
      refine e_iload dX9_isWord_33 rfl ?_
      refine e_ldcW dX9_isWord_35 rfl ?_
      refine e_iload_n dX9_isWord_37 rfl rfl ?_
      refine e_iconst dX9_isWord_38 ci_1 ?_
      refine e_isub dX9_isWord_39 ?_
      refine e_iconst dX9_isWord_40 ci_5 ?_
      refine e_imul dX9_isWord_41 ?_
      refine e_iload dX9_isWord_42 rfl ?_
      refine e_iadd dX9_isWord_44 ?_
      obtain ⟨Q3, hc4, h⟩ := h
      refine e_callK (M' := M_J0_charAt_5068e) (i := 0) (as := [.int (((x1 - 1) * 5) + x4)]) (rest := [.int 32]) dX9_isWord_45 ml_X9_68 mk_J0_charAt_5068e (by decide) rfl rfl (Nat.le_of_ble_eq_true rfl) (show 0 < d by omega) hc4 (Md_le (b := md_X9_isWord) (by decide)) (fun v σ5 hq hf => ?_)
      obtain ⟨v6, rfl, hq⟩ := hq
      replace h := h v6 σ5 hq hf
      refine e_icmp_eq (tgt := 53) dX9_isWord_48 (by decide) (fun c9 => ?_) (fun c9 => ?_)
      · replace h := h.1 c9
        refine e_iinc dX9_isWord_53 rfl (ii_1 _) rfl (by decide) ?_
        refine e_goto (tgt := 3) dX9_isWord_56 (by decide) ?_
        refine e_kill [true, true, true, true, true, false] ?_
        exact h
      · replace h := h.2 c9
        refine e_iconst dX9_isWord_51 ci_0 ?_
        exact e_zret dX9_isWord_52 rfl (nar_z (Or.inl rfl)) ⟨_, rfl, h⟩
    · replace h := h.2 c2
      refine e_aload_n dX9_isWord_17 rfl rfl ?_
      refine e_getR (y := 19) dX9_isWord_18 fl_X9_9 (ob_4 hn) rfl rfl ?_
      refine e_iload_n dX9_isWord_21 rfl rfl ?_
      refine e_iload dX9_isWord_22 rfl ?_
      refine e_iadd dX9_isWord_24 ?_
      refine e_iald dX9_isWord_25 (ar_19 hn) h.1 ?_
      replace h := h.2
      refine e_goto (tgt := 31) dX9_isWord_26 (by decide) ?_
      refine e_istore dX9_isWord_31 rfl (by decide) ?_
      refine e_iload dX9_isWord_33 rfl ?_
      refine e_ldcW dX9_isWord_35 rfl ?_
      refine e_iload_n dX9_isWord_37 rfl rfl ?_
      refine e_iconst dX9_isWord_38 ci_1 ?_
      refine e_isub dX9_isWord_39 ?_
      refine e_iconst dX9_isWord_40 ci_5 ?_
      refine e_imul dX9_isWord_41 ?_
      refine e_iload dX9_isWord_42 rfl ?_
      refine e_iadd dX9_isWord_44 ?_
      obtain ⟨Q10, hc11, h⟩ := h
      refine e_callK (M' := M_J0_charAt_5068e) (i := 0) (as := [.int (((x1 - 1) * 5) + x4)]) (rest := [.int (gI σ 19 (x2 + x4).toNatClampNeg)]) dX9_isWord_45 ml_X9_68 mk_J0_charAt_5068e (by decide) rfl rfl (Nat.le_of_ble_eq_true rfl) (show 0 < d by omega) hc11 (Md_le (b := md_X9_isWord) (by decide)) (fun v σ12 hq hf => ?_)
      obtain ⟨v13, rfl, hq⟩ := hq
      replace h := h v13 σ12 hq hf
      refine e_icmp_eq (tgt := 53) dX9_isWord_48 (by decide) (fun c16 => ?_) (fun c16 => ?_)
      · replace h := h.1 c16
        refine e_iinc dX9_isWord_53 rfl (ii_1 _) rfl (by decide) ?_
        refine e_goto (tgt := 3) dX9_isWord_56 (by decide) ?_
        refine e_kill [true, true, true, true, true, false] ?_
        exact h
      · replace h := h.2 c16
        refine e_iconst dX9_isWord_51 ci_0 ?_
        exact e_zret dX9_isWord_52 rfl (nar_z (Or.inl rfl)) ⟨_, rfl, h⟩
theorem S_X9_isWord {d n : Nat} {Q : Int32 → St → Prop} {σ : St} {a1 : Int32} {a2 : Int32} {a3 : Int32} (hn : FIX ≤ n) (hd : 1 ≤ d) (h : K_X9_isWord_3 d n σ Q σ a1 a2 a3 0) : Cn d n M_X9_isWord md_X9_isWord [.ref 4, .int a1, .int a2, .int a3] σ (liI Q) := by
  refine Cn.of (k0 := 2) (by decide) rfl ?_
  show Ev (d, n, md_X9_isWord, σ, liI Q) M_X9_isWord 0 [some (.ref 4), some (.int a1), some (.int a2), some (.int a3), none, none] [] σ
  refine e_iconst dX9_isWord_0 ci_0 ?_
  refine e_istore dX9_isWord_1 rfl (by decide) ?_
  exact h
abbrev K_X9_cut_16 (d n : Nat) (σ0 : St) (Q : St → Prop) (σ : St) (x2 : Int32) (x3 : Int32) : Prop := Ev (d, n, md_X9_cut, σ0, liV Q) M_X9_cut 16 [some (.ref 4), none, some (.int x2), some (.int x3), none] [] σ
abbrev K_X9_cut_91 (d n : Nat) (σ0 : St) (Q : St → Prop) (σ : St) (x2 : Int32) (x3 : Int32) (x4 : Int32) : Prop := Ev (d, n, md_X9_cut, σ0, liV Q) M_X9_cut 91 [some (.ref 4), none, some (.int x2), some (.int x3), some (.int x4)] [] σ
abbrev K_X9_cut_38 (d n : Nat) (σ0 : St) (Q : St → Prop) (σ : St) (x2 : Int32) (x3 : Int32) (x4 : Int32) : Prop := Ev (d, n, md_X9_cut, σ0, liV Q) M_X9_cut 38 [some (.ref 4), none, some (.int x2), some (.int x3), some (.int x4)] [] σ
theorem B_X9_cut_16 {d n : Nat} {σ0 : St} {Q : St → Prop}  {σ : St} {x2 : Int32} {x3 : Int32} (hn : FIX ≤ n) (hd : 1 ≤ d) (h : ((x2 ≤ x3 → ∃ Q2 : St → Prop, Cn (d - 1) n M_X9_token md_X9_token [.ref 4, .int 258, .int x2, .int 0] σ (liV Q2) ∧ ∀ (σ4 : St), Q2 σ4 → Fr md_X9_token σ σ4 → Q (sI σ4 4 0 0)) ∧ (¬ x2 ≤ x3 → vp_in x3 400 ∧ (((fn_X9_isLetter (gI σ 19 x3.toNatClampNeg)) = 0 → vp_in x3 400 ∧ (((fn_X9_isDigit (gI σ 19 x3.toNatClampNeg)) = 0 → vp_in x3 400 ∧ (((gI σ 19 x3.toNatClampNeg) = 32 → K_X9_cut_16 d n σ0 Q σ x2 (x3 + 1)) ∧ (¬ (gI σ 19 x3.toNatClampNeg) = 32 → vp_in x3 400 ∧ (((gI σ 19 x3.toNatClampNeg) = 10 → K_X9_cut_16 d n σ0 Q σ x2 (x3 + 1)) ∧ (¬ (gI σ 19 x3.toNatClampNeg) = 10 → vp_in x3 400 ∧ ∃ Q12 : Int32 → St → Prop, Cn (d - 1) n M_J0_indexOf_0f7a4 md_J0_indexOf_0f7a4 [.ref (2000 + 1), .int (((gI σ 19 x3.toNatClampNeg).toUInt32 % 65536).toInt32)] σ (liI Q12) ∧ ∀ (v15 : Int32) (σ14 : St), Q12 v15 σ14 → Fr md_J0_indexOf_0f7a4 σ σ14 → ((v15 < 0 → ∃ Q19 : St → Prop, Cn (d - 1) n M_X9_token md_X9_token [.ref 4, .int 257, .int x3, .int 0] σ14 (liV Q19) ∧ ∀ (σ21 : St), Q19 σ21 → Fr md_X9_token σ14 σ21 → K_X9_cut_16 d n σ0 Q σ21 x2 (x3 + 1)) ∧ (¬ v15 < 0 → vp_in x3 400 ∧ ∃ Q25 : St → Prop, Cn (d - 1) n M_X9_token md_X9_token [.ref 4, .int (gI σ14 19 x3.toNatClampNeg), .int x3, .int 0] σ14 (liV Q25) ∧ ∀ (σ27 : St), Q25 σ27 → Fr md_X9_token σ14 σ27 → K_X9_cut_16 d n σ0 Q σ27 x2 (x3 + 1)))))))) ∧ (¬ (fn_X9_isDigit (gI σ 19 x3.toNatClampNeg)) = 0 → K_X9_cut_91 d n σ0 Q σ x2 x3 (x3 + 1)))) ∧ (¬ (fn_X9_isLetter (gI σ 19 x3.toNatClampNeg)) = 0 → K_X9_cut_38 d n σ0 Q σ x2 x3 (x3 + 1)))))) : K_X9_cut_16 d n σ0 Q σ x2 x3 := by
  refine e_iload_n dX9_cut_16 rfl rfl ?_
  refine e_iload_n dX9_cut_17 rfl rfl ?_
  refine e_icmp_ge (tgt := 209) dX9_cut_18 (by decide) (fun c1 => ?_) (fun c1 => ?_)
  · replace h := h.1 c1
    refine e_aload_n dX9_cut_209 rfl rfl ?_
    refine e_sipush dX9_cut_210 cs_258 ?_
    refine e_iload_n dX9_cut_213 rfl rfl ?_
    refine e_iconst dX9_cut_214 ci_0 ?_
    obtain ⟨Q2, hc3, h⟩ := h
    refine e_callV (M' := M_X9_token) (as := [.int 258, .int x2, .int 0]) (rest := []) dX9_cut_215 ml_X9_44 mk_X9_token (ob_4 hn) rfl rfl rfl (Nat.le_of_ble_eq_true rfl) (show 0 < d by omega) hc3 (Md_le (b := md_X9_cut) (by decide)) (fun v σ4 hq hf => ?_)
    obtain ⟨rfl, hq⟩ := hq
    replace h := h σ4 hq hf
    refine e_aload_n dX9_cut_218 rfl rfl ?_
    refine e_iconst dX9_cut_219 ci_0 ?_
    refine e_putI dX9_cut_220 fl_X9_24 (ob_4 hn) rfl (fpI_9_0 _) (md_c (m := md_X9_cut) (by decide)) ?_
    exact e_vret dX9_cut_223 rfl ⟨rfl, h⟩
  · replace h := h.2 c1
    refine e_iload_n dX9_cut_21 rfl rfl ?_
    refine e_iconst dX9_cut_22 ci_1 ?_
    refine e_iadd dX9_cut_23 ?_
    refine e_istore dX9_cut_24 rfl (by decide) ?_
    refine e_aload_n dX9_cut_26 rfl rfl ?_
    refine e_getR (y := 19) dX9_cut_27 fl_X9_9 (ob_4 hn) rfl rfl ?_
    refine e_iload_n dX9_cut_30 rfl rfl ?_
    refine e_iald dX9_cut_31 (ar_19 hn) h.1 ?_
    replace h := h.2
    refine e_callS (M' := M_X9_isLetter) (as := [.int (gI σ 19 x3.toNatClampNeg)]) (rest := []) dX9_cut_32 ml_X9_37 mk_X9_isLetter rfl (Nat.le_of_ble_eq_true rfl) (show 0 < d by omega) (sp_X9_isLetter) Md_nil (fun v σv hq hf => ?_)
    obtain ⟨v, rfl, rfl, rfl⟩ := hq
    refine e_if_eq (tgt := 79) dX9_cut_35 (by decide) (fun c8 => ?_) (fun c8 => ?_)
    · replace h := h.1 c8
      refine e_aload_n dX9_cut_79 rfl rfl ?_
      refine e_getR (y := 19) dX9_cut_80 fl_X9_9 (ob_4 hn) rfl rfl ?_
      refine e_iload_n dX9_cut_83 rfl rfl ?_
      refine e_iald dX9_cut_84 (ar_19 hn) h.1 ?_
      replace h := h.2
      refine e_callS (M' := M_X9_isDigit) (as := [.int (gI σ 19 x3.toNatClampNeg)]) (rest := []) dX9_cut_85 ml_X9_48 mk_X9_isDigit rfl (Nat.le_of_ble_eq_true rfl) (show 0 < d by omega) (sp_X9_isDigit) Md_nil (fun v σv hq hf => ?_)
      obtain ⟨v, rfl, rfl, rfl⟩ := hq
      refine e_if_eq (tgt := 148) dX9_cut_88 (by decide) (fun c9 => ?_) (fun c9 => ?_)
      · replace h := h.1 c9
        refine e_aload_n dX9_cut_148 rfl rfl ?_
        refine e_getR (y := 19) dX9_cut_149 fl_X9_9 (ob_4 hn) rfl rfl ?_
        refine e_iload_n dX9_cut_152 rfl rfl ?_
        refine e_iald dX9_cut_153 (ar_19 hn) h.1 ?_
        replace h := h.2
        refine e_bipush dX9_cut_154 cb_32 ?_
        refine e_icmp_eq (tgt := 203) dX9_cut_156 (by decide) (fun c10 => ?_) (fun c10 => ?_)
        · replace h := h.1 c10
          refine e_iload dX9_cut_203 rfl ?_
          refine e_istore_n dX9_cut_205 rfl rfl (by decide) ?_
          refine e_goto (tgt := 16) dX9_cut_206 (by decide) ?_
          refine e_kill [true, false, true, true, false] ?_
          exact h
        · replace h := h.2 c10
          refine e_aload_n dX9_cut_159 rfl rfl ?_
          refine e_getR (y := 19) dX9_cut_160 fl_X9_9 (ob_4 hn) rfl rfl ?_
          refine e_iload_n dX9_cut_163 rfl rfl ?_
          refine e_iald dX9_cut_164 (ar_19 hn) h.1 ?_
          replace h := h.2
          refine e_bipush dX9_cut_165 cb_10 ?_
          refine e_icmp_eq (tgt := 203) dX9_cut_167 (by decide) (fun c11 => ?_) (fun c11 => ?_)
          · replace h := h.1 c11
            refine e_iload dX9_cut_203 rfl ?_
            refine e_istore_n dX9_cut_205 rfl rfl (by decide) ?_
            refine e_goto (tgt := 16) dX9_cut_206 (by decide) ?_
            refine e_kill [true, false, true, true, false] ?_
            exact h
          · replace h := h.2 c11
            refine e_aload_n dX9_cut_170 rfl rfl ?_
            refine e_ldcG dX9_cut_171 rfl ?_
            refine e_aload_n dX9_cut_173 rfl rfl ?_
            refine e_getR (y := 19) dX9_cut_174 fl_X9_9 (ob_4 hn) rfl rfl ?_
            refine e_iload_n dX9_cut_177 rfl rfl ?_
            refine e_iald dX9_cut_178 (ar_19 hn) h.1 ?_
            replace h := h.2
            refine e_i2c dX9_cut_179 ?_
            obtain ⟨Q12, hc13, h⟩ := h
            refine e_callK (M' := M_J0_indexOf_0f7a4) (i := 1) (as := [.int (((gI σ 19 x3.toNatClampNeg).toUInt32 % 65536).toInt32)]) (rest := [.ref 4]) dX9_cut_180 ml_X9_56 mk_J0_indexOf_0f7a4 (by decide) rfl rfl (Nat.le_of_ble_eq_true rfl) (show 0 < d by omega) hc13 (Md_le (b := md_X9_cut) (by decide)) (fun v σ14 hq hf => ?_)
            obtain ⟨v15, rfl, hq⟩ := hq
            replace h := h v15 σ14 hq hf
            refine e_if_lt (tgt := 195) dX9_cut_183 (by decide) (fun c18 => ?_) (fun c18 => ?_)
            · replace h := h.1 c18
              refine e_sipush dX9_cut_195 cs_257 ?_
              refine e_iload_n dX9_cut_198 rfl rfl ?_
              refine e_iconst dX9_cut_199 ci_0 ?_
              obtain ⟨Q19, hc20, h⟩ := h
              refine e_callV (M' := M_X9_token) (as := [.int 257, .int x3, .int 0]) (rest := []) dX9_cut_200 ml_X9_44 mk_X9_token (ob_4 hn) rfl rfl rfl (Nat.le_of_ble_eq_true rfl) (show 0 < d by omega) hc20 (Md_le (b := md_X9_cut) (by decide)) (fun v σ21 hq hf => ?_)
              obtain ⟨rfl, hq⟩ := hq
              replace h := h σ21 hq hf
              refine e_iload dX9_cut_203 rfl ?_
              refine e_istore_n dX9_cut_205 rfl rfl (by decide) ?_
              refine e_goto (tgt := 16) dX9_cut_206 (by decide) ?_
              refine e_kill [true, false, true, true, false] ?_
              exact h
            · replace h := h.2 c18
              refine e_aload_n dX9_cut_186 rfl rfl ?_
              refine e_getR (y := 19) dX9_cut_187 fl_X9_9 (ob_4 hn) rfl rfl ?_
              refine e_iload_n dX9_cut_190 rfl rfl ?_
              refine e_iald dX9_cut_191 (ar_19 hn) h.1 ?_
              replace h := h.2
              refine e_goto (tgt := 198) dX9_cut_192 (by decide) ?_
              refine e_iload_n dX9_cut_198 rfl rfl ?_
              refine e_iconst dX9_cut_199 ci_0 ?_
              obtain ⟨Q25, hc26, h⟩ := h
              refine e_callV (M' := M_X9_token) (as := [.int (gI σ14 19 x3.toNatClampNeg), .int x3, .int 0]) (rest := []) dX9_cut_200 ml_X9_44 mk_X9_token (ob_4 hn) rfl rfl rfl (Nat.le_of_ble_eq_true rfl) (show 0 < d by omega) hc26 (Md_le (b := md_X9_cut) (by decide)) (fun v σ27 hq hf => ?_)
              obtain ⟨rfl, hq⟩ := hq
              replace h := h σ27 hq hf
              refine e_iload dX9_cut_203 rfl ?_
              refine e_istore_n dX9_cut_205 rfl rfl (by decide) ?_
              refine e_goto (tgt := 16) dX9_cut_206 (by decide) ?_
              refine e_kill [true, false, true, true, false] ?_
              exact h
      · replace h := h.2 c9
        exact h
    · replace h := h.2 c8
      exact h
theorem B_X9_cut_91 {d n : Nat} {σ0 : St} {Q : St → Prop}  {σ : St} {x2 : Int32} {x3 : Int32} {x4 : Int32} (hn : FIX ≤ n) (hd : 1 ≤ d) (h : ((x2 ≤ x4 → (((x4 - x3) ≤ 5 → ∃ Q3 : Int32 → St → Prop, Cn (d - 1) n M_X9_numberOf md_X9_numberOf [.ref 4, .int x3, .int x4] σ (liI Q3) ∧ ∀ (v6 : Int32) (σ5 : St), Q3 v6 σ5 → Fr md_X9_numberOf σ σ5 → ∃ Q9 : St → Prop, Cn (d - 1) n M_X9_token md_X9_token [.ref 4, .int 256, .int x3, .int v6] σ5 (liV Q9) ∧ ∀ (σ11 : St), Q9 σ11 → Fr md_X9_token σ5 σ11 → K_X9_cut_16 d n σ0 Q σ11 x2 x4) ∧ (¬ (x4 - x3) ≤ 5 → ∃ Q15 : Int32 → St → Prop, Cn (d - 1) n M_X9_numberOf md_X9_numberOf [.ref 4, .int x3, .int x4] σ (liI Q15) ∧ ∀ (v18 : Int32) (σ17 : St), Q15 v18 σ17 → Fr md_X9_numberOf σ σ17 → ∃ Q21 : St → Prop, Cn (d - 1) n M_X9_token md_X9_token [.ref 4, .int 257, .int x3, .int v18] σ17 (liV Q21) ∧ ∀ (σ23 : St), Q21 σ23 → Fr md_X9_token σ17 σ23 → K_X9_cut_16 d n σ0 Q σ23 x2 x4))) ∧ (¬ x2 ≤ x4 → vp_in x4 400 ∧ (((fn_X9_isDigit (gI σ 19 x4.toNatClampNeg)) = 0 → (((x4 - x3) ≤ 5 → ∃ Q29 : Int32 → St → Prop, Cn (d - 1) n M_X9_numberOf md_X9_numberOf [.ref 4, .int x3, .int x4] σ (liI Q29) ∧ ∀ (v32 : Int32) (σ31 : St), Q29 v32 σ31 → Fr md_X9_numberOf σ σ31 → ∃ Q35 : St → Prop, Cn (d - 1) n M_X9_token md_X9_token [.ref 4, .int 256, .int x3, .int v32] σ31 (liV Q35) ∧ ∀ (σ37 : St), Q35 σ37 → Fr md_X9_token σ31 σ37 → K_X9_cut_16 d n σ0 Q σ37 x2 x4) ∧ (¬ (x4 - x3) ≤ 5 → ∃ Q41 : Int32 → St → Prop, Cn (d - 1) n M_X9_numberOf md_X9_numberOf [.ref 4, .int x3, .int x4] σ (liI Q41) ∧ ∀ (v44 : Int32) (σ43 : St), Q41 v44 σ43 → Fr md_X9_numberOf σ σ43 → ∃ Q47 : St → Prop, Cn (d - 1) n M_X9_token md_X9_token [.ref 4, .int 257, .int x3, .int v44] σ43 (liV Q47) ∧ ∀ (σ49 : St), Q47 σ49 → Fr md_X9_token σ43 σ49 → K_X9_cut_16 d n σ0 Q σ49 x2 x4))) ∧ (¬ (fn_X9_isDigit (gI σ 19 x4.toNatClampNeg)) = 0 → K_X9_cut_91 d n σ0 Q σ x2 x3 (x4 + 1)))))) : K_X9_cut_91 d n σ0 Q σ x2 x3 x4 := by
  refine e_iload dX9_cut_91 rfl ?_
  refine e_iload_n dX9_cut_93 rfl rfl ?_
  refine e_icmp_ge (tgt := 116) dX9_cut_94 (by decide) (fun c1 => ?_) (fun c1 => ?_)
  · replace h := h.1 c1
    refine e_aload_n dX9_cut_116 rfl rfl ?_
    refine e_iload dX9_cut_117 rfl ?_
    refine e_iload_n dX9_cut_119 rfl rfl ?_
    refine e_isub dX9_cut_120 ?_
    refine e_iconst dX9_cut_121 ci_5 ?_
    refine e_icmp_le (tgt := 131) dX9_cut_122 (by decide) (fun c2 => ?_) (fun c2 => ?_)
    · replace h := h.1 c2
      refine e_sipush dX9_cut_131 cs_256 ?_
      refine e_iload_n dX9_cut_134 rfl rfl ?_
      refine e_aload_n dX9_cut_135 rfl rfl ?_
      refine e_iload_n dX9_cut_136 rfl rfl ?_
      refine e_iload dX9_cut_137 rfl ?_
      obtain ⟨Q3, hc4, h⟩ := h
      refine e_callV (M' := M_X9_numberOf) (as := [.int x3, .int x4]) (rest := [.int x3, .int 256, .ref 4]) dX9_cut_139 ml_X9_51 mk_X9_numberOf (ob_4 hn) rfl rfl rfl (Nat.le_of_ble_eq_true rfl) (show 0 < d by omega) hc4 (Md_le (b := md_X9_cut) (by decide)) (fun v σ5 hq hf => ?_)
      obtain ⟨v6, rfl, hq⟩ := hq
      replace h := h v6 σ5 hq hf
      obtain ⟨Q9, hc10, h⟩ := h
      refine e_callV (M' := M_X9_token) (as := [.int 256, .int x3, .int v6]) (rest := []) dX9_cut_142 ml_X9_44 mk_X9_token (ob_4 hn) rfl rfl rfl (Nat.le_of_ble_eq_true rfl) (show 0 < d by omega) hc10 (Md_le (b := md_X9_cut) (by decide)) (fun v σ11 hq hf => ?_)
      obtain ⟨rfl, hq⟩ := hq
      replace h := h σ11 hq hf
      refine e_goto (tgt := 203) dX9_cut_145 (by decide) ?_
      refine e_iload dX9_cut_203 rfl ?_
      refine e_istore_n dX9_cut_205 rfl rfl (by decide) ?_
      refine e_goto (tgt := 16) dX9_cut_206 (by decide) ?_
      refine e_kill [true, false, true, true, false] ?_
      exact h
    · replace h := h.2 c2
      refine e_sipush dX9_cut_125 cs_257 ?_
      refine e_goto (tgt := 134) dX9_cut_128 (by decide) ?_
      refine e_iload_n dX9_cut_134 rfl rfl ?_
      refine e_aload_n dX9_cut_135 rfl rfl ?_
      refine e_iload_n dX9_cut_136 rfl rfl ?_
      refine e_iload dX9_cut_137 rfl ?_
      obtain ⟨Q15, hc16, h⟩ := h
      refine e_callV (M' := M_X9_numberOf) (as := [.int x3, .int x4]) (rest := [.int x3, .int 257, .ref 4]) dX9_cut_139 ml_X9_51 mk_X9_numberOf (ob_4 hn) rfl rfl rfl (Nat.le_of_ble_eq_true rfl) (show 0 < d by omega) hc16 (Md_le (b := md_X9_cut) (by decide)) (fun v σ17 hq hf => ?_)
      obtain ⟨v18, rfl, hq⟩ := hq
      replace h := h v18 σ17 hq hf
      obtain ⟨Q21, hc22, h⟩ := h
      refine e_callV (M' := M_X9_token) (as := [.int 257, .int x3, .int v18]) (rest := []) dX9_cut_142 ml_X9_44 mk_X9_token (ob_4 hn) rfl rfl rfl (Nat.le_of_ble_eq_true rfl) (show 0 < d by omega) hc22 (Md_le (b := md_X9_cut) (by decide)) (fun v σ23 hq hf => ?_)
      obtain ⟨rfl, hq⟩ := hq
      replace h := h σ23 hq hf
      refine e_goto (tgt := 203) dX9_cut_145 (by decide) ?_
      refine e_iload dX9_cut_203 rfl ?_
      refine e_istore_n dX9_cut_205 rfl rfl (by decide) ?_
      refine e_goto (tgt := 16) dX9_cut_206 (by decide) ?_
      refine e_kill [true, false, true, true, false] ?_
      exact h
  · replace h := h.2 c1
    refine e_aload_n dX9_cut_97 rfl rfl ?_
    refine e_getR (y := 19) dX9_cut_98 fl_X9_9 (ob_4 hn) rfl rfl ?_
    refine e_iload dX9_cut_101 rfl ?_
    refine e_iald dX9_cut_103 (ar_19 hn) h.1 ?_
    replace h := h.2
    refine e_callS (M' := M_X9_isDigit) (as := [.int (gI σ 19 x4.toNatClampNeg)]) (rest := []) dX9_cut_104 ml_X9_48 mk_X9_isDigit rfl (Nat.le_of_ble_eq_true rfl) (show 0 < d by omega) (sp_X9_isDigit) Md_nil (fun v σv hq hf => ?_)
    obtain ⟨v, rfl, rfl, rfl⟩ := hq
    refine e_if_eq (tgt := 116) dX9_cut_107 (by decide) (fun c27 => ?_) (fun c27 => ?_)
    · replace h := h.1 c27
      refine e_aload_n dX9_cut_116 rfl rfl ?_
      refine e_iload dX9_cut_117 rfl ?_
      refine e_iload_n dX9_cut_119 rfl rfl ?_
      refine e_isub dX9_cut_120 ?_
      refine e_iconst dX9_cut_121 ci_5 ?_
      refine e_icmp_le (tgt := 131) dX9_cut_122 (by decide) (fun c28 => ?_) (fun c28 => ?_)
      · replace h := h.1 c28
        refine e_sipush dX9_cut_131 cs_256 ?_
        refine e_iload_n dX9_cut_134 rfl rfl ?_
        refine e_aload_n dX9_cut_135 rfl rfl ?_
        refine e_iload_n dX9_cut_136 rfl rfl ?_
        refine e_iload dX9_cut_137 rfl ?_
        obtain ⟨Q29, hc30, h⟩ := h
        refine e_callV (M' := M_X9_numberOf) (as := [.int x3, .int x4]) (rest := [.int x3, .int 256, .ref 4]) dX9_cut_139 ml_X9_51 mk_X9_numberOf (ob_4 hn) rfl rfl rfl (Nat.le_of_ble_eq_true rfl) (show 0 < d by omega) hc30 (Md_le (b := md_X9_cut) (by decide)) (fun v σ31 hq hf => ?_)
        obtain ⟨v32, rfl, hq⟩ := hq
        replace h := h v32 σ31 hq hf
        obtain ⟨Q35, hc36, h⟩ := h
        refine e_callV (M' := M_X9_token) (as := [.int 256, .int x3, .int v32]) (rest := []) dX9_cut_142 ml_X9_44 mk_X9_token (ob_4 hn) rfl rfl rfl (Nat.le_of_ble_eq_true rfl) (show 0 < d by omega) hc36 (Md_le (b := md_X9_cut) (by decide)) (fun v σ37 hq hf => ?_)
        obtain ⟨rfl, hq⟩ := hq
        replace h := h σ37 hq hf
        refine e_goto (tgt := 203) dX9_cut_145 (by decide) ?_
        refine e_iload dX9_cut_203 rfl ?_
        refine e_istore_n dX9_cut_205 rfl rfl (by decide) ?_
        refine e_goto (tgt := 16) dX9_cut_206 (by decide) ?_
        refine e_kill [true, false, true, true, false] ?_
        exact h
      · replace h := h.2 c28
        refine e_sipush dX9_cut_125 cs_257 ?_
        refine e_goto (tgt := 134) dX9_cut_128 (by decide) ?_
        refine e_iload_n dX9_cut_134 rfl rfl ?_
        refine e_aload_n dX9_cut_135 rfl rfl ?_
        refine e_iload_n dX9_cut_136 rfl rfl ?_
        refine e_iload dX9_cut_137 rfl ?_
        obtain ⟨Q41, hc42, h⟩ := h
        refine e_callV (M' := M_X9_numberOf) (as := [.int x3, .int x4]) (rest := [.int x3, .int 257, .ref 4]) dX9_cut_139 ml_X9_51 mk_X9_numberOf (ob_4 hn) rfl rfl rfl (Nat.le_of_ble_eq_true rfl) (show 0 < d by omega) hc42 (Md_le (b := md_X9_cut) (by decide)) (fun v σ43 hq hf => ?_)
        obtain ⟨v44, rfl, hq⟩ := hq
        replace h := h v44 σ43 hq hf
        obtain ⟨Q47, hc48, h⟩ := h
        refine e_callV (M' := M_X9_token) (as := [.int 257, .int x3, .int v44]) (rest := []) dX9_cut_142 ml_X9_44 mk_X9_token (ob_4 hn) rfl rfl rfl (Nat.le_of_ble_eq_true rfl) (show 0 < d by omega) hc48 (Md_le (b := md_X9_cut) (by decide)) (fun v σ49 hq hf => ?_)
        obtain ⟨rfl, hq⟩ := hq
        replace h := h σ49 hq hf
        refine e_goto (tgt := 203) dX9_cut_145 (by decide) ?_
        refine e_iload dX9_cut_203 rfl ?_
        refine e_istore_n dX9_cut_205 rfl rfl (by decide) ?_
        refine e_goto (tgt := 16) dX9_cut_206 (by decide) ?_
        refine e_kill [true, false, true, true, false] ?_
        exact h
    · replace h := h.2 c27
      refine e_iinc dX9_cut_110 rfl (ii_1 _) rfl (by decide) ?_
      refine e_goto (tgt := 91) dX9_cut_113 (by decide) ?_
      exact h
theorem B_X9_cut_38 {d n : Nat} {σ0 : St} {Q : St → Prop}  {σ : St} {x2 : Int32} {x3 : Int32} {x4 : Int32} (hn : FIX ≤ n) (hd : 1 ≤ d) (h : ((x2 ≤ x4 → ∃ Q2 : Int32 → St → Prop, Cn (d - 1) n M_X9_wordKind md_X9_wordKind [.ref 4, .int x3, .int x4] σ (liI Q2) ∧ ∀ (v5 : Int32) (σ4 : St), Q2 v5 σ4 → Fr md_X9_wordKind σ σ4 → ∃ Q8 : St → Prop, Cn (d - 1) n M_X9_token md_X9_token [.ref 4, .int v5, .int x3, .int 0] σ4 (liV Q8) ∧ ∀ (σ10 : St), Q8 σ10 → Fr md_X9_token σ4 σ10 → K_X9_cut_16 d n σ0 Q σ10 x2 x4) ∧ (¬ x2 ≤ x4 → vp_in x4 400 ∧ (((fn_X9_isLetter (gI σ 19 x4.toNatClampNeg)) = 0 → ∃ Q15 : Int32 → St → Prop, Cn (d - 1) n M_X9_wordKind md_X9_wordKind [.ref 4, .int x3, .int x4] σ (liI Q15) ∧ ∀ (v18 : Int32) (σ17 : St), Q15 v18 σ17 → Fr md_X9_wordKind σ σ17 → ∃ Q21 : St → Prop, Cn (d - 1) n M_X9_token md_X9_token [.ref 4, .int v18, .int x3, .int 0] σ17 (liV Q21) ∧ ∀ (σ23 : St), Q21 σ23 → Fr md_X9_token σ17 σ23 → K_X9_cut_16 d n σ0 Q σ23 x2 x4) ∧ (¬ (fn_X9_isLetter (gI σ 19 x4.toNatClampNeg)) = 0 → K_X9_cut_38 d n σ0 Q σ x2 x3 (x4 + 1)))))) : K_X9_cut_38 d n σ0 Q σ x2 x3 x4 := by
  refine e_iload dX9_cut_38 rfl ?_
  refine e_iload_n dX9_cut_40 rfl rfl ?_
  refine e_icmp_ge (tgt := 63) dX9_cut_41 (by decide) (fun c1 => ?_) (fun c1 => ?_)
  · replace h := h.1 c1
    refine e_aload_n dX9_cut_63 rfl rfl ?_
    refine e_aload_n dX9_cut_64 rfl rfl ?_
    refine e_iload_n dX9_cut_65 rfl rfl ?_
    refine e_iload dX9_cut_66 rfl ?_
    obtain ⟨Q2, hc3, h⟩ := h
    refine e_callV (M' := M_X9_wordKind) (as := [.int x3, .int x4]) (rest := [.ref 4]) dX9_cut_68 ml_X9_41 mk_X9_wordKind (ob_4 hn) rfl rfl rfl (Nat.le_of_ble_eq_true rfl) (show 0 < d by omega) hc3 (Md_le (b := md_X9_cut) (by decide)) (fun v σ4 hq hf => ?_)
    obtain ⟨v5, rfl, hq⟩ := hq
    replace h := h v5 σ4 hq hf
    refine e_iload_n dX9_cut_71 rfl rfl ?_
    refine e_iconst dX9_cut_72 ci_0 ?_
    obtain ⟨Q8, hc9, h⟩ := h
    refine e_callV (M' := M_X9_token) (as := [.int v5, .int x3, .int 0]) (rest := []) dX9_cut_73 ml_X9_44 mk_X9_token (ob_4 hn) rfl rfl rfl (Nat.le_of_ble_eq_true rfl) (show 0 < d by omega) hc9 (Md_le (b := md_X9_cut) (by decide)) (fun v σ10 hq hf => ?_)
    obtain ⟨rfl, hq⟩ := hq
    replace h := h σ10 hq hf
    refine e_goto (tgt := 203) dX9_cut_76 (by decide) ?_
    refine e_iload dX9_cut_203 rfl ?_
    refine e_istore_n dX9_cut_205 rfl rfl (by decide) ?_
    refine e_goto (tgt := 16) dX9_cut_206 (by decide) ?_
    refine e_kill [true, false, true, true, false] ?_
    exact h
  · replace h := h.2 c1
    refine e_aload_n dX9_cut_44 rfl rfl ?_
    refine e_getR (y := 19) dX9_cut_45 fl_X9_9 (ob_4 hn) rfl rfl ?_
    refine e_iload dX9_cut_48 rfl ?_
    refine e_iald dX9_cut_50 (ar_19 hn) h.1 ?_
    replace h := h.2
    refine e_callS (M' := M_X9_isLetter) (as := [.int (gI σ 19 x4.toNatClampNeg)]) (rest := []) dX9_cut_51 ml_X9_37 mk_X9_isLetter rfl (Nat.le_of_ble_eq_true rfl) (show 0 < d by omega) (sp_X9_isLetter) Md_nil (fun v σv hq hf => ?_)
    obtain ⟨v, rfl, rfl, rfl⟩ := hq
    refine e_if_eq (tgt := 63) dX9_cut_54 (by decide) (fun c14 => ?_) (fun c14 => ?_)
    · replace h := h.1 c14
      refine e_aload_n dX9_cut_63 rfl rfl ?_
      refine e_aload_n dX9_cut_64 rfl rfl ?_
      refine e_iload_n dX9_cut_65 rfl rfl ?_
      refine e_iload dX9_cut_66 rfl ?_
      obtain ⟨Q15, hc16, h⟩ := h
      refine e_callV (M' := M_X9_wordKind) (as := [.int x3, .int x4]) (rest := [.ref 4]) dX9_cut_68 ml_X9_41 mk_X9_wordKind (ob_4 hn) rfl rfl rfl (Nat.le_of_ble_eq_true rfl) (show 0 < d by omega) hc16 (Md_le (b := md_X9_cut) (by decide)) (fun v σ17 hq hf => ?_)
      obtain ⟨v18, rfl, hq⟩ := hq
      replace h := h v18 σ17 hq hf
      refine e_iload_n dX9_cut_71 rfl rfl ?_
      refine e_iconst dX9_cut_72 ci_0 ?_
      obtain ⟨Q21, hc22, h⟩ := h
      refine e_callV (M' := M_X9_token) (as := [.int v18, .int x3, .int 0]) (rest := []) dX9_cut_73 ml_X9_44 mk_X9_token (ob_4 hn) rfl rfl rfl (Nat.le_of_ble_eq_true rfl) (show 0 < d by omega) hc22 (Md_le (b := md_X9_cut) (by decide)) (fun v σ23 hq hf => ?_)
      obtain ⟨rfl, hq⟩ := hq
      replace h := h σ23 hq hf
      refine e_goto (tgt := 203) dX9_cut_76 (by decide) ?_
      refine e_iload dX9_cut_203 rfl ?_
      refine e_istore_n dX9_cut_205 rfl rfl (by decide) ?_
      refine e_goto (tgt := 16) dX9_cut_206 (by decide) ?_
      refine e_kill [true, false, true, true, false] ?_
      exact h
    · replace h := h.2 c14
      refine e_iinc dX9_cut_57 rfl (ii_1 _) rfl (by decide) ?_
      refine e_goto (tgt := 38) dX9_cut_60 (by decide) ?_
      exact h
theorem S_X9_cut {d n : Nat} {Q : St → Prop} {σ : St} {a1 : Int32} (hn : FIX ≤ n) (hd : 1 ≤ d) (h : K_X9_cut_16 d n σ Q (sI σ 4 2 0) (mnI a1 (gI (sI σ 4 2 0) 4 0)) 0) : Cn d n M_X9_cut md_X9_cut [.ref 4, .int a1] σ (liV Q) := by
  refine Cn.of (k0 := 3) (by decide) rfl ?_
  show Ev (d, n, md_X9_cut, σ, liV Q) M_X9_cut 0 [some (.ref 4), some (.int a1), none, none, none] [] σ
  refine e_aload_n dX9_cut_0 rfl rfl ?_
  refine e_iconst dX9_cut_1 ci_0 ?_
  refine e_putI dX9_cut_2 fl_X9_28 (ob_4 hn) rfl (fpI_9_2 _) (md_c (m := md_X9_cut) (by decide)) ?_
  refine e_iload_n dX9_cut_5 rfl rfl ?_
  refine e_aload_n dX9_cut_6 rfl rfl ?_
  refine e_getI dX9_cut_7 fl_X9_24 (ob_4 hn) rfl ?_
  refine e_mmin (st := []) dX9_cut_10 ml_X9_31 (Nat.le_of_ble_eq_true rfl) (show 0 < d by omega) ?_
  refine e_istore_n dX9_cut_13 rfl rfl (by decide) ?_
  refine e_iconst dX9_cut_14 ci_0 ?_
  refine e_istore_n dX9_cut_15 rfl rfl (by decide) ?_
  refine e_kill [true, false, true, true, false] ?_
  exact h
abbrev K_X5_sortRanked_2 (d n : Nat) (σ0 : St) (Q : St → Prop) (p : Nat) (σ : St) (x1 : Int32) : Prop := Ev (d, n, (md_X5_sortRanked p), σ0, liV Q) M_X5_sortRanked 2 [some (.ref p), some (.int x1), none, none, none, none] [] σ
abbrev K_X5_sortRanked_18 (d n : Nat) (σ0 : St) (Q : St → Prop) (p : Nat) (σ : St) (x1 : Int32) (x2 : Int32) (x3 : Int32) : Prop := Ev (d, n, (md_X5_sortRanked p), σ0, liV Q) M_X5_sortRanked 18 [some (.ref p), some (.int x1), some (.int x2), some (.int x3), none, none] [] σ
abbrev K_X5_sortRanked_37 (d n : Nat) (σ0 : St) (Q : St → Prop) (p : Nat) (σ : St) (x1 : Int32) (x2 : Int32) (x3 : Int32) (x4 : Int32) (x5 : Int32) : Prop := Ev (d, n, (md_X5_sortRanked p), σ0, liV Q) M_X5_sortRanked 37 [some (.ref p), some (.int x1), some (.int x2), some (.int x3), some (.int x4), some (.int x5)] [] σ
theorem B_X5_sortRanked_2 {d n : Nat} {σ0 : St} {Q : St → Prop} {p : Nat} {σ : St} {x1 : Int32} (hp_p : IsP n p) (h : (((8 : Int32) ≤ x1 → Q σ) ∧ (¬ (8 : Int32) ≤ x1 → vp_in x1 8 ∧ K_X5_sortRanked_18 d n σ0 Q p σ x1 (kStrides.getD x1.toNatClampNeg 0) (kStrides.getD x1.toNatClampNeg 0)))) : K_X5_sortRanked_2 d n σ0 Q p σ x1 := by
  refine e_iload_n dX5_sortRanked_2 rfl rfl ?_
  refine e_getsT dX5_sortRanked_3 flj_X5_79 ?_
  refine e_tlenT dX5_sortRanked_6 ?_
  refine e_icmp_ge (tgt := 103) dX5_sortRanked_7 (by decide) (fun c1 => ?_) (fun c1 => ?_)
  · replace h := h.1 c1
    exact e_vret dX5_sortRanked_103 rfl ⟨rfl, h⟩
  · replace h := h.2 c1
    refine e_getsT dX5_sortRanked_10 flj_X5_79 ?_
    refine e_iload_n dX5_sortRanked_13 rfl rfl ?_
    refine e_tiK dX5_sortRanked_14 h.1 ?_
    replace h := h.2
    refine e_istore_n dX5_sortRanked_15 rfl rfl (by decide) ?_
    refine e_iload_n dX5_sortRanked_16 rfl rfl ?_
    refine e_istore_n dX5_sortRanked_17 rfl rfl (by decide) ?_
    exact h
theorem B_X5_sortRanked_18 {d n : Nat} {σ0 : St} {Q : St → Prop} {p : Nat} {σ : St} {x1 : Int32} {x2 : Int32} {x3 : Int32} (hp_p : IsP n p) (h : (((gI σ p 8) ≤ x3 → K_X5_sortRanked_2 d n σ0 Q p σ (x1 + 1)) ∧ (¬ (gI σ p 8) ≤ x3 → vp_in x3 1024 ∧ K_X5_sortRanked_37 d n σ0 Q p σ x1 x2 x3 (gI σ (p + 4) x3.toNatClampNeg) x3))) : K_X5_sortRanked_18 d n σ0 Q p σ x1 x2 x3 := by
  refine e_iload_n dX5_sortRanked_18 rfl rfl ?_
  refine e_aload_n dX5_sortRanked_19 rfl rfl ?_
  refine e_getI dX5_sortRanked_20 fl_X5_51 (Ob.p hp_p) rfl ?_
  refine e_icmp_ge (tgt := 97) dX5_sortRanked_23 (by decide) (fun c1 => ?_) (fun c1 => ?_)
  · replace h := h.1 c1
    refine e_iinc dX5_sortRanked_97 rfl (ii_1 _) rfl (by decide) ?_
    refine e_goto (tgt := 2) dX5_sortRanked_100 (by decide) ?_
    refine e_kill [true, true, false, false, false, false] ?_
    exact h
  · replace h := h.2 c1
    refine e_aload_n dX5_sortRanked_26 rfl rfl ?_
    refine e_getR (y := p + 4) dX5_sortRanked_27 fl_X5_22 (Ob.p hp_p) rfl (rf_p hp_p (by decide)) ?_
    refine e_iload_n dX5_sortRanked_30 rfl rfl ?_
    refine e_iald dX5_sortRanked_31 (Ar.p4 hp_p) h.1 ?_
    replace h := h.2
    refine e_istore dX5_sortRanked_32 rfl (by decide) ?_
    refine e_iload_n dX5_sortRanked_34 rfl rfl ?_
    refine e_istore dX5_sortRanked_35 rfl (by decide) ?_
    exact h
theorem B_X5_sortRanked_37 {d n : Nat} {σ0 : St} {Q : St → Prop} {p : Nat} {σ : St} {x1 : Int32} {x2 : Int32} {x3 : Int32} {x4 : Int32} {x5 : Int32} (hp_p : IsP n p) (h : ((x5 < x2 → vp_in x5 1024 ∧ K_X5_sortRanked_18 d n σ0 Q p (sI σ (p + 4) x5.toNatClampNeg x4) x1 x2 (x3 + 1)) ∧ (¬ x5 < x2 → vp_in (x5 - x2) 1024 ∧ (((gI σ (p + 4) (x5 - x2).toNatClampNeg) ≤ x4 → vp_in x5 1024 ∧ K_X5_sortRanked_18 d n σ0 Q p (sI σ (p + 4) x5.toNatClampNeg x4) x1 x2 (x3 + 1)) ∧ (¬ (gI σ (p + 4) (x5 - x2).toNatClampNeg) ≤ x4 → vp_in (x5 - x2) 1024 ∧ vp_in x5 1024 ∧ K_X5_sortRanked_37 d n σ0 Q p (sI σ (p + 4) x5.toNatClampNeg (gI σ (p + 4) (x5 - x2).toNatClampNeg)) x1 x2 x3 x4 (x5 - x2)))))) : K_X5_sortRanked_37 d n σ0 Q p σ x1 x2 x3 x4 x5 := by
  refine e_iload dX5_sortRanked_37 rfl ?_
  refine e_iload_n dX5_sortRanked_39 rfl rfl ?_
  refine e_icmp_lt (tgt := 82) dX5_sortRanked_40 (by decide) (fun c1 => ?_) (fun c1 => ?_)
  · replace h := h.1 c1
    refine e_aload_n dX5_sortRanked_82 rfl rfl ?_
    refine e_getR (y := p + 4) dX5_sortRanked_83 fl_X5_22 (Ob.p hp_p) rfl (rf_p hp_p (by decide)) ?_
    refine e_iload dX5_sortRanked_86 rfl ?_
    refine e_iload dX5_sortRanked_88 rfl ?_
    refine e_iast dX5_sortRanked_90 (Ar.p4 hp_p) h.1 (show inMd (md_X5_sortRanked p) _ _ from Or.inl (by simp [md_X5_sortRanked, mdP])) ?_
    replace h := h.2
    refine e_iinc dX5_sortRanked_91 rfl (ii_1 _) rfl (by decide) ?_
    refine e_goto (tgt := 18) dX5_sortRanked_94 (by decide) ?_
    refine e_kill [true, true, true, true, false, false] ?_
    exact h
  · replace h := h.2 c1
    refine e_aload_n dX5_sortRanked_43 rfl rfl ?_
    refine e_getR (y := p + 4) dX5_sortRanked_44 fl_X5_22 (Ob.p hp_p) rfl (rf_p hp_p (by decide)) ?_
    refine e_iload dX5_sortRanked_47 rfl ?_
    refine e_iload_n dX5_sortRanked_49 rfl rfl ?_
    refine e_isub dX5_sortRanked_50 ?_
    refine e_iald dX5_sortRanked_51 (Ar.p4 hp_p) h.1 ?_
    replace h := h.2
    refine e_iload dX5_sortRanked_52 rfl ?_
    refine e_icmp_le (tgt := 82) dX5_sortRanked_54 (by decide) (fun c2 => ?_) (fun c2 => ?_)
    · replace h := h.1 c2
      refine e_aload_n dX5_sortRanked_82 rfl rfl ?_
      refine e_getR (y := p + 4) dX5_sortRanked_83 fl_X5_22 (Ob.p hp_p) rfl (rf_p hp_p (by decide)) ?_
      refine e_iload dX5_sortRanked_86 rfl ?_
      refine e_iload dX5_sortRanked_88 rfl ?_
      refine e_iast dX5_sortRanked_90 (Ar.p4 hp_p) h.1 (show inMd (md_X5_sortRanked p) _ _ from Or.inl (by simp [md_X5_sortRanked, mdP])) ?_
      replace h := h.2
      refine e_iinc dX5_sortRanked_91 rfl (ii_1 _) rfl (by decide) ?_
      refine e_goto (tgt := 18) dX5_sortRanked_94 (by decide) ?_
      refine e_kill [true, true, true, true, false, false] ?_
      exact h
    · replace h := h.2 c2
      refine e_aload_n dX5_sortRanked_57 rfl rfl ?_
      refine e_getR (y := p + 4) dX5_sortRanked_58 fl_X5_22 (Ob.p hp_p) rfl (rf_p hp_p (by decide)) ?_
      refine e_iload dX5_sortRanked_61 rfl ?_
      refine e_aload_n dX5_sortRanked_63 rfl rfl ?_
      refine e_getR (y := p + 4) dX5_sortRanked_64 fl_X5_22 (Ob.p hp_p) rfl (rf_p hp_p (by decide)) ?_
      refine e_iload dX5_sortRanked_67 rfl ?_
      refine e_iload_n dX5_sortRanked_69 rfl rfl ?_
      refine e_isub dX5_sortRanked_70 ?_
      refine e_iald dX5_sortRanked_71 (Ar.p4 hp_p) h.1 ?_
      replace h := h.2
      refine e_iast dX5_sortRanked_72 (Ar.p4 hp_p) h.1 (show inMd (md_X5_sortRanked p) _ _ from Or.inl (by simp [md_X5_sortRanked, mdP])) ?_
      replace h := h.2
      refine e_iload dX5_sortRanked_73 rfl ?_
      refine e_iload_n dX5_sortRanked_75 rfl rfl ?_
      refine e_isub dX5_sortRanked_76 ?_
      refine e_istore dX5_sortRanked_77 rfl (by decide) ?_
      refine e_goto (tgt := 37) dX5_sortRanked_79 (by decide) ?_
      exact h
theorem S_X5_sortRanked {d n : Nat} {Q : St → Prop} {σ : St} {p : Nat} (hp_p : IsP n p) (h : K_X5_sortRanked_2 d n σ Q p σ 0) : Cn d n M_X5_sortRanked (md_X5_sortRanked p) [.ref p] σ (liV Q) := by
  refine Cn.of (k0 := 5) (by decide) rfl ?_
  show Ev (d, n, (md_X5_sortRanked p), σ, liV Q) M_X5_sortRanked 0 [some (.ref p), none, none, none, none, none] [] σ
  refine e_iconst dX5_sortRanked_0 ci_0 ?_
  refine e_istore_n dX5_sortRanked_1 rfl rfl (by decide) ?_
  exact h
