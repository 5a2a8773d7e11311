/-! ===== the maker of the component ===== -/
abbrev I_X11 : MI := (yX11_init, cX11_init, 1, none)
theorem di_X11_0 : decode cX11_init 0 = .ok (.aload_n 0, 1) := by decide +kernel
theorem di_X11_1 : decode cX11_init 1 = .ok (.invokespecial 1, 3) := by decide +kernel
theorem di_X11_4 : decode cX11_init 4 = .ok (.aload_n 0, 1) := by decide +kernel
theorem di_X11_5 : decode cX11_init 5 = .ok (.new 7, 3) := by decide +kernel
theorem di_X11_8 : decode cX11_init 8 = .ok (.dup, 1) := by decide +kernel
theorem di_X11_9 : decode cX11_init 9 = .ok (.invokespecial 9, 3) := by decide +kernel
theorem di_X11_12 : decode cX11_init 12 = .ok (.putfield 10, 3) := by decide +kernel
theorem di_X11_15 : decode cX11_init 15 = .ok (.aload_n 0, 1) := by decide +kernel
theorem di_X11_16 : decode cX11_init 16 = .ok (.new 16, 3) := by decide +kernel
theorem di_X11_19 : decode cX11_init 19 = .ok (.dup, 1) := by decide +kernel
theorem di_X11_20 : decode cX11_init 20 = .ok (.aload_n 0, 1) := by decide +kernel
theorem di_X11_21 : decode cX11_init 21 = .ok (.getfield 10, 3) := by decide +kernel
theorem di_X11_24 : decode cX11_init 24 = .ok (.invokespecial 18, 3) := by decide +kernel
theorem di_X11_27 : decode cX11_init 27 = .ok (.putfield 21, 3) := by decide +kernel
theorem di_X11_30 : decode cX11_init 30 = .ok (.aload_n 0, 1) := by decide +kernel
theorem di_X11_31 : decode cX11_init 31 = .ok (.new 25, 3) := by decide +kernel
theorem di_X11_34 : decode cX11_init 34 = .ok (.dup, 1) := by decide +kernel
theorem di_X11_35 : decode cX11_init 35 = .ok (.aload_n 0, 1) := by decide +kernel
theorem di_X11_36 : decode cX11_init 36 = .ok (.getfield 21, 3) := by decide +kernel
theorem di_X11_39 : decode cX11_init 39 = .ok (.invokespecial 27, 3) := by decide +kernel
theorem di_X11_42 : decode cX11_init 42 = .ok (.putfield 30, 3) := by decide +kernel
theorem di_X11_45 : decode cX11_init 45 = .ok (.aload_n 0, 1) := by decide +kernel
theorem di_X11_46 : decode cX11_init 46 = .ok (.new 34, 3) := by decide +kernel
theorem di_X11_49 : decode cX11_init 49 = .ok (.dup, 1) := by decide +kernel
theorem di_X11_50 : decode cX11_init 50 = .ok (.invokespecial 36, 3) := by decide +kernel
theorem di_X11_53 : decode cX11_init 53 = .ok (.putfield 37, 3) := by decide +kernel
theorem di_X11_56 : decode cX11_init 56 = .ok (.aload_n 0, 1) := by decide +kernel
theorem di_X11_57 : decode cX11_init 57 = .ok (.new 41, 3) := by decide +kernel
theorem di_X11_60 : decode cX11_init 60 = .ok (.dup, 1) := by decide +kernel
theorem di_X11_61 : decode cX11_init 61 = .ok (.aload_n 0, 1) := by decide +kernel
theorem di_X11_62 : decode cX11_init 62 = .ok (.getfield 37, 3) := by decide +kernel
theorem di_X11_65 : decode cX11_init 65 = .ok (.invokespecial 43, 3) := by decide +kernel
theorem di_X11_68 : decode cX11_init 68 = .ok (.putfield 46, 3) := by decide +kernel
theorem di_X11_71 : decode cX11_init 71 = .ok (.aload_n 0, 1) := by decide +kernel
theorem di_X11_72 : decode cX11_init 72 = .ok (.new 50, 3) := by decide +kernel
theorem di_X11_75 : decode cX11_init 75 = .ok (.dup, 1) := by decide +kernel
theorem di_X11_76 : decode cX11_init 76 = .ok (.aload_n 0, 1) := by decide +kernel
theorem di_X11_77 : decode cX11_init 77 = .ok (.getfield 10, 3) := by decide +kernel
theorem di_X11_80 : decode cX11_init 80 = .ok (.aload_n 0, 1) := by decide +kernel
theorem di_X11_81 : decode cX11_init 81 = .ok (.getfield 30, 3) := by decide +kernel
theorem di_X11_84 : decode cX11_init 84 = .ok (.invokespecial 52, 3) := by decide +kernel
theorem di_X11_87 : decode cX11_init 87 = .ok (.putfield 55, 3) := by decide +kernel
theorem di_X11_90 : decode cX11_init 90 = .ok (.aload_n 0, 1) := by decide +kernel
theorem di_X11_91 : decode cX11_init 91 = .ok (.new 59, 3) := by decide +kernel
theorem di_X11_94 : decode cX11_init 94 = .ok (.dup, 1) := by decide +kernel
theorem di_X11_95 : decode cX11_init 95 = .ok (.aload_n 0, 1) := by decide +kernel
theorem di_X11_96 : decode cX11_init 96 = .ok (.getfield 10, 3) := by decide +kernel
theorem di_X11_99 : decode cX11_init 99 = .ok (.aload_n 0, 1) := by decide +kernel
theorem di_X11_100 : decode cX11_init 100 = .ok (.getfield 55, 3) := by decide +kernel
theorem di_X11_103 : decode cX11_init 103 = .ok (.invokespecial 61, 3) := by decide +kernel
theorem di_X11_106 : decode cX11_init 106 = .ok (.putfield 64, 3) := by decide +kernel
theorem di_X11_109 : decode cX11_init 109 = .ok (.aload_n 0, 1) := by decide +kernel
theorem di_X11_110 : decode cX11_init 110 = .ok (.new 68, 3) := by decide +kernel
theorem di_X11_113 : decode cX11_init 113 = .ok (.dup, 1) := by decide +kernel
theorem di_X11_114 : decode cX11_init 114 = .ok (.aload_n 0, 1) := by decide +kernel
theorem di_X11_115 : decode cX11_init 115 = .ok (.getfield 10, 3) := by decide +kernel
theorem di_X11_118 : decode cX11_init 118 = .ok (.aload_n 0, 1) := by decide +kernel
theorem di_X11_119 : decode cX11_init 119 = .ok (.getfield 30, 3) := by decide +kernel
theorem di_X11_122 : decode cX11_init 122 = .ok (.aload_n 0, 1) := by decide +kernel
theorem di_X11_123 : decode cX11_init 123 = .ok (.getfield 55, 3) := by decide +kernel
theorem di_X11_126 : decode cX11_init 126 = .ok (.invokespecial 70, 3) := by decide +kernel
theorem di_X11_129 : decode cX11_init 129 = .ok (.putfield 73, 3) := by decide +kernel
theorem di_X11_132 : decode cX11_init 132 = .ok (.aload_n 0, 1) := by decide +kernel
theorem di_X11_133 : decode cX11_init 133 = .ok (.new 77, 3) := by decide +kernel
theorem di_X11_136 : decode cX11_init 136 = .ok (.dup, 1) := by decide +kernel
theorem di_X11_137 : decode cX11_init 137 = .ok (.aload_n 0, 1) := by decide +kernel
theorem di_X11_138 : decode cX11_init 138 = .ok (.getfield 10, 3) := by decide +kernel
theorem di_X11_141 : decode cX11_init 141 = .ok (.aload_n 0, 1) := by decide +kernel
theorem di_X11_142 : decode cX11_init 142 = .ok (.getfield 30, 3) := by decide +kernel
theorem di_X11_145 : decode cX11_init 145 = .ok (.aload_n 0, 1) := by decide +kernel
theorem di_X11_146 : decode cX11_init 146 = .ok (.getfield 73, 3) := by decide +kernel
theorem di_X11_149 : decode cX11_init 149 = .ok (.invokespecial 79, 3) := by decide +kernel
theorem di_X11_152 : decode cX11_init 152 = .ok (.putfield 82, 3) := by decide +kernel
theorem di_X11_155 : decode cX11_init 155 = .ok (.aload_n 0, 1) := by decide +kernel
theorem di_X11_156 : decode cX11_init 156 = .ok (.new 86, 3) := by decide +kernel
theorem di_X11_159 : decode cX11_init 159 = .ok (.dup, 1) := by decide +kernel
theorem di_X11_160 : decode cX11_init 160 = .ok (.aload_n 0, 1) := by decide +kernel
theorem di_X11_161 : decode cX11_init 161 = .ok (.getfield 10, 3) := by decide +kernel
theorem di_X11_164 : decode cX11_init 164 = .ok (.aload_n 0, 1) := by decide +kernel
theorem di_X11_165 : decode cX11_init 165 = .ok (.getfield 30, 3) := by decide +kernel
theorem di_X11_168 : decode cX11_init 168 = .ok (.aload_n 0, 1) := by decide +kernel
theorem di_X11_169 : decode cX11_init 169 = .ok (.getfield 73, 3) := by decide +kernel
theorem di_X11_172 : decode cX11_init 172 = .ok (.invokespecial 88, 3) := by decide +kernel
theorem di_X11_175 : decode cX11_init 175 = .ok (.putfield 89, 3) := by decide +kernel
theorem di_X11_178 : decode cX11_init 178 = .ok (.aload_n 0, 1) := by decide +kernel
theorem di_X11_179 : decode cX11_init 179 = .ok (.new 93, 3) := by decide +kernel
theorem di_X11_182 : decode cX11_init 182 = .ok (.dup, 1) := by decide +kernel
theorem di_X11_183 : decode cX11_init 183 = .ok (.iconst 0, 1) := by decide +kernel
theorem di_X11_184 : decode cX11_init 184 = .ok (.iconst 0, 1) := by decide +kernel
theorem di_X11_185 : decode cX11_init 185 = .ok (.invokespecial 95, 3) := by decide +kernel
theorem di_X11_188 : decode cX11_init 188 = .ok (.putfield 98, 3) := by decide +kernel
theorem di_X11_191 : decode cX11_init 191 = .ok (.aload_n 0, 1) := by decide +kernel
theorem di_X11_192 : decode cX11_init 192 = .ok (.iconst (-1), 1) := by decide +kernel
theorem di_X11_193 : decode cX11_init 193 = .ok (.putfield 102, 3) := by decide +kernel
theorem di_X11_196 : decode cX11_init 196 = .ok (.return_, 1) := by decide +kernel
theorem wl_X11 : (.methodLink RX11 1 Lib.objectInit : Cond) ∈ TT := TT_mem 131 (by decide +kernel)
theorem wn_X6 : (.instantiable RX6 8 : Cond) ∈ TT := TT_mem 135 (by decide +kernel)
theorem wz_X6 : (.initialized RX6 : Cond) ∈ TT := TT_mem 105 (by decide +kernel)
theorem wm_X6 : (.code yX6_init cX6_init 1 none : Cond) ∈ TT := TT_mem 138 (by decide +kernel)
theorem wi_X6 : (.instanceMethod yX6_init : Cond) ∈ TT := TT_mem 137 (by decide +kernel)
theorem df_X6 : ∀ j, j < 8 → defaultValue (tyX6 j) = vp_V [.int 0, .int 0, .int 0, .null, .null, .null, .null, .null] j := fun j hj => match j, hj with
  | 0, _ => rfl
  | 1, _ => rfl
  | 2, _ => rfl
  | 3, _ => rfl
  | 4, _ => rfl
  | 5, _ => rfl
  | 6, _ => rfl
  | 7, _ => rfl
  | k + 8, h => absurd h (by omega)
theorem wc_X11_5 : (.classLink RX11 7 RX6 : Cond) ∈ TT := TT_mem 134 (by decide +kernel)
theorem fi_X11_0 : Fl RX11 10 11 0 := Fl.mk (RX11, TX11, 13) rfl rfl 528 (by decide +kernel) rfl
theorem wn_X0 : (.instantiable RX0 11 : Cond) ∈ TT := TT_mem 183 (by decide +kernel)
theorem wz_X0 : (.initialized RX0 : Cond) ∈ TT := TT_mem 106 (by decide +kernel)
theorem wm_X0 : (.code yX0_init cX0_init 2 none : Cond) ∈ TT := TT_mem 186 (by decide +kernel)
theorem wi_X0 : (.instanceMethod yX0_init : Cond) ∈ TT := TT_mem 185 (by decide +kernel)
theorem df_X0 : ∀ j, j < 11 → defaultValue (tyX0 j) = vp_V [.null, .int 0, .int 0, .null, .int 0, .int 0, .int 0, .int 0, .int 0, .int 0, .int 0] j := fun j hj => match j, hj with
  | 0, _ => rfl
  | 1, _ => rfl
  | 2, _ => rfl
  | 3, _ => rfl
  | 4, _ => rfl
  | 5, _ => rfl
  | 6, _ => rfl
  | 7, _ => rfl
  | 8, _ => rfl
  | 9, _ => rfl
  | 10, _ => rfl
  | k + 11, h => absurd h (by omega)
theorem wc_X11_16 : (.classLink RX11 16 RX0 : Cond) ∈ TT := TT_mem 182 (by decide +kernel)
theorem wq_X11_24 : (.methodLink RX11 18 yX0_init : Cond) ∈ TT := TT_mem 184 (by decide +kernel)
theorem fi_X11_2 : Fl RX11 21 11 2 := Fl.mk (RX11, TX11, 13) rfl rfl 530 (by decide +kernel) rfl
theorem wn_X1 : (.instantiable RX1 3 : Cond) ∈ TT := TT_mem 228 (by decide +kernel)
theorem wz_X1 : (.initialized RX1 : Cond) ∈ TT := TT_mem 107 (by decide +kernel)
theorem wm_X1 : (.code yX1_init cX1_init 2 none : Cond) ∈ TT := TT_mem 231 (by decide +kernel)
theorem wi_X1 : (.instanceMethod yX1_init : Cond) ∈ TT := TT_mem 230 (by decide +kernel)
theorem df_X1 : ∀ j, j < 3 → defaultValue (tyX1 j) = vp_V [.null, .null, .int 0] j := fun j hj => match j, hj with
  | 0, _ => rfl
  | 1, _ => rfl
  | 2, _ => rfl
  | k + 3, h => absurd h (by omega)
theorem wc_X11_31 : (.classLink RX11 25 RX1 : Cond) ∈ TT := TT_mem 227 (by decide +kernel)
theorem wq_X11_39 : (.methodLink RX11 27 yX1_init : Cond) ∈ TT := TT_mem 229 (by decide +kernel)
theorem fi_X11_1 : Fl RX11 30 11 1 := Fl.mk (RX11, TX11, 13) rfl rfl 529 (by decide +kernel) rfl
theorem wn_X9 : (.instantiable RX9 6 : Cond) ∈ TT := TT_mem 256 (by decide +kernel)
theorem wz_X9 : (.initialized RX9 : Cond) ∈ TT := TT_mem 108 (by decide +kernel)
theorem wm_X9 : (.code yX9_init cX9_init 1 none : Cond) ∈ TT := TT_mem 259 (by decide +kernel)
theorem wi_X9 : (.instanceMethod yX9_init : Cond) ∈ TT := TT_mem 258 (by decide +kernel)
theorem df_X9 : ∀ j, j < 6 → defaultValue (tyX9 j) = vp_V [.int 0, .null, .int 0, .null, .null, .null] j := fun j hj => match j, hj with
  | 0, _ => rfl
  | 1, _ => rfl
  | 2, _ => rfl
  | 3, _ => rfl
  | 4, _ => rfl
  | 5, _ => rfl
  | k + 6, h => absurd h (by omega)
theorem wc_X11_46 : (.classLink RX11 34 RX9 : Cond) ∈ TT := TT_mem 255 (by decide +kernel)
theorem fi_X11_3 : Fl RX11 37 11 3 := Fl.mk (RX11, TX11, 13) rfl rfl 531 (by decide +kernel) rfl
theorem wn_X7 : (.instantiable RX7 5 : Cond) ∈ TT := TT_mem 285 (by decide +kernel)
theorem wz_X7 : (.initialized RX7 : Cond) ∈ TT := TT_mem 109 (by decide +kernel)
theorem wm_X7 : (.code yX7_init cX7_init 2 none : Cond) ∈ TT := TT_mem 288 (by decide +kernel)
theorem wi_X7 : (.instanceMethod yX7_init : Cond) ∈ TT := TT_mem 287 (by decide +kernel)
theorem df_X7 : ∀ j, j < 5 → defaultValue (tyX7 j) = vp_V [.null, .int 0, .null, .int 0, .int 0] j := fun j hj => match j, hj with
  | 0, _ => rfl
  | 1, _ => rfl
  | 2, _ => rfl
  | 3, _ => rfl
  | 4, _ => rfl
  | k + 5, h => absurd h (by omega)
theorem wc_X11_57 : (.classLink RX11 41 RX7 : Cond) ∈ TT := TT_mem 284 (by decide +kernel)
theorem wq_X11_65 : (.methodLink RX11 43 yX7_init : Cond) ∈ TT := TT_mem 286 (by decide +kernel)
theorem fi_X11_4 : Fl RX11 46 11 4 := Fl.mk (RX11, TX11, 13) rfl rfl 532 (by decide +kernel) rfl
theorem wn_X4 : (.instantiable RX4 8 : Cond) ∈ TT := TT_mem 310 (by decide +kernel)
theorem wz_X4 : (.initialized RX4 : Cond) ∈ TT := TT_mem 110 (by decide +kernel)
theorem wm_X4 : (.code yX4_init cX4_init 3 none : Cond) ∈ TT := TT_mem 313 (by decide +kernel)
theorem wi_X4 : (.instanceMethod yX4_init : Cond) ∈ TT := TT_mem 312 (by decide +kernel)
theorem df_X4 : ∀ j, j < 8 → defaultValue (tyX4 j) = vp_V [.null, .null, .null, .int 0, .null, .int 0, .null, .null] j := fun j hj => match j, hj with
  | 0, _ => rfl
  | 1, _ => rfl
  | 2, _ => rfl
  | 3, _ => rfl
  | 4, _ => rfl
  | 5, _ => rfl
  | 6, _ => rfl
  | 7, _ => rfl
  | k + 8, h => absurd h (by omega)
theorem wc_X11_72 : (.classLink RX11 50 RX4 : Cond) ∈ TT := TT_mem 309 (by decide +kernel)
theorem wq_X11_84 : (.methodLink RX11 52 yX4_init : Cond) ∈ TT := TT_mem 311 (by decide +kernel)
theorem fi_X11_5 : Fl RX11 55 11 5 := Fl.mk (RX11, TX11, 13) rfl rfl 533 (by decide +kernel) rfl
theorem wn_X8 : (.instantiable RX8 11 : Cond) ∈ TT := TT_mem 350 (by decide +kernel)
theorem wz_X8 : (.initialized RX8 : Cond) ∈ TT := TT_mem 111 (by decide +kernel)
theorem wm_X8 : (.code yX8_init cX8_init 3 none : Cond) ∈ TT := TT_mem 353 (by decide +kernel)
theorem wi_X8 : (.instanceMethod yX8_init : Cond) ∈ TT := TT_mem 352 (by decide +kernel)
theorem df_X8 : ∀ j, j < 11 → defaultValue (tyX8 j) = vp_V [.null, .null, .null, .int 0, .int 0, .null, .null, .null, .null, .int 0, .null] j := fun j hj => match j, hj with
  | 0, _ => rfl
  | 1, _ => rfl
  | 2, _ => rfl
  | 3, _ => rfl
  | 4, _ => rfl
  | 5, _ => rfl
  | 6, _ => rfl
  | 7, _ => rfl
  | 8, _ => rfl
  | 9, _ => rfl
  | 10, _ => rfl
  | k + 11, h => absurd h (by omega)
theorem wc_X11_91 : (.classLink RX11 59 RX8 : Cond) ∈ TT := TT_mem 349 (by decide +kernel)
theorem wq_X11_103 : (.methodLink RX11 61 yX8_init : Cond) ∈ TT := TT_mem 351 (by decide +kernel)
theorem fi_X11_6 : Fl RX11 64 11 6 := Fl.mk (RX11, TX11, 13) rfl rfl 534 (by decide +kernel) rfl
theorem wn_X10 : (.instantiable RX10 8 : Cond) ∈ TT := TT_mem 395 (by decide +kernel)
theorem wz_X10 : (.initialized RX10 : Cond) ∈ TT := TT_mem 112 (by decide +kernel)
theorem wm_X10 : (.code yX10_init cX10_init 4 none : Cond) ∈ TT := TT_mem 398 (by decide +kernel)
theorem wi_X10 : (.instanceMethod yX10_init : Cond) ∈ TT := TT_mem 397 (by decide +kernel)
theorem df_X10 : ∀ j, j < 8 → defaultValue (tyX10 j) = vp_V [.null, .null, .null, .null, .null, .null, .null, .null] j := fun j hj => match j, hj with
  | 0, _ => rfl
  | 1, _ => rfl
  | 2, _ => rfl
  | 3, _ => rfl
  | 4, _ => rfl
  | 5, _ => rfl
  | 6, _ => rfl
  | 7, _ => rfl
  | k + 8, h => absurd h (by omega)
theorem wc_X11_110 : (.classLink RX11 68 RX10 : Cond) ∈ TT := TT_mem 394 (by decide +kernel)
theorem wq_X11_126 : (.methodLink RX11 70 yX10_init : Cond) ∈ TT := TT_mem 396 (by decide +kernel)
theorem fi_X11_7 : Fl RX11 73 11 7 := Fl.mk (RX11, TX11, 13) rfl rfl 535 (by decide +kernel) rfl
theorem wn_X3 : (.instantiable RX3 4 : Cond) ∈ TT := TT_mem 430 (by decide +kernel)
theorem wz_X3 : (.initialized RX3 : Cond) ∈ TT := TT_mem 113 (by decide +kernel)
theorem wm_X3 : (.code yX3_init cX3_init 4 none : Cond) ∈ TT := TT_mem 433 (by decide +kernel)
theorem wi_X3 : (.instanceMethod yX3_init : Cond) ∈ TT := TT_mem 432 (by decide +kernel)
theorem df_X3 : ∀ j, j < 4 → defaultValue (tyX3 j) = vp_V [.null, .null, .null, .null] j := fun j hj => match j, hj with
  | 0, _ => rfl
  | 1, _ => rfl
  | 2, _ => rfl
  | 3, _ => rfl
  | k + 4, h => absurd h (by omega)
theorem wc_X11_133 : (.classLink RX11 77 RX3 : Cond) ∈ TT := TT_mem 429 (by decide +kernel)
theorem wq_X11_149 : (.methodLink RX11 79 yX3_init : Cond) ∈ TT := TT_mem 431 (by decide +kernel)
theorem fi_X11_8 : Fl RX11 82 11 8 := Fl.mk (RX11, TX11, 13) rfl rfl 536 (by decide +kernel) rfl
theorem wn_X2 : (.instantiable RX2 5 : Cond) ∈ TT := TT_mem 450 (by decide +kernel)
theorem wz_X2 : (.initialized RX2 : Cond) ∈ TT := TT_mem 114 (by decide +kernel)
theorem wm_X2 : (.code yX2_init cX2_init 4 none : Cond) ∈ TT := TT_mem 453 (by decide +kernel)
theorem wi_X2 : (.instanceMethod yX2_init : Cond) ∈ TT := TT_mem 452 (by decide +kernel)
theorem df_X2 : ∀ j, j < 5 → defaultValue (tyX2 j) = vp_V [.null, .null, .null, .int 0, .null] j := fun j hj => match j, hj with
  | 0, _ => rfl
  | 1, _ => rfl
  | 2, _ => rfl
  | 3, _ => rfl
  | 4, _ => rfl
  | k + 5, h => absurd h (by omega)
theorem wc_X11_156 : (.classLink RX11 86 RX2 : Cond) ∈ TT := TT_mem 449 (by decide +kernel)
theorem wq_X11_172 : (.methodLink RX11 88 yX2_init : Cond) ∈ TT := TT_mem 451 (by decide +kernel)
theorem fi_X11_9 : Fl RX11 89 11 9 := Fl.mk (RX11, TX11, 13) rfl rfl 537 (by decide +kernel) rfl
theorem wn_X5 : (.instantiable RX5 10 : Cond) ∈ TT := TT_mem 474 (by decide +kernel)
theorem wz_X5 : (.initialized RX5 : Cond) ∈ TT := TT_mem 115 (by decide +kernel)
theorem wm_X5 : (.code yX5_init cX5_init 3 none : Cond) ∈ TT := TT_mem 477 (by decide +kernel)
theorem wi_X5 : (.instanceMethod yX5_init : Cond) ∈ TT := TT_mem 476 (by decide +kernel)
theorem df_X5 : ∀ j, j < 10 → defaultValue (tyX5 j) = vp_V [.int 0, .int 0, .int 0, .null, .int 0, .int 0, .null, .null, .int 0, .null] j := fun j hj => match j, hj with
  | 0, _ => rfl
  | 1, _ => rfl
  | 2, _ => rfl
  | 3, _ => rfl
  | 4, _ => rfl
  | 5, _ => rfl
  | 6, _ => rfl
  | 7, _ => rfl
  | 8, _ => rfl
  | 9, _ => rfl
  | k + 10, h => absurd h (by omega)
theorem wc_X11_179 : (.classLink RX11 93 RX5 : Cond) ∈ TT := TT_mem 473 (by decide +kernel)
theorem wq_X11_185 : (.methodLink RX11 95 yX5_init : Cond) ∈ TT := TT_mem 475 (by decide +kernel)
theorem fi_X11_10 : Fl RX11 98 11 10 := Fl.mk (RX11, TX11, 13) rfl rfl 538 (by decide +kernel) rfl
theorem fi_X11_12 : Fl RX11 102 11 12 := Fl.mk (RX11, TX11, 13) rfl rfl 540 (by decide +kernel) rfl
abbrev rI_X11 : Room := { frames := 2, cells := 52, slots := 6026, locals := 60 }
abbrev fsX (sz : Nat) : List Value := [.ref (sz + 0), .ref (sz + 8), .ref (sz + 6), .ref (sz + 10), .ref (sz + 15), .ref (sz + 17), .ref (sz + 22), .ref (sz + 37), .ref (sz + 43), .ref (sz + 45), .ref (sz + 47), .int 0, .int (-1)]
abbrev EsX (G : Gx) (sz : Nat) : List va_E := [.inr (6, [.int 0, .int 4, .int 0, .ref (sz + 1), .ref (sz + 2), .ref (sz + 3), .ref (sz + 4), .ref (sz + 5)]), aI G 10, aI G 10, aI G 10, aI G 10, aI G 10, .inr (0, [.ref (sz + 0), .int 0, .int 0, .ref (sz + 7), .int 0, .int 0, .int 0, .int 0, .int 0, .int 0, .int 0]), aI G 64, .inr (1, [.ref (sz + 6), .ref (sz + 9), .int 0]), aP G 8, .inr (9, [.int 0, .ref (sz + 11), .int 0, .ref (sz + 12), .ref (sz + 13), .ref (sz + 14)]), aI G 400, aI G 401, aI G 401, aI G 401, .inr (7, [.ref (sz + 10), .int 0, .ref (sz + 16), .int 0, .int (-1)]), aI G 400, .inr (4, [.ref (sz + 0), .ref (sz + 8), .ref (sz + 18), .int 5, .ref (sz + 19), .int 0, .ref (sz + 20), .ref (sz + 21)]), aI G 10, aI G 10, aI G 32, aI G 32, .inr (8, [.ref (sz + 0), .ref (sz + 17), .ref (sz + 23), .int 0, .int 0, .ref (sz + 24), .ref (sz + 25), .ref (sz + 26), .ref (sz + 27), .int 0, .ref (sz + 28)]), aI G 10, aI G 10, aI G 10, aI G 10, aI G 10, aG G (sz + 29), aI G 10, aI G 10, aI G 10, aI G 10, aI G 10, aI G 10, aI G 10, aI G 10, .inr (10, [.ref (sz + 0), .ref (sz + 8), .ref (sz + 17), .ref (sz + 38), .ref (sz + 39), .ref (sz + 40), .ref (sz + 41), .ref (sz + 42)]), aI G 8, aI G 10, aI G 10, aI G 8, aI G 80, .inr (3, [.ref (sz + 0), .ref (sz + 8), .ref (sz + 37), .ref (sz + 44)]), aI G 4, .inr (2, [.ref (sz + 0), .ref (sz + 8), .ref (sz + 37), .int 0, .ref (sz + 46)]), aI G 8, .inr (5, [.int 0, .int 0, .int 0, .ref (sz + 48), .int 0, .int 0, .ref (sz + 49), .ref (sz + 50), .int 0, .ref (sz + 51)]), aI G 400, aI G 1024, aB G 1024, aI G 1024]
set_option maxRecDepth 100000 in
set_option maxHeartbeats 4000000 in
theorem ic_X11 (l : Launch) (G : Gx) (h0 sz : Nat) : Ic l G.1 (tyA G) I_X11 rI_X11 [] h0 11 sz [.null, .null, .null, .null, .null, .null, .null, .null, .null, .null, .null, .int 0, .int 0] (fsX sz) (EsX G sz) := by
  refine Ic.of (by decide) rfl (Nat.le_of_ble_eq_true rfl) (fun p e s m args below meth c lsA F ex hi w hl => ?_)
  have hl : lv_has lsA 1 [(0, .ref h0)] := hl
  have hb0 : h0 < sz := by
    have h1 : h0 < s.heap.size := (w.2.1 0 _ rfl).lt
    rw [w.2.2.2.2.2] at h1; exact h1
  have hb : ∀ (v : va_E), ∀ q ∈ [(h0, v)], q.1 < sz := fun v q hq => by rw [List.mem_singleton.mp hq]; exact hb0
  refine lv_aload_n F.1 F.2.1 di_X11_0 rfl (lv_at hl 0 rfl) ?_
  refine W.objInit F.1 F.2.1 F.2.2.2.2.2.1 (F.2.2.2.2.2.2 _ wl_X11) (F.2.2.2.2.2.2 _ wo_i) (F.2.2.2.2.2.2 _ wo_c) rfl (by rw [F.2.2.1]; exact hl.1) rfl di_X11_1 (Nat.le_of_ble_eq_true rfl) (Nat.le_of_ble_eq_true rfl) ?_
  refine W.eq (g2 := F0 m 4 lsA []) rfl ?_
  refine lv_aload_n F.1 F.2.1 di_X11_4 rfl (lv_at hl 0 rfl) ?_
  refine i_newc F inT_6 tyX6 tyX6_ok wc_X11_5 wn_X6 wz_X6 w (ci := 6) rfl (fs := [.int 0, .int 0, .int 0, .null, .null, .null, .null, .null]) df_X6 rfl (Nat.le_of_ble_eq_true rfl) (Nat.le_of_ble_eq_true rfl) di_X11_5 (fun H w => ?_)
  have w : Wi G.1 (tyA G) [(h0, .inr (11, [.null, .null, .null, .null, .null, .null, .null, .null, .null, .null, .null, .int 0, .int 0]))] sz [.inr (6, [.int 0, .int 0, .int 0, .null, .null, .null, .null, .null])] (frI h0 sz) s H [] := w
  refine lv_dup F.1 F.2.1 di_X11_8 rfl ?_
  refine i_call (index := 0) (k := 0) (Es := []) (rest := [.ref (sz + 0), .ref h0]) (as := []) F ex hl.1 (ic_X6 l G _ _ ) wm_X6 rfl (fun hS hp => va_runIN (As := []) hS (ic_X6 l G _ _ ) ⟨va_cnB 0 hS.2.2.2.2 (GoodIn_M wm_X6) rfl rfl rfl ex.2.2.1 (hS.2.2.2.2 _ wz_X6) (by decide +kernel) ⟨Nat.le_of_ble_eq_true rfl, Nat.le_of_ble_eq_true rfl⟩, rfl, hS.2.2.2.2 _ wi_X6⟩ hp rfl rfl hl.1 rfl (lv_room (Nat.le_of_ble_eq_true rfl)) di_X11_9 ⟨Nat.le_of_ble_eq_true rfl, Nat.le_of_ble_eq_true rfl⟩) w (hb _) rfl (fun H locs w => ?_)
  have w : Wi G.1 (tyA G) [(h0, .inr (11, [.null, .null, .null, .null, .null, .null, .null, .null, .null, .null, .null, .int 0, .int 0]))] sz [.inr (6, [.int 0, .int 4, .int 0, .ref (sz + 1), .ref (sz + 2), .ref (sz + 3), .ref (sz + 4), .ref (sz + 5)]), aI G 10, aI G 10, aI G 10, aI G 10, aI G 10] (frI h0 sz) s H locs := w
  refine i_put F inT_11 tyX11 tyX11_ok nmX11 rfl fi_X11_0 hi rfl w (ty := tyX11 0) (v := .ref (sz + 0)) (tyX11_ok 0 (by decide)) rfl rfl (Nat.blt_eq.mp rfl) di_X11_12 (fun H locs w => ?_)
  have w : Wi G.1 (tyA G) [(h0, .inr (11, [.ref (sz + 0), .null, .null, .null, .null, .null, .null, .null, .null, .null, .null, .int 0, .int 0]))] sz [.inr (6, [.int 0, .int 4, .int 0, .ref (sz + 1), .ref (sz + 2), .ref (sz + 3), .ref (sz + 4), .ref (sz + 5)]), aI G 10, aI G 10, aI G 10, aI G 10, aI G 10] (frI h0 sz) s H locs := w
  refine lv_aload_n F.1 F.2.1 di_X11_15 rfl (lv_at hl 0 rfl) ?_
  refine i_newc F inT_0 tyX0 tyX0_ok wc_X11_16 wn_X0 wz_X0 w (ci := 0) rfl (fs := [.null, .int 0, .int 0, .null, .int 0, .int 0, .int 0, .int 0, .int 0, .int 0, .int 0]) df_X0 rfl (Nat.le_of_ble_eq_true rfl) (Nat.le_of_ble_eq_true rfl) di_X11_16 (fun H w => ?_)
  have w : Wi G.1 (tyA G) [(h0, .inr (11, [.ref (sz + 0), .null, .null, .null, .null, .null, .null, .null, .null, .null, .null, .int 0, .int 0]))] sz [.inr (6, [.int 0, .int 4, .int 0, .ref (sz + 1), .ref (sz + 2), .ref (sz + 3), .ref (sz + 4), .ref (sz + 5)]), aI G 10, aI G 10, aI G 10, aI G 10, aI G 10, .inr (0, [.null, .int 0, .int 0, .null, .int 0, .int 0, .int 0, .int 0, .int 0, .int 0, .int 0])] (frI h0 sz) s H locs := w
  refine lv_dup F.1 F.2.1 di_X11_19 rfl ?_
  refine lv_aload_n F.1 F.2.1 di_X11_20 rfl (lv_at hl 0 rfl) ?_
  refine i_get F inT_11 rfl fi_X11_0 w rfl di_X11_21 ?_
  refine i_call (index := 0) (k := 0) (Es := [.inr (6, [.int 0, .int 4, .int 0, .ref (sz + 1), .ref (sz + 2), .ref (sz + 3), .ref (sz + 4), .ref (sz + 5)]), aI G 10, aI G 10, aI G 10, aI G 10, aI G 10]) (rest := [.ref (sz + 6), .ref h0]) (as := [.ref (sz + 0)]) F ex hl.1 (ic_X0 l G _ _ (sz + 0)) wm_X0 rfl (fun hS hp => va_runI (As := [.ref (sz + 0)]) hS (ic_X0 l G _ _ (sz + 0)) (cwI 1 hS.2.2.2.2 (GoodIn_M wm_X0) rfl rfl rfl (hS.2.2.2.2 _ wz_X0) (hS.2.2.2.2 _ wq_X11_24) (hS.2.2.2.2 _ wi_X0) rfl (by decide +kernel) ⟨Nat.le_of_ble_eq_true rfl, Nat.le_of_ble_eq_true rfl⟩) hp rfl rfl hl.1 rfl (lv_room (Nat.le_of_ble_eq_true rfl)) di_X11_24 ⟨Nat.le_of_ble_eq_true rfl, Nat.le_of_ble_eq_true rfl⟩) w (hb _) rfl (fun H locs w => ?_)
  have w : Wi G.1 (tyA G) [(h0, .inr (11, [.ref (sz + 0), .null, .null, .null, .null, .null, .null, .null, .null, .null, .null, .int 0, .int 0]))] sz [.inr (6, [.int 0, .int 4, .int 0, .ref (sz + 1), .ref (sz + 2), .ref (sz + 3), .ref (sz + 4), .ref (sz + 5)]), aI G 10, aI G 10, aI G 10, aI G 10, aI G 10, .inr (0, [.ref (sz + 0), .int 0, .int 0, .ref (sz + 7), .int 0, .int 0, .int 0, .int 0, .int 0, .int 0, .int 0]), aI G 64] (frI h0 sz) s H locs := w
  refine i_put F inT_11 tyX11 tyX11_ok nmX11 rfl fi_X11_2 hi rfl w (ty := tyX11 2) (v := .ref (sz + 6)) (tyX11_ok 2 (by decide)) rfl rfl (Nat.blt_eq.mp rfl) di_X11_27 (fun H locs w => ?_)
  have w : Wi G.1 (tyA G) [(h0, .inr (11, [.ref (sz + 0), .null, .ref (sz + 6), .null, .null, .null, .null, .null, .null, .null, .null, .int 0, .int 0]))] sz [.inr (6, [.int 0, .int 4, .int 0, .ref (sz + 1), .ref (sz + 2), .ref (sz + 3), .ref (sz + 4), .ref (sz + 5)]), aI G 10, aI G 10, aI G 10, aI G 10, aI G 10, .inr (0, [.ref (sz + 0), .int 0, .int 0, .ref (sz + 7), .int 0, .int 0, .int 0, .int 0, .int 0, .int 0, .int 0]), aI G 64] (frI h0 sz) s H locs := w
  refine lv_aload_n F.1 F.2.1 di_X11_30 rfl (lv_at hl 0 rfl) ?_
  refine i_newc F inT_1 tyX1 tyX1_ok wc_X11_31 wn_X1 wz_X1 w (ci := 1) rfl (fs := [.null, .null, .int 0]) df_X1 rfl (Nat.le_of_ble_eq_true rfl) (Nat.le_of_ble_eq_true rfl) di_X11_31 (fun H w => ?_)
  have w : Wi G.1 (tyA G) [(h0, .inr (11, [.ref (sz + 0), .null, .ref (sz + 6), .null, .null, .null, .null, .null, .null, .null, .null, .int 0, .int 0]))] sz [.inr (6, [.int 0, .int 4, .int 0, .ref (sz + 1), .ref (sz + 2), .ref (sz + 3), .ref (sz + 4), .ref (sz + 5)]), aI G 10, aI G 10, aI G 10, aI G 10, aI G 10, .inr (0, [.ref (sz + 0), .int 0, .int 0, .ref (sz + 7), .int 0, .int 0, .int 0, .int 0, .int 0, .int 0, .int 0]), aI G 64, .inr (1, [.null, .null, .int 0])] (frI h0 sz) s H locs := w
  refine lv_dup F.1 F.2.1 di_X11_34 rfl ?_
  refine lv_aload_n F.1 F.2.1 di_X11_35 rfl (lv_at hl 0 rfl) ?_
  refine i_get F inT_11 rfl fi_X11_2 w rfl di_X11_36 ?_
  refine i_call (index := 0) (k := 0) (Es := [.inr (6, [.int 0, .int 4, .int 0, .ref (sz + 1), .ref (sz + 2), .ref (sz + 3), .ref (sz + 4), .ref (sz + 5)]), aI G 10, aI G 10, aI G 10, aI G 10, aI G 10, .inr (0, [.ref (sz + 0), .int 0, .int 0, .ref (sz + 7), .int 0, .int 0, .int 0, .int 0, .int 0, .int 0, .int 0]), aI G 64]) (rest := [.ref (sz + 8), .ref h0]) (as := [.ref (sz + 6)]) F ex hl.1 (ic_X1 l G _ _ (sz + 6)) wm_X1 rfl (fun hS hp => va_runI (As := [.ref (sz + 6)]) hS (ic_X1 l G _ _ (sz + 6)) (cwI 1 hS.2.2.2.2 (GoodIn_M wm_X1) rfl rfl rfl (hS.2.2.2.2 _ wz_X1) (hS.2.2.2.2 _ wq_X11_39) (hS.2.2.2.2 _ wi_X1) rfl (by decide +kernel) ⟨Nat.le_of_ble_eq_true rfl, Nat.le_of_ble_eq_true rfl⟩) hp rfl rfl hl.1 rfl (lv_room (Nat.le_of_ble_eq_true rfl)) di_X11_39 ⟨Nat.le_of_ble_eq_true rfl, Nat.le_of_ble_eq_true rfl⟩) w (hb _) rfl (fun H locs w => ?_)
  have w : Wi G.1 (tyA G) [(h0, .inr (11, [.ref (sz + 0), .null, .ref (sz + 6), .null, .null, .null, .null, .null, .null, .null, .null, .int 0, .int 0]))] sz [.inr (6, [.int 0, .int 4, .int 0, .ref (sz + 1), .ref (sz + 2), .ref (sz + 3), .ref (sz + 4), .ref (sz + 5)]), aI G 10, aI G 10, aI G 10, aI G 10, aI G 10, .inr (0, [.ref (sz + 0), .int 0, .int 0, .ref (sz + 7), .int 0, .int 0, .int 0, .int 0, .int 0, .int 0, .int 0]), aI G 64, .inr (1, [.ref (sz + 6), .ref (sz + 9), .int 0]), aP G 8] (frI h0 sz) s H locs := w
  refine i_put F inT_11 tyX11 tyX11_ok nmX11 rfl fi_X11_1 hi rfl w (ty := tyX11 1) (v := .ref (sz + 8)) (tyX11_ok 1 (by decide)) rfl rfl (Nat.blt_eq.mp rfl) di_X11_42 (fun H locs w => ?_)
  have w : Wi G.1 (tyA G) [(h0, .inr (11, [.ref (sz + 0), .ref (sz + 8), .ref (sz + 6), .null, .null, .null, .null, .null, .null, .null, .null, .int 0, .int 0]))] sz [.inr (6, [.int 0, .int 4, .int 0, .ref (sz + 1), .ref (sz + 2), .ref (sz + 3), .ref (sz + 4), .ref (sz + 5)]), aI G 10, aI G 10, aI G 10, aI G 10, aI G 10, .inr (0, [.ref (sz + 0), .int 0, .int 0, .ref (sz + 7), .int 0, .int 0, .int 0, .int 0, .int 0, .int 0, .int 0]), aI G 64, .inr (1, [.ref (sz + 6), .ref (sz + 9), .int 0]), aP G 8] (frI h0 sz) s H locs := w
  refine lv_aload_n F.1 F.2.1 di_X11_45 rfl (lv_at hl 0 rfl) ?_
  refine i_newc F inT_9 tyX9 tyX9_ok wc_X11_46 wn_X9 wz_X9 w (ci := 9) rfl (fs := [.int 0, .null, .int 0, .null, .null, .null]) df_X9 rfl (Nat.le_of_ble_eq_true rfl) (Nat.le_of_ble_eq_true rfl) di_X11_46 (fun H w => ?_)
  have w : Wi G.1 (tyA G) [(h0, .inr (11, [.ref (sz + 0), .ref (sz + 8), .ref (sz + 6), .null, .null, .null, .null, .null, .null, .null, .null, .int 0, .int 0]))] sz [.inr (6, [.int 0, .int 4, .int 0, .ref (sz + 1), .ref (sz + 2), .ref (sz + 3), .ref (sz + 4), .ref (sz + 5)]), aI G 10, aI G 10, aI G 10, aI G 10, aI G 10, .inr (0, [.ref (sz + 0), .int 0, .int 0, .ref (sz + 7), .int 0, .int 0, .int 0, .int 0, .int 0, .int 0, .int 0]), aI G 64, .inr (1, [.ref (sz + 6), .ref (sz + 9), .int 0]), aP G 8, .inr (9, [.int 0, .null, .int 0, .null, .null, .null])] (frI h0 sz) s H locs := w
  refine lv_dup F.1 F.2.1 di_X11_49 rfl ?_
  refine i_call (index := 0) (k := 0) (Es := [.inr (6, [.int 0, .int 4, .int 0, .ref (sz + 1), .ref (sz + 2), .ref (sz + 3), .ref (sz + 4), .ref (sz + 5)]), aI G 10, aI G 10, aI G 10, aI G 10, aI G 10, .inr (0, [.ref (sz + 0), .int 0, .int 0, .ref (sz + 7), .int 0, .int 0, .int 0, .int 0, .int 0, .int 0, .int 0]), aI G 64, .inr (1, [.ref (sz + 6), .ref (sz + 9), .int 0]), aP G 8]) (rest := [.ref (sz + 10), .ref h0]) (as := []) F ex hl.1 (ic_X9 l G _ _ ) wm_X9 rfl (fun hS hp => va_runIN (As := []) hS (ic_X9 l G _ _ ) ⟨va_cnB 0 hS.2.2.2.2 (GoodIn_M wm_X9) rfl rfl rfl ex.2.2.2 (hS.2.2.2.2 _ wz_X9) (by decide +kernel) ⟨Nat.le_of_ble_eq_true rfl, Nat.le_of_ble_eq_true rfl⟩, rfl, hS.2.2.2.2 _ wi_X9⟩ hp rfl rfl hl.1 rfl (lv_room (Nat.le_of_ble_eq_true rfl)) di_X11_50 ⟨Nat.le_of_ble_eq_true rfl, Nat.le_of_ble_eq_true rfl⟩) w (hb _) rfl (fun H locs w => ?_)
  have w : Wi G.1 (tyA G) [(h0, .inr (11, [.ref (sz + 0), .ref (sz + 8), .ref (sz + 6), .null, .null, .null, .null, .null, .null, .null, .null, .int 0, .int 0]))] sz [.inr (6, [.int 0, .int 4, .int 0, .ref (sz + 1), .ref (sz + 2), .ref (sz + 3), .ref (sz + 4), .ref (sz + 5)]), aI G 10, aI G 10, aI G 10, aI G 10, aI G 10, .inr (0, [.ref (sz + 0), .int 0, .int 0, .ref (sz + 7), .int 0, .int 0, .int 0, .int 0, .int 0, .int 0, .int 0]), aI G 64, .inr (1, [.ref (sz + 6), .ref (sz + 9), .int 0]), aP G 8, .inr (9, [.int 0, .ref (sz + 11), .int 0, .ref (sz + 12), .ref (sz + 13), .ref (sz + 14)]), aI G 400, aI G 401, aI G 401, aI G 401] (frI h0 sz) s H locs := w
  refine i_put F inT_11 tyX11 tyX11_ok nmX11 rfl fi_X11_3 hi rfl w (ty := tyX11 3) (v := .ref (sz + 10)) (tyX11_ok 3 (by decide)) rfl rfl (Nat.blt_eq.mp rfl) di_X11_53 (fun H locs w => ?_)
  have w : Wi G.1 (tyA G) [(h0, .inr (11, [.ref (sz + 0), .ref (sz + 8), .ref (sz + 6), .ref (sz + 10), .null, .null, .null, .null, .null, .null, .null, .int 0, .int 0]))] sz [.inr (6, [.int 0, .int 4, .int 0, .ref (sz + 1), .ref (sz + 2), .ref (sz + 3), .ref (sz + 4), .ref (sz + 5)]), aI G 10, aI G 10, aI G 10, aI G 10, aI G 10, .inr (0, [.ref (sz + 0), .int 0, .int 0, .ref (sz + 7), .int 0, .int 0, .int 0, .int 0, .int 0, .int 0, .int 0]), aI G 64, .inr (1, [.ref (sz + 6), .ref (sz + 9), .int 0]), aP G 8, .inr (9, [.int 0, .ref (sz + 11), .int 0, .ref (sz + 12), .ref (sz + 13), .ref (sz + 14)]), aI G 400, aI G 401, aI G 401, aI G 401] (frI h0 sz) s H locs := w
  refine lv_aload_n F.1 F.2.1 di_X11_56 rfl (lv_at hl 0 rfl) ?_
  refine i_newc F inT_7 tyX7 tyX7_ok wc_X11_57 wn_X7 wz_X7 w (ci := 7) rfl (fs := [.null, .int 0, .null, .int 0, .int 0]) df_X7 rfl (Nat.le_of_ble_eq_true rfl) (Nat.le_of_ble_eq_true rfl) di_X11_57 (fun H w => ?_)
  have w : Wi G.1 (tyA G) [(h0, .inr (11, [.ref (sz + 0), .ref (sz + 8), .ref (sz + 6), .ref (sz + 10), .null, .null, .null, .null, .null, .null, .null, .int 0, .int 0]))] sz [.inr (6, [.int 0, .int 4, .int 0, .ref (sz + 1), .ref (sz + 2), .ref (sz + 3), .ref (sz + 4), .ref (sz + 5)]), aI G 10, aI G 10, aI G 10, aI G 10, aI G 10, .inr (0, [.ref (sz + 0), .int 0, .int 0, .ref (sz + 7), .int 0, .int 0, .int 0, .int 0, .int 0, .int 0, .int 0]), aI G 64, .inr (1, [.ref (sz + 6), .ref (sz + 9), .int 0]), aP G 8, .inr (9, [.int 0, .ref (sz + 11), .int 0, .ref (sz + 12), .ref (sz + 13), .ref (sz + 14)]), aI G 400, aI G 401, aI G 401, aI G 401, .inr (7, [.null, .int 0, .null, .int 0, .int 0])] (frI h0 sz) s H locs := w
  refine lv_dup F.1 F.2.1 di_X11_60 rfl ?_
  refine lv_aload_n F.1 F.2.1 di_X11_61 rfl (lv_at hl 0 rfl) ?_
  refine i_get F inT_11 rfl fi_X11_3 w rfl di_X11_62 ?_
  refine i_call (index := 0) (k := 0) (Es := [.inr (6, [.int 0, .int 4, .int 0, .ref (sz + 1), .ref (sz + 2), .ref (sz + 3), .ref (sz + 4), .ref (sz + 5)]), aI G 10, aI G 10, aI G 10, aI G 10, aI G 10, .inr (0, [.ref (sz + 0), .int 0, .int 0, .ref (sz + 7), .int 0, .int 0, .int 0, .int 0, .int 0, .int 0, .int 0]), aI G 64, .inr (1, [.ref (sz + 6), .ref (sz + 9), .int 0]), aP G 8, .inr (9, [.int 0, .ref (sz + 11), .int 0, .ref (sz + 12), .ref (sz + 13), .ref (sz + 14)]), aI G 400, aI G 401, aI G 401, aI G 401]) (rest := [.ref (sz + 15), .ref h0]) (as := [.ref (sz + 10)]) F ex hl.1 (ic_X7 l G _ _ (sz + 10)) wm_X7 rfl (fun hS hp => va_runI (As := [.ref (sz + 10)]) hS (ic_X7 l G _ _ (sz + 10)) (cwI 1 hS.2.2.2.2 (GoodIn_M wm_X7) rfl rfl rfl (hS.2.2.2.2 _ wz_X7) (hS.2.2.2.2 _ wq_X11_65) (hS.2.2.2.2 _ wi_X7) rfl (by decide +kernel) ⟨Nat.le_of_ble_eq_true rfl, Nat.le_of_ble_eq_true rfl⟩) hp rfl rfl hl.1 rfl (lv_room (Nat.le_of_ble_eq_true rfl)) di_X11_65 ⟨Nat.le_of_ble_eq_true rfl, Nat.le_of_ble_eq_true rfl⟩) w (hb _) rfl (fun H locs w => ?_)
  have w : Wi G.1 (tyA G) [(h0, .inr (11, [.ref (sz + 0), .ref (sz + 8), .ref (sz + 6), .ref (sz + 10), .null, .null, .null, .null, .null, .null, .null, .int 0, .int 0]))] sz [.inr (6, [.int 0, .int 4, .int 0, .ref (sz + 1), .ref (sz + 2), .ref (sz + 3), .ref (sz + 4), .ref (sz + 5)]), aI G 10, aI G 10, aI G 10, aI G 10, aI G 10, .inr (0, [.ref (sz + 0), .int 0, .int 0, .ref (sz + 7), .int 0, .int 0, .int 0, .int 0, .int 0, .int 0, .int 0]), aI G 64, .inr (1, [.ref (sz + 6), .ref (sz + 9), .int 0]), aP G 8, .inr (9, [.int 0, .ref (sz + 11), .int 0, .ref (sz + 12), .ref (sz + 13), .ref (sz + 14)]), aI G 400, aI G 401, aI G 401, aI G 401, .inr (7, [.ref (sz + 10), .int 0, .ref (sz + 16), .int 0, .int (-1)]), aI G 400] (frI h0 sz) s H locs := w
  refine i_put F inT_11 tyX11 tyX11_ok nmX11 rfl fi_X11_4 hi rfl w (ty := tyX11 4) (v := .ref (sz + 15)) (tyX11_ok 4 (by decide)) rfl rfl (Nat.blt_eq.mp rfl) di_X11_68 (fun H locs w => ?_)
  have w : Wi G.1 (tyA G) [(h0, .inr (11, [.ref (sz + 0), .ref (sz + 8), .ref (sz + 6), .ref (sz + 10), .ref (sz + 15), .null, .null, .null, .null, .null, .null, .int 0, .int 0]))] sz [.inr (6, [.int 0, .int 4, .int 0, .ref (sz + 1), .ref (sz + 2), .ref (sz + 3), .ref (sz + 4), .ref (sz + 5)]), aI G 10, aI G 10, aI G 10, aI G 10, aI G 10, .inr (0, [.ref (sz + 0), .int 0, .int 0, .ref (sz + 7), .int 0, .int 0, .int 0, .int 0, .int 0, .int 0, .int 0]), aI G 64, .inr (1, [.ref (sz + 6), .ref (sz + 9), .int 0]), aP G 8, .inr (9, [.int 0, .ref (sz + 11), .int 0, .ref (sz + 12), .ref (sz + 13), .ref (sz + 14)]), aI G 400, aI G 401, aI G 401, aI G 401, .inr (7, [.ref (sz + 10), .int 0, .ref (sz + 16), .int 0, .int (-1)]), aI G 400] (frI h0 sz) s H locs := w
  refine lv_aload_n F.1 F.2.1 di_X11_71 rfl (lv_at hl 0 rfl) ?_
  refine i_newc F inT_4 tyX4 tyX4_ok wc_X11_72 wn_X4 wz_X4 w (ci := 4) rfl (fs := [.null, .null, .null, .int 0, .null, .int 0, .null, .null]) df_X4 rfl (Nat.le_of_ble_eq_true rfl) (Nat.le_of_ble_eq_true rfl) di_X11_72 (fun H w => ?_)
  have w : Wi G.1 (tyA G) [(h0, .inr (11, [.ref (sz + 0), .ref (sz + 8), .ref (sz + 6), .ref (sz + 10), .ref (sz + 15), .null, .null, .null, .null, .null, .null, .int 0, .int 0]))] sz [.inr (6, [.int 0, .int 4, .int 0, .ref (sz + 1), .ref (sz + 2), .ref (sz + 3), .ref (sz + 4), .ref (sz + 5)]), aI G 10, aI G 10, aI G 10, aI G 10, aI G 10, .inr (0, [.ref (sz + 0), .int 0, .int 0, .ref (sz + 7), .int 0, .int 0, .int 0, .int 0, .int 0, .int 0, .int 0]), aI G 64, .inr (1, [.ref (sz + 6), .ref (sz + 9), .int 0]), aP G 8, .inr (9, [.int 0, .ref (sz + 11), .int 0, .ref (sz + 12), .ref (sz + 13), .ref (sz + 14)]), aI G 400, aI G 401, aI G 401, aI G 401, .inr (7, [.ref (sz + 10), .int 0, .ref (sz + 16), .int 0, .int (-1)]), aI G 400, .inr (4, [.null, .null, .null, .int 0, .null, .int 0, .null, .null])] (frI h0 sz) s H locs := w
  refine lv_dup F.1 F.2.1 di_X11_75 rfl ?_
  refine lv_aload_n F.1 F.2.1 di_X11_76 rfl (lv_at hl 0 rfl) ?_
  refine i_get F inT_11 rfl fi_X11_0 w rfl di_X11_77 ?_
  refine lv_aload_n F.1 F.2.1 di_X11_80 rfl (lv_at hl 0 rfl) ?_
  refine i_get F inT_11 rfl fi_X11_1 w rfl di_X11_81 ?_
  refine i_call (index := 0) (k := 0) (Es := [.inr (6, [.int 0, .int 4, .int 0, .ref (sz + 1), .ref (sz + 2), .ref (sz + 3), .ref (sz + 4), .ref (sz + 5)]), aI G 10, aI G 10, aI G 10, aI G 10, aI G 10, .inr (0, [.ref (sz + 0), .int 0, .int 0, .ref (sz + 7), .int 0, .int 0, .int 0, .int 0, .int 0, .int 0, .int 0]), aI G 64, .inr (1, [.ref (sz + 6), .ref (sz + 9), .int 0]), aP G 8, .inr (9, [.int 0, .ref (sz + 11), .int 0, .ref (sz + 12), .ref (sz + 13), .ref (sz + 14)]), aI G 400, aI G 401, aI G 401, aI G 401, .inr (7, [.ref (sz + 10), .int 0, .ref (sz + 16), .int 0, .int (-1)]), aI G 400]) (rest := [.ref (sz + 17), .ref h0]) (as := [.ref (sz + 0), .ref (sz + 8)]) F ex hl.1 (ic_X4 l G _ _ (sz + 0) (sz + 8)) wm_X4 rfl (fun hS hp => va_runI (As := [.ref (sz + 0), .ref (sz + 8)]) hS (ic_X4 l G _ _ (sz + 0) (sz + 8)) (cwI 2 hS.2.2.2.2 (GoodIn_M wm_X4) rfl rfl rfl (hS.2.2.2.2 _ wz_X4) (hS.2.2.2.2 _ wq_X11_84) (hS.2.2.2.2 _ wi_X4) rfl (by decide +kernel) ⟨Nat.le_of_ble_eq_true rfl, Nat.le_of_ble_eq_true rfl⟩) hp rfl rfl hl.1 rfl (lv_room (Nat.le_of_ble_eq_true rfl)) di_X11_84 ⟨Nat.le_of_ble_eq_true rfl, Nat.le_of_ble_eq_true rfl⟩) w (hb _) rfl (fun H locs w => ?_)
  have w : Wi G.1 (tyA G) [(h0, .inr (11, [.ref (sz + 0), .ref (sz + 8), .ref (sz + 6), .ref (sz + 10), .ref (sz + 15), .null, .null, .null, .null, .null, .null, .int 0, .int 0]))] sz [.inr (6, [.int 0, .int 4, .int 0, .ref (sz + 1), .ref (sz + 2), .ref (sz + 3), .ref (sz + 4), .ref (sz + 5)]), aI G 10, aI G 10, aI G 10, aI G 10, aI G 10, .inr (0, [.ref (sz + 0), .int 0, .int 0, .ref (sz + 7), .int 0, .int 0, .int 0, .int 0, .int 0, .int 0, .int 0]), aI G 64, .inr (1, [.ref (sz + 6), .ref (sz + 9), .int 0]), aP G 8, .inr (9, [.int 0, .ref (sz + 11), .int 0, .ref (sz + 12), .ref (sz + 13), .ref (sz + 14)]), aI G 400, aI G 401, aI G 401, aI G 401, .inr (7, [.ref (sz + 10), .int 0, .ref (sz + 16), .int 0, .int (-1)]), aI G 400, .inr (4, [.ref (sz + 0), .ref (sz + 8), .ref (sz + 18), .int 5, .ref (sz + 19), .int 0, .ref (sz + 20), .ref (sz + 21)]), aI G 10, aI G 10, aI G 32, aI G 32] (frI h0 sz) s H locs := w
  refine i_put F inT_11 tyX11 tyX11_ok nmX11 rfl fi_X11_5 hi rfl w (ty := tyX11 5) (v := .ref (sz + 17)) (tyX11_ok 5 (by decide)) rfl rfl (Nat.blt_eq.mp rfl) di_X11_87 (fun H locs w => ?_)
  have w : Wi G.1 (tyA G) [(h0, .inr (11, [.ref (sz + 0), .ref (sz + 8), .ref (sz + 6), .ref (sz + 10), .ref (sz + 15), .ref (sz + 17), .null, .null, .null, .null, .null, .int 0, .int 0]))] sz [.inr (6, [.int 0, .int 4, .int 0, .ref (sz + 1), .ref (sz + 2), .ref (sz + 3), .ref (sz + 4), .ref (sz + 5)]), aI G 10, aI G 10, aI G 10, aI G 10, aI G 10, .inr (0, [.ref (sz + 0), .int 0, .int 0, .ref (sz + 7), .int 0, .int 0, .int 0, .int 0, .int 0, .int 0, .int 0]), aI G 64, .inr (1, [.ref (sz + 6), .ref (sz + 9), .int 0]), aP G 8, .inr (9, [.int 0, .ref (sz + 11), .int 0, .ref (sz + 12), .ref (sz + 13), .ref (sz + 14)]), aI G 400, aI G 401, aI G 401, aI G 401, .inr (7, [.ref (sz + 10), .int 0, .ref (sz + 16), .int 0, .int (-1)]), aI G 400, .inr (4, [.ref (sz + 0), .ref (sz + 8), .ref (sz + 18), .int 5, .ref (sz + 19), .int 0, .ref (sz + 20), .ref (sz + 21)]), aI G 10, aI G 10, aI G 32, aI G 32] (frI h0 sz) s H locs := w
  refine lv_aload_n F.1 F.2.1 di_X11_90 rfl (lv_at hl 0 rfl) ?_
  refine i_newc F inT_8 tyX8 tyX8_ok wc_X11_91 wn_X8 wz_X8 w (ci := 8) rfl (fs := [.null, .null, .null, .int 0, .int 0, .null, .null, .null, .null, .int 0, .null]) df_X8 rfl (Nat.le_of_ble_eq_true rfl) (Nat.le_of_ble_eq_true rfl) di_X11_91 (fun H w => ?_)
  have w : Wi G.1 (tyA G) [(h0, .inr (11, [.ref (sz + 0), .ref (sz + 8), .ref (sz + 6), .ref (sz + 10), .ref (sz + 15), .ref (sz + 17), .null, .null, .null, .null, .null, .int 0, .int 0]))] sz [.inr (6, [.int 0, .int 4, .int 0, .ref (sz + 1), .ref (sz + 2), .ref (sz + 3), .ref (sz + 4), .ref (sz + 5)]), aI G 10, aI G 10, aI G 10, aI G 10, aI G 10, .inr (0, [.ref (sz + 0), .int 0, .int 0, .ref (sz + 7), .int 0, .int 0, .int 0, .int 0, .int 0, .int 0, .int 0]), aI G 64, .inr (1, [.ref (sz + 6), .ref (sz + 9), .int 0]), aP G 8, .inr (9, [.int 0, .ref (sz + 11), .int 0, .ref (sz + 12), .ref (sz + 13), .ref (sz + 14)]), aI G 400, aI G 401, aI G 401, aI G 401, .inr (7, [.ref (sz + 10), .int 0, .ref (sz + 16), .int 0, .int (-1)]), aI G 400, .inr (4, [.ref (sz + 0), .ref (sz + 8), .ref (sz + 18), .int 5, .ref (sz + 19), .int 0, .ref (sz + 20), .ref (sz + 21)]), aI G 10, aI G 10, aI G 32, aI G 32, .inr (8, [.null, .null, .null, .int 0, .int 0, .null, .null, .null, .null, .int 0, .null])] (frI h0 sz) s H locs := w
  refine lv_dup F.1 F.2.1 di_X11_94 rfl ?_
  refine lv_aload_n F.1 F.2.1 di_X11_95 rfl (lv_at hl 0 rfl) ?_
  refine i_get F inT_11 rfl fi_X11_0 w rfl di_X11_96 ?_
  refine lv_aload_n F.1 F.2.1 di_X11_99 rfl (lv_at hl 0 rfl) ?_
  refine i_get F inT_11 rfl fi_X11_5 w rfl di_X11_100 ?_
  refine i_call (index := 0) (k := 0) (Es := [.inr (6, [.int 0, .int 4, .int 0, .ref (sz + 1), .ref (sz + 2), .ref (sz + 3), .ref (sz + 4), .ref (sz + 5)]), aI G 10, aI G 10, aI G 10, aI G 10, aI G 10, .inr (0, [.ref (sz + 0), .int 0, .int 0, .ref (sz + 7), .int 0, .int 0, .int 0, .int 0, .int 0, .int 0, .int 0]), aI G 64, .inr (1, [.ref (sz + 6), .ref (sz + 9), .int 0]), aP G 8, .inr (9, [.int 0, .ref (sz + 11), .int 0, .ref (sz + 12), .ref (sz + 13), .ref (sz + 14)]), aI G 400, aI G 401, aI G 401, aI G 401, .inr (7, [.ref (sz + 10), .int 0, .ref (sz + 16), .int 0, .int (-1)]), aI G 400, .inr (4, [.ref (sz + 0), .ref (sz + 8), .ref (sz + 18), .int 5, .ref (sz + 19), .int 0, .ref (sz + 20), .ref (sz + 21)]), aI G 10, aI G 10, aI G 32, aI G 32]) (rest := [.ref (sz + 22), .ref h0]) (as := [.ref (sz + 0), .ref (sz + 17)]) F ex hl.1 (ic_X8 l G _ _ (sz + 0) (sz + 17)) wm_X8 rfl (fun hS hp => va_runI (As := [.ref (sz + 0), .ref (sz + 17)]) hS (ic_X8 l G _ _ (sz + 0) (sz + 17)) (cwI 2 hS.2.2.2.2 (GoodIn_M wm_X8) rfl rfl rfl (hS.2.2.2.2 _ wz_X8) (hS.2.2.2.2 _ wq_X11_103) (hS.2.2.2.2 _ wi_X8) rfl (by decide +kernel) ⟨Nat.le_of_ble_eq_true rfl, Nat.le_of_ble_eq_true rfl⟩) hp rfl rfl hl.1 rfl (lv_room (Nat.le_of_ble_eq_true rfl)) di_X11_103 ⟨Nat.le_of_ble_eq_true rfl, Nat.le_of_ble_eq_true rfl⟩) w (hb _) rfl (fun H locs w => ?_)
  have w : Wi G.1 (tyA G) [(h0, .inr (11, [.ref (sz + 0), .ref (sz + 8), .ref (sz + 6), .ref (sz + 10), .ref (sz + 15), .ref (sz + 17), .null, .null, .null, .null, .null, .int 0, .int 0]))] sz [.inr (6, [.int 0, .int 4, .int 0, .ref (sz + 1), .ref (sz + 2), .ref (sz + 3), .ref (sz + 4), .ref (sz + 5)]), aI G 10, aI G 10, aI G 10, aI G 10, aI G 10, .inr (0, [.ref (sz + 0), .int 0, .int 0, .ref (sz + 7), .int 0, .int 0, .int 0, .int 0, .int 0, .int 0, .int 0]), aI G 64, .inr (1, [.ref (sz + 6), .ref (sz + 9), .int 0]), aP G 8, .inr (9, [.int 0, .ref (sz + 11), .int 0, .ref (sz + 12), .ref (sz + 13), .ref (sz + 14)]), aI G 400, aI G 401, aI G 401, aI G 401, .inr (7, [.ref (sz + 10), .int 0, .ref (sz + 16), .int 0, .int (-1)]), aI G 400, .inr (4, [.ref (sz + 0), .ref (sz + 8), .ref (sz + 18), .int 5, .ref (sz + 19), .int 0, .ref (sz + 20), .ref (sz + 21)]), aI G 10, aI G 10, aI G 32, aI G 32, .inr (8, [.ref (sz + 0), .ref (sz + 17), .ref (sz + 23), .int 0, .int 0, .ref (sz + 24), .ref (sz + 25), .ref (sz + 26), .ref (sz + 27), .int 0, .ref (sz + 28)]), aI G 10, aI G 10, aI G 10, aI G 10, aI G 10, aG G (sz + 29), aI G 10, aI G 10, aI G 10, aI G 10, aI G 10, aI G 10, aI G 10, aI G 10] (frI h0 sz) s H locs := w
  refine i_put F inT_11 tyX11 tyX11_ok nmX11 rfl fi_X11_6 hi rfl w (ty := tyX11 6) (v := .ref (sz + 22)) (tyX11_ok 6 (by decide)) rfl rfl (Nat.blt_eq.mp rfl) di_X11_106 (fun H locs w => ?_)
  have w : Wi G.1 (tyA G) [(h0, .inr (11, [.ref (sz + 0), .ref (sz + 8), .ref (sz + 6), .ref (sz + 10), .ref (sz + 15), .ref (sz + 17), .ref (sz + 22), .null, .null, .null, .null, .int 0, .int 0]))] sz [.inr (6, [.int 0, .int 4, .int 0, .ref (sz + 1), .ref (sz + 2), .ref (sz + 3), .ref (sz + 4), .ref (sz + 5)]), aI G 10, aI G 10, aI G 10, aI G 10, aI G 10, .inr (0, [.ref (sz + 0), .int 0, .int 0, .ref (sz + 7), .int 0, .int 0, .int 0, .int 0, .int 0, .int 0, .int 0]), aI G 64, .inr (1, [.ref (sz + 6), .ref (sz + 9), .int 0]), aP G 8, .inr (9, [.int 0, .ref (sz + 11), .int 0, .ref (sz + 12), .ref (sz + 13), .ref (sz + 14)]), aI G 400, aI G 401, aI G 401, aI G 401, .inr (7, [.ref (sz + 10), .int 0, .ref (sz + 16), .int 0, .int (-1)]), aI G 400, .inr (4, [.ref (sz + 0), .ref (sz + 8), .ref (sz + 18), .int 5, .ref (sz + 19), .int 0, .ref (sz + 20), .ref (sz + 21)]), aI G 10, aI G 10, aI G 32, aI G 32, .inr (8, [.ref (sz + 0), .ref (sz + 17), .ref (sz + 23), .int 0, .int 0, .ref (sz + 24), .ref (sz + 25), .ref (sz + 26), .ref (sz + 27), .int 0, .ref (sz + 28)]), aI G 10, aI G 10, aI G 10, aI G 10, aI G 10, aG G (sz + 29), aI G 10, aI G 10, aI G 10, aI G 10, aI G 10, aI G 10, aI G 10, aI G 10] (frI h0 sz) s H locs := w
  refine lv_aload_n F.1 F.2.1 di_X11_109 rfl (lv_at hl 0 rfl) ?_
  refine i_newc F inT_10 tyX10 tyX10_ok wc_X11_110 wn_X10 wz_X10 w (ci := 10) rfl (fs := [.null, .null, .null, .null, .null, .null, .null, .null]) df_X10 rfl (Nat.le_of_ble_eq_true rfl) (Nat.le_of_ble_eq_true rfl) di_X11_110 (fun H w => ?_)
  have w : Wi G.1 (tyA G) [(h0, .inr (11, [.ref (sz + 0), .ref (sz + 8), .ref (sz + 6), .ref (sz + 10), .ref (sz + 15), .ref (sz + 17), .ref (sz + 22), .null, .null, .null, .null, .int 0, .int 0]))] sz [.inr (6, [.int 0, .int 4, .int 0, .ref (sz + 1), .ref (sz + 2), .ref (sz + 3), .ref (sz + 4), .ref (sz + 5)]), aI G 10, aI G 10, aI G 10, aI G 10, aI G 10, .inr (0, [.ref (sz + 0), .int 0, .int 0, .ref (sz + 7), .int 0, .int 0, .int 0, .int 0, .int 0, .int 0, .int 0]), aI G 64, .inr (1, [.ref (sz + 6), .ref (sz + 9), .int 0]), aP G 8, .inr (9, [.int 0, .ref (sz + 11), .int 0, .ref (sz + 12), .ref (sz + 13), .ref (sz + 14)]), aI G 400, aI G 401, aI G 401, aI G 401, .inr (7, [.ref (sz + 10), .int 0, .ref (sz + 16), .int 0, .int (-1)]), aI G 400, .inr (4, [.ref (sz + 0), .ref (sz + 8), .ref (sz + 18), .int 5, .ref (sz + 19), .int 0, .ref (sz + 20), .ref (sz + 21)]), aI G 10, aI G 10, aI G 32, aI G 32, .inr (8, [.ref (sz + 0), .ref (sz + 17), .ref (sz + 23), .int 0, .int 0, .ref (sz + 24), .ref (sz + 25), .ref (sz + 26), .ref (sz + 27), .int 0, .ref (sz + 28)]), aI G 10, aI G 10, aI G 10, aI G 10, aI G 10, aG G (sz + 29), aI G 10, aI G 10, aI G 10, aI G 10, aI G 10, aI G 10, aI G 10, aI G 10, .inr (10, [.null, .null, .null, .null, .null, .null, .null, .null])] (frI h0 sz) s H locs := w
  refine lv_dup F.1 F.2.1 di_X11_113 rfl ?_
  refine lv_aload_n F.1 F.2.1 di_X11_114 rfl (lv_at hl 0 rfl) ?_
  refine i_get F inT_11 rfl fi_X11_0 w rfl di_X11_115 ?_
  refine lv_aload_n F.1 F.2.1 di_X11_118 rfl (lv_at hl 0 rfl) ?_
  refine i_get F inT_11 rfl fi_X11_1 w rfl di_X11_119 ?_
  refine lv_aload_n F.1 F.2.1 di_X11_122 rfl (lv_at hl 0 rfl) ?_
  refine i_get F inT_11 rfl fi_X11_5 w rfl di_X11_123 ?_
  refine i_call (index := 0) (k := 0) (Es := [.inr (6, [.int 0, .int 4, .int 0, .ref (sz + 1), .ref (sz + 2), .ref (sz + 3), .ref (sz + 4), .ref (sz + 5)]), aI G 10, aI G 10, aI G 10, aI G 10, aI G 10, .inr (0, [.ref (sz + 0), .int 0, .int 0, .ref (sz + 7), .int 0, .int 0, .int 0, .int 0, .int 0, .int 0, .int 0]), aI G 64, .inr (1, [.ref (sz + 6), .ref (sz + 9), .int 0]), aP G 8, .inr (9, [.int 0, .ref (sz + 11), .int 0, .ref (sz + 12), .ref (sz + 13), .ref (sz + 14)]), aI G 400, aI G 401, aI G 401, aI G 401, .inr (7, [.ref (sz + 10), .int 0, .ref (sz + 16), .int 0, .int (-1)]), aI G 400, .inr (4, [.ref (sz + 0), .ref (sz + 8), .ref (sz + 18), .int 5, .ref (sz + 19), .int 0, .ref (sz + 20), .ref (sz + 21)]), aI G 10, aI G 10, aI G 32, aI G 32, .inr (8, [.ref (sz + 0), .ref (sz + 17), .ref (sz + 23), .int 0, .int 0, .ref (sz + 24), .ref (sz + 25), .ref (sz + 26), .ref (sz + 27), .int 0, .ref (sz + 28)]), aI G 10, aI G 10, aI G 10, aI G 10, aI G 10, aG G (sz + 29), aI G 10, aI G 10, aI G 10, aI G 10, aI G 10, aI G 10, aI G 10, aI G 10]) (rest := [.ref (sz + 37), .ref h0]) (as := [.ref (sz + 0), .ref (sz + 8), .ref (sz + 17)]) F ex hl.1 (ic_X10 l G _ _ (sz + 0) (sz + 8) (sz + 17)) wm_X10 rfl (fun hS hp => va_runI (As := [.ref (sz + 0), .ref (sz + 8), .ref (sz + 17)]) hS (ic_X10 l G _ _ (sz + 0) (sz + 8) (sz + 17)) (cwI 3 hS.2.2.2.2 (GoodIn_M wm_X10) rfl rfl rfl (hS.2.2.2.2 _ wz_X10) (hS.2.2.2.2 _ wq_X11_126) (hS.2.2.2.2 _ wi_X10) rfl (by decide +kernel) ⟨Nat.le_of_ble_eq_true rfl, Nat.le_of_ble_eq_true rfl⟩) hp rfl rfl hl.1 rfl (lv_room (Nat.le_of_ble_eq_true rfl)) di_X11_126 ⟨Nat.le_of_ble_eq_true rfl, Nat.le_of_ble_eq_true rfl⟩) w (hb _) rfl (fun H locs w => ?_)
  have w : Wi G.1 (tyA G) [(h0, .inr (11, [.ref (sz + 0), .ref (sz + 8), .ref (sz + 6), .ref (sz + 10), .ref (sz + 15), .ref (sz + 17), .ref (sz + 22), .null, .null, .null, .null, .int 0, .int 0]))] sz [.inr (6, [.int 0, .int 4, .int 0, .ref (sz + 1), .ref (sz + 2), .ref (sz + 3), .ref (sz + 4), .ref (sz + 5)]), aI G 10, aI G 10, aI G 10, aI G 10, aI G 10, .inr (0, [.ref (sz + 0), .int 0, .int 0, .ref (sz + 7), .int 0, .int 0, .int 0, .int 0, .int 0, .int 0, .int 0]), aI G 64, .inr (1, [.ref (sz + 6), .ref (sz + 9), .int 0]), aP G 8, .inr (9, [.int 0, .ref (sz + 11), .int 0, .ref (sz + 12), .ref (sz + 13), .ref (sz + 14)]), aI G 400, aI G 401, aI G 401, aI G 401, .inr (7, [.ref (sz + 10), .int 0, .ref (sz + 16), .int 0, .int (-1)]), aI G 400, .inr (4, [.ref (sz + 0), .ref (sz + 8), .ref (sz + 18), .int 5, .ref (sz + 19), .int 0, .ref (sz + 20), .ref (sz + 21)]), aI G 10, aI G 10, aI G 32, aI G 32, .inr (8, [.ref (sz + 0), .ref (sz + 17), .ref (sz + 23), .int 0, .int 0, .ref (sz + 24), .ref (sz + 25), .ref (sz + 26), .ref (sz + 27), .int 0, .ref (sz + 28)]), aI G 10, aI G 10, aI G 10, aI G 10, aI G 10, aG G (sz + 29), aI G 10, aI G 10, aI G 10, aI G 10, aI G 10, aI G 10, aI G 10, aI G 10, .inr (10, [.ref (sz + 0), .ref (sz + 8), .ref (sz + 17), .ref (sz + 38), .ref (sz + 39), .ref (sz + 40), .ref (sz + 41), .ref (sz + 42)]), aI G 8, aI G 10, aI G 10, aI G 8, aI G 80] (frI h0 sz) s H locs := w
  refine i_put F inT_11 tyX11 tyX11_ok nmX11 rfl fi_X11_7 hi rfl w (ty := tyX11 7) (v := .ref (sz + 37)) (tyX11_ok 7 (by decide)) rfl rfl (Nat.blt_eq.mp rfl) di_X11_129 (fun H locs w => ?_)
  have w : Wi G.1 (tyA G) [(h0, .inr (11, [.ref (sz + 0), .ref (sz + 8), .ref (sz + 6), .ref (sz + 10), .ref (sz + 15), .ref (sz + 17), .ref (sz + 22), .ref (sz + 37), .null, .null, .null, .int 0, .int 0]))] sz [.inr (6, [.int 0, .int 4, .int 0, .ref (sz + 1), .ref (sz + 2), .ref (sz + 3), .ref (sz + 4), .ref (sz + 5)]), aI G 10, aI G 10, aI G 10, aI G 10, aI G 10, .inr (0, [.ref (sz + 0), .int 0, .int 0, .ref (sz + 7), .int 0, .int 0, .int 0, .int 0, .int 0, .int 0, .int 0]), aI G 64, .inr (1, [.ref (sz + 6), .ref (sz + 9), .int 0]), aP G 8, .inr (9, [.int 0, .ref (sz + 11), .int 0, .ref (sz + 12), .ref (sz + 13), .ref (sz + 14)]), aI G 400, aI G 401, aI G 401, aI G 401, .inr (7, [.ref (sz + 10), .int 0, .ref (sz + 16), .int 0, .int (-1)]), aI G 400, .inr (4, [.ref (sz + 0), .ref (sz + 8), .ref (sz + 18), .int 5, .ref (sz + 19), .int 0, .ref (sz + 20), .ref (sz + 21)]), aI G 10, aI G 10, aI G 32, aI G 32, .inr (8, [.ref (sz + 0), .ref (sz + 17), .ref (sz + 23), .int 0, .int 0, .ref (sz + 24), .ref (sz + 25), .ref (sz + 26), .ref (sz + 27), .int 0, .ref (sz + 28)]), aI G 10, aI G 10, aI G 10, aI G 10, aI G 10, aG G (sz + 29), aI G 10, aI G 10, aI G 10, aI G 10, aI G 10, aI G 10, aI G 10, aI G 10, .inr (10, [.ref (sz + 0), .ref (sz + 8), .ref (sz + 17), .ref (sz + 38), .ref (sz + 39), .ref (sz + 40), .ref (sz + 41), .ref (sz + 42)]), aI G 8, aI G 10, aI G 10, aI G 8, aI G 80] (frI h0 sz) s H locs := w
  refine lv_aload_n F.1 F.2.1 di_X11_132 rfl (lv_at hl 0 rfl) ?_
  refine i_newc F inT_3 tyX3 tyX3_ok wc_X11_133 wn_X3 wz_X3 w (ci := 3) rfl (fs := [.null, .null, .null, .null]) df_X3 rfl (Nat.le_of_ble_eq_true rfl) (Nat.le_of_ble_eq_true rfl) di_X11_133 (fun H w => ?_)
  have w : Wi G.1 (tyA G) [(h0, .inr (11, [.ref (sz + 0), .ref (sz + 8), .ref (sz + 6), .ref (sz + 10), .ref (sz + 15), .ref (sz + 17), .ref (sz + 22), .ref (sz + 37), .null, .null, .null, .int 0, .int 0]))] sz [.inr (6, [.int 0, .int 4, .int 0, .ref (sz + 1), .ref (sz + 2), .ref (sz + 3), .ref (sz + 4), .ref (sz + 5)]), aI G 10, aI G 10, aI G 10, aI G 10, aI G 10, .inr (0, [.ref (sz + 0), .int 0, .int 0, .ref (sz + 7), .int 0, .int 0, .int 0, .int 0, .int 0, .int 0, .int 0]), aI G 64, .inr (1, [.ref (sz + 6), .ref (sz + 9), .int 0]), aP G 8, .inr (9, [.int 0, .ref (sz + 11), .int 0, .ref (sz + 12), .ref (sz + 13), .ref (sz + 14)]), aI G 400, aI G 401, aI G 401, aI G 401, .inr (7, [.ref (sz + 10), .int 0, .ref (sz + 16), .int 0, .int (-1)]), aI G 400, .inr (4, [.ref (sz + 0), .ref (sz + 8), .ref (sz + 18), .int 5, .ref (sz + 19), .int 0, .ref (sz + 20), .ref (sz + 21)]), aI G 10, aI G 10, aI G 32, aI G 32, .inr (8, [.ref (sz + 0), .ref (sz + 17), .ref (sz + 23), .int 0, .int 0, .ref (sz + 24), .ref (sz + 25), .ref (sz + 26), .ref (sz + 27), .int 0, .ref (sz + 28)]), aI G 10, aI G 10, aI G 10, aI G 10, aI G 10, aG G (sz + 29), aI G 10, aI G 10, aI G 10, aI G 10, aI G 10, aI G 10, aI G 10, aI G 10, .inr (10, [.ref (sz + 0), .ref (sz + 8), .ref (sz + 17), .ref (sz + 38), .ref (sz + 39), .ref (sz + 40), .ref (sz + 41), .ref (sz + 42)]), aI G 8, aI G 10, aI G 10, aI G 8, aI G 80, .inr (3, [.null, .null, .null, .null])] (frI h0 sz) s H locs := w
  refine lv_dup F.1 F.2.1 di_X11_136 rfl ?_
  refine lv_aload_n F.1 F.2.1 di_X11_137 rfl (lv_at hl 0 rfl) ?_
  refine i_get F inT_11 rfl fi_X11_0 w rfl di_X11_138 ?_
  refine lv_aload_n F.1 F.2.1 di_X11_141 rfl (lv_at hl 0 rfl) ?_
  refine i_get F inT_11 rfl fi_X11_1 w rfl di_X11_142 ?_
  refine lv_aload_n F.1 F.2.1 di_X11_145 rfl (lv_at hl 0 rfl) ?_
  refine i_get F inT_11 rfl fi_X11_7 w rfl di_X11_146 ?_
  refine i_call (index := 0) (k := 0) (Es := [.inr (6, [.int 0, .int 4, .int 0, .ref (sz + 1), .ref (sz + 2), .ref (sz + 3), .ref (sz + 4), .ref (sz + 5)]), aI G 10, aI G 10, aI G 10, aI G 10, aI G 10, .inr (0, [.ref (sz + 0), .int 0, .int 0, .ref (sz + 7), .int 0, .int 0, .int 0, .int 0, .int 0, .int 0, .int 0]), aI G 64, .inr (1, [.ref (sz + 6), .ref (sz + 9), .int 0]), aP G 8, .inr (9, [.int 0, .ref (sz + 11), .int 0, .ref (sz + 12), .ref (sz + 13), .ref (sz + 14)]), aI G 400, aI G 401, aI G 401, aI G 401, .inr (7, [.ref (sz + 10), .int 0, .ref (sz + 16), .int 0, .int (-1)]), aI G 400, .inr (4, [.ref (sz + 0), .ref (sz + 8), .ref (sz + 18), .int 5, .ref (sz + 19), .int 0, .ref (sz + 20), .ref (sz + 21)]), aI G 10, aI G 10, aI G 32, aI G 32, .inr (8, [.ref (sz + 0), .ref (sz + 17), .ref (sz + 23), .int 0, .int 0, .ref (sz + 24), .ref (sz + 25), .ref (sz + 26), .ref (sz + 27), .int 0, .ref (sz + 28)]), aI G 10, aI G 10, aI G 10, aI G 10, aI G 10, aG G (sz + 29), aI G 10, aI G 10, aI G 10, aI G 10, aI G 10, aI G 10, aI G 10, aI G 10, .inr (10, [.ref (sz + 0), .ref (sz + 8), .ref (sz + 17), .ref (sz + 38), .ref (sz + 39), .ref (sz + 40), .ref (sz + 41), .ref (sz + 42)]), aI G 8, aI G 10, aI G 10, aI G 8, aI G 80]) (rest := [.ref (sz + 43), .ref h0]) (as := [.ref (sz + 0), .ref (sz + 8), .ref (sz + 37)]) F ex hl.1 (ic_X3 l G _ _ (sz + 0) (sz + 8) (sz + 37)) wm_X3 rfl (fun hS hp => va_runI (As := [.ref (sz + 0), .ref (sz + 8), .ref (sz + 37)]) hS (ic_X3 l G _ _ (sz + 0) (sz + 8) (sz + 37)) (cwI 3 hS.2.2.2.2 (GoodIn_M wm_X3) rfl rfl rfl (hS.2.2.2.2 _ wz_X3) (hS.2.2.2.2 _ wq_X11_149) (hS.2.2.2.2 _ wi_X3) rfl (by decide +kernel) ⟨Nat.le_of_ble_eq_true rfl, Nat.le_of_ble_eq_true rfl⟩) hp rfl rfl hl.1 rfl (lv_room (Nat.le_of_ble_eq_true rfl)) di_X11_149 ⟨Nat.le_of_ble_eq_true rfl, Nat.le_of_ble_eq_true rfl⟩) w (hb _) rfl (fun H locs w => ?_)
  have w : Wi G.1 (tyA G) [(h0, .inr (11, [.ref (sz + 0), .ref (sz + 8), .ref (sz + 6), .ref (sz + 10), .ref (sz + 15), .ref (sz + 17), .ref (sz + 22), .ref (sz + 37), .null, .null, .null, .int 0, .int 0]))] sz [.inr (6, [.int 0, .int 4, .int 0, .ref (sz + 1), .ref (sz + 2), .ref (sz + 3), .ref (sz + 4), .ref (sz + 5)]), aI G 10, aI G 10, aI G 10, aI G 10, aI G 10, .inr (0, [.ref (sz + 0), .int 0, .int 0, .ref (sz + 7), .int 0, .int 0, .int 0, .int 0, .int 0, .int 0, .int 0]), aI G 64, .inr (1, [.ref (sz + 6), .ref (sz + 9), .int 0]), aP G 8, .inr (9, [.int 0, .ref (sz + 11), .int 0, .ref (sz + 12), .ref (sz + 13), .ref (sz + 14)]), aI G 400, aI G 401, aI G 401, aI G 401, .inr (7, [.ref (sz + 10), .int 0, .ref (sz + 16), .int 0, .int (-1)]), aI G 400, .inr (4, [.ref (sz + 0), .ref (sz + 8), .ref (sz + 18), .int 5, .ref (sz + 19), .int 0, .ref (sz + 20), .ref (sz + 21)]), aI G 10, aI G 10, aI G 32, aI G 32, .inr (8, [.ref (sz + 0), .ref (sz + 17), .ref (sz + 23), .int 0, .int 0, .ref (sz + 24), .ref (sz + 25), .ref (sz + 26), .ref (sz + 27), .int 0, .ref (sz + 28)]), aI G 10, aI G 10, aI G 10, aI G 10, aI G 10, aG G (sz + 29), aI G 10, aI G 10, aI G 10, aI G 10, aI G 10, aI G 10, aI G 10, aI G 10, .inr (10, [.ref (sz + 0), .ref (sz + 8), .ref (sz + 17), .ref (sz + 38), .ref (sz + 39), .ref (sz + 40), .ref (sz + 41), .ref (sz + 42)]), aI G 8, aI G 10, aI G 10, aI G 8, aI G 80, .inr (3, [.ref (sz + 0), .ref (sz + 8), .ref (sz + 37), .ref (sz + 44)]), aI G 4] (frI h0 sz) s H locs := w
  refine i_put F inT_11 tyX11 tyX11_ok nmX11 rfl fi_X11_8 hi rfl w (ty := tyX11 8) (v := .ref (sz + 43)) (tyX11_ok 8 (by decide)) rfl rfl (Nat.blt_eq.mp rfl) di_X11_152 (fun H locs w => ?_)
  have w : Wi G.1 (tyA G) [(h0, .inr (11, [.ref (sz + 0), .ref (sz + 8), .ref (sz + 6), .ref (sz + 10), .ref (sz + 15), .ref (sz + 17), .ref (sz + 22), .ref (sz + 37), .ref (sz + 43), .null, .null, .int 0, .int 0]))] sz [.inr (6, [.int 0, .int 4, .int 0, .ref (sz + 1), .ref (sz + 2), .ref (sz + 3), .ref (sz + 4), .ref (sz + 5)]), aI G 10, aI G 10, aI G 10, aI G 10, aI G 10, .inr (0, [.ref (sz + 0), .int 0, .int 0, .ref (sz + 7), .int 0, .int 0, .int 0, .int 0, .int 0, .int 0, .int 0]), aI G 64, .inr (1, [.ref (sz + 6), .ref (sz + 9), .int 0]), aP G 8, .inr (9, [.int 0, .ref (sz + 11), .int 0, .ref (sz + 12), .ref (sz + 13), .ref (sz + 14)]), aI G 400, aI G 401, aI G 401, aI G 401, .inr (7, [.ref (sz + 10), .int 0, .ref (sz + 16), .int 0, .int (-1)]), aI G 400, .inr (4, [.ref (sz + 0), .ref (sz + 8), .ref (sz + 18), .int 5, .ref (sz + 19), .int 0, .ref (sz + 20), .ref (sz + 21)]), aI G 10, aI G 10, aI G 32, aI G 32, .inr (8, [.ref (sz + 0), .ref (sz + 17), .ref (sz + 23), .int 0, .int 0, .ref (sz + 24), .ref (sz + 25), .ref (sz + 26), .ref (sz + 27), .int 0, .ref (sz + 28)]), aI G 10, aI G 10, aI G 10, aI G 10, aI G 10, aG G (sz + 29), aI G 10, aI G 10, aI G 10, aI G 10, aI G 10, aI G 10, aI G 10, aI G 10, .inr (10, [.ref (sz + 0), .ref (sz + 8), .ref (sz + 17), .ref (sz + 38), .ref (sz + 39), .ref (sz + 40), .ref (sz + 41), .ref (sz + 42)]), aI G 8, aI G 10, aI G 10, aI G 8, aI G 80, .inr (3, [.ref (sz + 0), .ref (sz + 8), .ref (sz + 37), .ref (sz + 44)]), aI G 4] (frI h0 sz) s H locs := w
  refine lv_aload_n F.1 F.2.1 di_X11_155 rfl (lv_at hl 0 rfl) ?_
  refine i_newc F inT_2 tyX2 tyX2_ok wc_X11_156 wn_X2 wz_X2 w (ci := 2) rfl (fs := [.null, .null, .null, .int 0, .null]) df_X2 rfl (Nat.le_of_ble_eq_true rfl) (Nat.le_of_ble_eq_true rfl) di_X11_156 (fun H w => ?_)
  have w : Wi G.1 (tyA G) [(h0, .inr (11, [.ref (sz + 0), .ref (sz + 8), .ref (sz + 6), .ref (sz + 10), .ref (sz + 15), .ref (sz + 17), .ref (sz + 22), .ref (sz + 37), .ref (sz + 43), .null, .null, .int 0, .int 0]))] sz [.inr (6, [.int 0, .int 4, .int 0, .ref (sz + 1), .ref (sz + 2), .ref (sz + 3), .ref (sz + 4), .ref (sz + 5)]), aI G 10, aI G 10, aI G 10, aI G 10, aI G 10, .inr (0, [.ref (sz + 0), .int 0, .int 0, .ref (sz + 7), .int 0, .int 0, .int 0, .int 0, .int 0, .int 0, .int 0]), aI G 64, .inr (1, [.ref (sz + 6), .ref (sz + 9), .int 0]), aP G 8, .inr (9, [.int 0, .ref (sz + 11), .int 0, .ref (sz + 12), .ref (sz + 13), .ref (sz + 14)]), aI G 400, aI G 401, aI G 401, aI G 401, .inr (7, [.ref (sz + 10), .int 0, .ref (sz + 16), .int 0, .int (-1)]), aI G 400, .inr (4, [.ref (sz + 0), .ref (sz + 8), .ref (sz + 18), .int 5, .ref (sz + 19), .int 0, .ref (sz + 20), .ref (sz + 21)]), aI G 10, aI G 10, aI G 32, aI G 32, .inr (8, [.ref (sz + 0), .ref (sz + 17), .ref (sz + 23), .int 0, .int 0, .ref (sz + 24), .ref (sz + 25), .ref (sz + 26), .ref (sz + 27), .int 0, .ref (sz + 28)]), aI G 10, aI G 10, aI G 10, aI G 10, aI G 10, aG G (sz + 29), aI G 10, aI G 10, aI G 10, aI G 10, aI G 10, aI G 10, aI G 10, aI G 10, .inr (10, [.ref (sz + 0), .ref (sz + 8), .ref (sz + 17), .ref (sz + 38), .ref (sz + 39), .ref (sz + 40), .ref (sz + 41), .ref (sz + 42)]), aI G 8, aI G 10, aI G 10, aI G 8, aI G 80, .inr (3, [.ref (sz + 0), .ref (sz + 8), .ref (sz + 37), .ref (sz + 44)]), aI G 4, .inr (2, [.null, .null, .null, .int 0, .null])] (frI h0 sz) s H locs := w
  refine lv_dup F.1 F.2.1 di_X11_159 rfl ?_
  refine lv_aload_n F.1 F.2.1 di_X11_160 rfl (lv_at hl 0 rfl) ?_
  refine i_get F inT_11 rfl fi_X11_0 w rfl di_X11_161 ?_
  refine lv_aload_n F.1 F.2.1 di_X11_164 rfl (lv_at hl 0 rfl) ?_
  refine i_get F inT_11 rfl fi_X11_1 w rfl di_X11_165 ?_
  refine lv_aload_n F.1 F.2.1 di_X11_168 rfl (lv_at hl 0 rfl) ?_
  refine i_get F inT_11 rfl fi_X11_7 w rfl di_X11_169 ?_
  refine i_call (index := 0) (k := 0) (Es := [.inr (6, [.int 0, .int 4, .int 0, .ref (sz + 1), .ref (sz + 2), .ref (sz + 3), .ref (sz + 4), .ref (sz + 5)]), aI G 10, aI G 10, aI G 10, aI G 10, aI G 10, .inr (0, [.ref (sz + 0), .int 0, .int 0, .ref (sz + 7), .int 0, .int 0, .int 0, .int 0, .int 0, .int 0, .int 0]), aI G 64, .inr (1, [.ref (sz + 6), .ref (sz + 9), .int 0]), aP G 8, .inr (9, [.int 0, .ref (sz + 11), .int 0, .ref (sz + 12), .ref (sz + 13), .ref (sz + 14)]), aI G 400, aI G 401, aI G 401, aI G 401, .inr (7, [.ref (sz + 10), .int 0, .ref (sz + 16), .int 0, .int (-1)]), aI G 400, .inr (4, [.ref (sz + 0), .ref (sz + 8), .ref (sz + 18), .int 5, .ref (sz + 19), .int 0, .ref (sz + 20), .ref (sz + 21)]), aI G 10, aI G 10, aI G 32, aI G 32, .inr (8, [.ref (sz + 0), .ref (sz + 17), .ref (sz + 23), .int 0, .int 0, .ref (sz + 24), .ref (sz + 25), .ref (sz + 26), .ref (sz + 27), .int 0, .ref (sz + 28)]), aI G 10, aI G 10, aI G 10, aI G 10, aI G 10, aG G (sz + 29), aI G 10, aI G 10, aI G 10, aI G 10, aI G 10, aI G 10, aI G 10, aI G 10, .inr (10, [.ref (sz + 0), .ref (sz + 8), .ref (sz + 17), .ref (sz + 38), .ref (sz + 39), .ref (sz + 40), .ref (sz + 41), .ref (sz + 42)]), aI G 8, aI G 10, aI G 10, aI G 8, aI G 80, .inr (3, [.ref (sz + 0), .ref (sz + 8), .ref (sz + 37), .ref (sz + 44)]), aI G 4]) (rest := [.ref (sz + 45), .ref h0]) (as := [.ref (sz + 0), .ref (sz + 8), .ref (sz + 37)]) F ex hl.1 (ic_X2 l G _ _ (sz + 0) (sz + 8) (sz + 37)) wm_X2 rfl (fun hS hp => va_runI (As := [.ref (sz + 0), .ref (sz + 8), .ref (sz + 37)]) hS (ic_X2 l G _ _ (sz + 0) (sz + 8) (sz + 37)) (cwI 3 hS.2.2.2.2 (GoodIn_M wm_X2) rfl rfl rfl (hS.2.2.2.2 _ wz_X2) (hS.2.2.2.2 _ wq_X11_172) (hS.2.2.2.2 _ wi_X2) rfl (by decide +kernel) ⟨Nat.le_of_ble_eq_true rfl, Nat.le_of_ble_eq_true rfl⟩) hp rfl rfl hl.1 rfl (lv_room (Nat.le_of_ble_eq_true rfl)) di_X11_172 ⟨Nat.le_of_ble_eq_true rfl, Nat.le_of_ble_eq_true rfl⟩) w (hb _) rfl (fun H locs w => ?_)
  have w : Wi G.1 (tyA G) [(h0, .inr (11, [.ref (sz + 0), .ref (sz + 8), .ref (sz + 6), .ref (sz + 10), .ref (sz + 15), .ref (sz + 17), .ref (sz + 22), .ref (sz + 37), .ref (sz + 43), .null, .null, .int 0, .int 0]))] sz [.inr (6, [.int 0, .int 4, .int 0, .ref (sz + 1), .ref (sz + 2), .ref (sz + 3), .ref (sz + 4), .ref (sz + 5)]), aI G 10, aI G 10, aI G 10, aI G 10, aI G 10, .inr (0, [.ref (sz + 0), .int 0, .int 0, .ref (sz + 7), .int 0, .int 0, .int 0, .int 0, .int 0, .int 0, .int 0]), aI G 64, .inr (1, [.ref (sz + 6), .ref (sz + 9), .int 0]), aP G 8, .inr (9, [.int 0, .ref (sz + 11), .int 0, .ref (sz + 12), .ref (sz + 13), .ref (sz + 14)]), aI G 400, aI G 401, aI G 401, aI G 401, .inr (7, [.ref (sz + 10), .int 0, .ref (sz + 16), .int 0, .int (-1)]), aI G 400, .inr (4, [.ref (sz + 0), .ref (sz + 8), .ref (sz + 18), .int 5, .ref (sz + 19), .int 0, .ref (sz + 20), .ref (sz + 21)]), aI G 10, aI G 10, aI G 32, aI G 32, .inr (8, [.ref (sz + 0), .ref (sz + 17), .ref (sz + 23), .int 0, .int 0, .ref (sz + 24), .ref (sz + 25), .ref (sz + 26), .ref (sz + 27), .int 0, .ref (sz + 28)]), aI G 10, aI G 10, aI G 10, aI G 10, aI G 10, aG G (sz + 29), aI G 10, aI G 10, aI G 10, aI G 10, aI G 10, aI G 10, aI G 10, aI G 10, .inr (10, [.ref (sz + 0), .ref (sz + 8), .ref (sz + 17), .ref (sz + 38), .ref (sz + 39), .ref (sz + 40), .ref (sz + 41), .ref (sz + 42)]), aI G 8, aI G 10, aI G 10, aI G 8, aI G 80, .inr (3, [.ref (sz + 0), .ref (sz + 8), .ref (sz + 37), .ref (sz + 44)]), aI G 4, .inr (2, [.ref (sz + 0), .ref (sz + 8), .ref (sz + 37), .int 0, .ref (sz + 46)]), aI G 8] (frI h0 sz) s H locs := w
  refine i_put F inT_11 tyX11 tyX11_ok nmX11 rfl fi_X11_9 hi rfl w (ty := tyX11 9) (v := .ref (sz + 45)) (tyX11_ok 9 (by decide)) rfl rfl (Nat.blt_eq.mp rfl) di_X11_175 (fun H locs w => ?_)
  have w : Wi G.1 (tyA G) [(h0, .inr (11, [.ref (sz + 0), .ref (sz + 8), .ref (sz + 6), .ref (sz + 10), .ref (sz + 15), .ref (sz + 17), .ref (sz + 22), .ref (sz + 37), .ref (sz + 43), .ref (sz + 45), .null, .int 0, .int 0]))] sz [.inr (6, [.int 0, .int 4, .int 0, .ref (sz + 1), .ref (sz + 2), .ref (sz + 3), .ref (sz + 4), .ref (sz + 5)]), aI G 10, aI G 10, aI G 10, aI G 10, aI G 10, .inr (0, [.ref (sz + 0), .int 0, .int 0, .ref (sz + 7), .int 0, .int 0, .int 0, .int 0, .int 0, .int 0, .int 0]), aI G 64, .inr (1, [.ref (sz + 6), .ref (sz + 9), .int 0]), aP G 8, .inr (9, [.int 0, .ref (sz + 11), .int 0, .ref (sz + 12), .ref (sz + 13), .ref (sz + 14)]), aI G 400, aI G 401, aI G 401, aI G 401, .inr (7, [.ref (sz + 10), .int 0, .ref (sz + 16), .int 0, .int (-1)]), aI G 400, .inr (4, [.ref (sz + 0), .ref (sz + 8), .ref (sz + 18), .int 5, .ref (sz + 19), .int 0, .ref (sz + 20), .ref (sz + 21)]), aI G 10, aI G 10, aI G 32, aI G 32, .inr (8, [.ref (sz + 0), .ref (sz + 17), .ref (sz + 23), .int 0, .int 0, .ref (sz + 24), .ref (sz + 25), .ref (sz + 26), .ref (sz + 27), .int 0, .ref (sz + 28)]), aI G 10, aI G 10, aI G 10, aI G 10, aI G 10, aG G (sz + 29), aI G 10, aI G 10, aI G 10, aI G 10, aI G 10, aI G 10, aI G 10, aI G 10, .inr (10, [.ref (sz + 0), .ref (sz + 8), .ref (sz + 17), .ref (sz + 38), .ref (sz + 39), .ref (sz + 40), .ref (sz + 41), .ref (sz + 42)]), aI G 8, aI G 10, aI G 10, aI G 8, aI G 80, .inr (3, [.ref (sz + 0), .ref (sz + 8), .ref (sz + 37), .ref (sz + 44)]), aI G 4, .inr (2, [.ref (sz + 0), .ref (sz + 8), .ref (sz + 37), .int 0, .ref (sz + 46)]), aI G 8] (frI h0 sz) s H locs := w
  refine lv_aload_n F.1 F.2.1 di_X11_178 rfl (lv_at hl 0 rfl) ?_
  refine i_newc F inT_5 tyX5 tyX5_ok wc_X11_179 wn_X5 wz_X5 w (ci := 5) rfl (fs := [.int 0, .int 0, .int 0, .null, .int 0, .int 0, .null, .null, .int 0, .null]) df_X5 rfl (Nat.le_of_ble_eq_true rfl) (Nat.le_of_ble_eq_true rfl) di_X11_179 (fun H w => ?_)
  have w : Wi G.1 (tyA G) [(h0, .inr (11, [.ref (sz + 0), .ref (sz + 8), .ref (sz + 6), .ref (sz + 10), .ref (sz + 15), .ref (sz + 17), .ref (sz + 22), .ref (sz + 37), .ref (sz + 43), .ref (sz + 45), .null, .int 0, .int 0]))] sz [.inr (6, [.int 0, .int 4, .int 0, .ref (sz + 1), .ref (sz + 2), .ref (sz + 3), .ref (sz + 4), .ref (sz + 5)]), aI G 10, aI G 10, aI G 10, aI G 10, aI G 10, .inr (0, [.ref (sz + 0), .int 0, .int 0, .ref (sz + 7), .int 0, .int 0, .int 0, .int 0, .int 0, .int 0, .int 0]), aI G 64, .inr (1, [.ref (sz + 6), .ref (sz + 9), .int 0]), aP G 8, .inr (9, [.int 0, .ref (sz + 11), .int 0, .ref (sz + 12), .ref (sz + 13), .ref (sz + 14)]), aI G 400, aI G 401, aI G 401, aI G 401, .inr (7, [.ref (sz + 10), .int 0, .ref (sz + 16), .int 0, .int (-1)]), aI G 400, .inr (4, [.ref (sz + 0), .ref (sz + 8), .ref (sz + 18), .int 5, .ref (sz + 19), .int 0, .ref (sz + 20), .ref (sz + 21)]), aI G 10, aI G 10, aI G 32, aI G 32, .inr (8, [.ref (sz + 0), .ref (sz + 17), .ref (sz + 23), .int 0, .int 0, .ref (sz + 24), .ref (sz + 25), .ref (sz + 26), .ref (sz + 27), .int 0, .ref (sz + 28)]), aI G 10, aI G 10, aI G 10, aI G 10, aI G 10, aG G (sz + 29), aI G 10, aI G 10, aI G 10, aI G 10, aI G 10, aI G 10, aI G 10, aI G 10, .inr (10, [.ref (sz + 0), .ref (sz + 8), .ref (sz + 17), .ref (sz + 38), .ref (sz + 39), .ref (sz + 40), .ref (sz + 41), .ref (sz + 42)]), aI G 8, aI G 10, aI G 10, aI G 8, aI G 80, .inr (3, [.ref (sz + 0), .ref (sz + 8), .ref (sz + 37), .ref (sz + 44)]), aI G 4, .inr (2, [.ref (sz + 0), .ref (sz + 8), .ref (sz + 37), .int 0, .ref (sz + 46)]), aI G 8, .inr (5, [.int 0, .int 0, .int 0, .null, .int 0, .int 0, .null, .null, .int 0, .null])] (frI h0 sz) s H locs := w
  refine lv_dup F.1 F.2.1 di_X11_182 rfl ?_
  refine lv_iconst (v := 0) F.1 F.2.1 di_X11_183 (by decide) ?_
  refine lv_iconst (v := 0) F.1 F.2.1 di_X11_184 (by decide) ?_
  refine i_call (index := 0) (k := 0) (Es := [.inr (6, [.int 0, .int 4, .int 0, .ref (sz + 1), .ref (sz + 2), .ref (sz + 3), .ref (sz + 4), .ref (sz + 5)]), aI G 10, aI G 10, aI G 10, aI G 10, aI G 10, .inr (0, [.ref (sz + 0), .int 0, .int 0, .ref (sz + 7), .int 0, .int 0, .int 0, .int 0, .int 0, .int 0, .int 0]), aI G 64, .inr (1, [.ref (sz + 6), .ref (sz + 9), .int 0]), aP G 8, .inr (9, [.int 0, .ref (sz + 11), .int 0, .ref (sz + 12), .ref (sz + 13), .ref (sz + 14)]), aI G 400, aI G 401, aI G 401, aI G 401, .inr (7, [.ref (sz + 10), .int 0, .ref (sz + 16), .int 0, .int (-1)]), aI G 400, .inr (4, [.ref (sz + 0), .ref (sz + 8), .ref (sz + 18), .int 5, .ref (sz + 19), .int 0, .ref (sz + 20), .ref (sz + 21)]), aI G 10, aI G 10, aI G 32, aI G 32, .inr (8, [.ref (sz + 0), .ref (sz + 17), .ref (sz + 23), .int 0, .int 0, .ref (sz + 24), .ref (sz + 25), .ref (sz + 26), .ref (sz + 27), .int 0, .ref (sz + 28)]), aI G 10, aI G 10, aI G 10, aI G 10, aI G 10, aG G (sz + 29), aI G 10, aI G 10, aI G 10, aI G 10, aI G 10, aI G 10, aI G 10, aI G 10, .inr (10, [.ref (sz + 0), .ref (sz + 8), .ref (sz + 17), .ref (sz + 38), .ref (sz + 39), .ref (sz + 40), .ref (sz + 41), .ref (sz + 42)]), aI G 8, aI G 10, aI G 10, aI G 8, aI G 80, .inr (3, [.ref (sz + 0), .ref (sz + 8), .ref (sz + 37), .ref (sz + 44)]), aI G 4, .inr (2, [.ref (sz + 0), .ref (sz + 8), .ref (sz + 37), .int 0, .ref (sz + 46)]), aI G 8]) (rest := [.ref (sz + 47), .ref h0]) (as := [.int 0, .int 0]) F ex hl.1 (ic_X5 l G _ _ (0) (0)) wm_X5 rfl (fun hS hp => va_runI (As := [.int 0, .int 0]) hS (ic_X5 l G _ _ (0) (0)) (cwI 2 hS.2.2.2.2 (GoodIn_M wm_X5) rfl rfl rfl (hS.2.2.2.2 _ wz_X5) (hS.2.2.2.2 _ wq_X11_185) (hS.2.2.2.2 _ wi_X5) rfl (by decide +kernel) ⟨Nat.le_of_ble_eq_true rfl, Nat.le_of_ble_eq_true rfl⟩) hp rfl rfl hl.1 rfl (lv_room (Nat.le_of_ble_eq_true rfl)) di_X11_185 ⟨Nat.le_of_ble_eq_true rfl, Nat.le_of_ble_eq_true rfl⟩) w (hb _) rfl (fun H locs w => ?_)
  have w : Wi G.1 (tyA G) [(h0, .inr (11, [.ref (sz + 0), .ref (sz + 8), .ref (sz + 6), .ref (sz + 10), .ref (sz + 15), .ref (sz + 17), .ref (sz + 22), .ref (sz + 37), .ref (sz + 43), .ref (sz + 45), .null, .int 0, .int 0]))] sz [.inr (6, [.int 0, .int 4, .int 0, .ref (sz + 1), .ref (sz + 2), .ref (sz + 3), .ref (sz + 4), .ref (sz + 5)]), aI G 10, aI G 10, aI G 10, aI G 10, aI G 10, .inr (0, [.ref (sz + 0), .int 0, .int 0, .ref (sz + 7), .int 0, .int 0, .int 0, .int 0, .int 0, .int 0, .int 0]), aI G 64, .inr (1, [.ref (sz + 6), .ref (sz + 9), .int 0]), aP G 8, .inr (9, [.int 0, .ref (sz + 11), .int 0, .ref (sz + 12), .ref (sz + 13), .ref (sz + 14)]), aI G 400, aI G 401, aI G 401, aI G 401, .inr (7, [.ref (sz + 10), .int 0, .ref (sz + 16), .int 0, .int (-1)]), aI G 400, .inr (4, [.ref (sz + 0), .ref (sz + 8), .ref (sz + 18), .int 5, .ref (sz + 19), .int 0, .ref (sz + 20), .ref (sz + 21)]), aI G 10, aI G 10, aI G 32, aI G 32, .inr (8, [.ref (sz + 0), .ref (sz + 17), .ref (sz + 23), .int 0, .int 0, .ref (sz + 24), .ref (sz + 25), .ref (sz + 26), .ref (sz + 27), .int 0, .ref (sz + 28)]), aI G 10, aI G 10, aI G 10, aI G 10, aI G 10, aG G (sz + 29), aI G 10, aI G 10, aI G 10, aI G 10, aI G 10, aI G 10, aI G 10, aI G 10, .inr (10, [.ref (sz + 0), .ref (sz + 8), .ref (sz + 17), .ref (sz + 38), .ref (sz + 39), .ref (sz + 40), .ref (sz + 41), .ref (sz + 42)]), aI G 8, aI G 10, aI G 10, aI G 8, aI G 80, .inr (3, [.ref (sz + 0), .ref (sz + 8), .ref (sz + 37), .ref (sz + 44)]), aI G 4, .inr (2, [.ref (sz + 0), .ref (sz + 8), .ref (sz + 37), .int 0, .ref (sz + 46)]), aI G 8, .inr (5, [.int 0, .int 0, .int 0, .ref (sz + 48), .int 0, .int 0, .ref (sz + 49), .ref (sz + 50), .int 0, .ref (sz + 51)]), aI G 400, aI G 1024, aB G 1024, aI G 1024] (frI h0 sz) s H locs := w
  refine i_put F inT_11 tyX11 tyX11_ok nmX11 rfl fi_X11_10 hi rfl w (ty := tyX11 10) (v := .ref (sz + 47)) (tyX11_ok 10 (by decide)) rfl rfl (Nat.blt_eq.mp rfl) di_X11_188 (fun H locs w => ?_)
  have w : Wi G.1 (tyA G) [(h0, .inr (11, [.ref (sz + 0), .ref (sz + 8), .ref (sz + 6), .ref (sz + 10), .ref (sz + 15), .ref (sz + 17), .ref (sz + 22), .ref (sz + 37), .ref (sz + 43), .ref (sz + 45), .ref (sz + 47), .int 0, .int 0]))] sz [.inr (6, [.int 0, .int 4, .int 0, .ref (sz + 1), .ref (sz + 2), .ref (sz + 3), .ref (sz + 4), .ref (sz + 5)]), aI G 10, aI G 10, aI G 10, aI G 10, aI G 10, .inr (0, [.ref (sz + 0), .int 0, .int 0, .ref (sz + 7), .int 0, .int 0, .int 0, .int 0, .int 0, .int 0, .int 0]), aI G 64, .inr (1, [.ref (sz + 6), .ref (sz + 9), .int 0]), aP G 8, .inr (9, [.int 0, .ref (sz + 11), .int 0, .ref (sz + 12), .ref (sz + 13), .ref (sz + 14)]), aI G 400, aI G 401, aI G 401, aI G 401, .inr (7, [.ref (sz + 10), .int 0, .ref (sz + 16), .int 0, .int (-1)]), aI G 400, .inr (4, [.ref (sz + 0), .ref (sz + 8), .ref (sz + 18), .int 5, .ref (sz + 19), .int 0, .ref (sz + 20), .ref (sz + 21)]), aI G 10, aI G 10, aI G 32, aI G 32, .inr (8, [.ref (sz + 0), .ref (sz + 17), .ref (sz + 23), .int 0, .int 0, .ref (sz + 24), .ref (sz + 25), .ref (sz + 26), .ref (sz + 27), .int 0, .ref (sz + 28)]), aI G 10, aI G 10, aI G 10, aI G 10, aI G 10, aG G (sz + 29), aI G 10, aI G 10, aI G 10, aI G 10, aI G 10, aI G 10, aI G 10, aI G 10, .inr (10, [.ref (sz + 0), .ref (sz + 8), .ref (sz + 17), .ref (sz + 38), .ref (sz + 39), .ref (sz + 40), .ref (sz + 41), .ref (sz + 42)]), aI G 8, aI G 10, aI G 10, aI G 8, aI G 80, .inr (3, [.ref (sz + 0), .ref (sz + 8), .ref (sz + 37), .ref (sz + 44)]), aI G 4, .inr (2, [.ref (sz + 0), .ref (sz + 8), .ref (sz + 37), .int 0, .ref (sz + 46)]), aI G 8, .inr (5, [.int 0, .int 0, .int 0, .ref (sz + 48), .int 0, .int 0, .ref (sz + 49), .ref (sz + 50), .int 0, .ref (sz + 51)]), aI G 400, aI G 1024, aB G 1024, aI G 1024] (frI h0 sz) s H locs := w
  refine lv_aload_n F.1 F.2.1 di_X11_191 rfl (lv_at hl 0 rfl) ?_
  refine lv_iconst (v := (-1)) F.1 F.2.1 di_X11_192 (by decide) ?_
  refine i_put F inT_11 tyX11 tyX11_ok nmX11 rfl fi_X11_12 hi rfl w (ty := tyX11 12) (v := .int (-1)) (tyX11_ok 12 (by decide)) rfl rfl (Nat.blt_eq.mp rfl) di_X11_193 (fun H locs w => ?_)
  have w : Wi G.1 (tyA G) [(h0, .inr (11, [.ref (sz + 0), .ref (sz + 8), .ref (sz + 6), .ref (sz + 10), .ref (sz + 15), .ref (sz + 17), .ref (sz + 22), .ref (sz + 37), .ref (sz + 43), .ref (sz + 45), .ref (sz + 47), .int 0, .int (-1)]))] sz [.inr (6, [.int 0, .int 4, .int 0, .ref (sz + 1), .ref (sz + 2), .ref (sz + 3), .ref (sz + 4), .ref (sz + 5)]), aI G 10, aI G 10, aI G 10, aI G 10, aI G 10, .inr (0, [.ref (sz + 0), .int 0, .int 0, .ref (sz + 7), .int 0, .int 0, .int 0, .int 0, .int 0, .int 0, .int 0]), aI G 64, .inr (1, [.ref (sz + 6), .ref (sz + 9), .int 0]), aP G 8, .inr (9, [.int 0, .ref (sz + 11), .int 0, .ref (sz + 12), .ref (sz + 13), .ref (sz + 14)]), aI G 400, aI G 401, aI G 401, aI G 401, .inr (7, [.ref (sz + 10), .int 0, .ref (sz + 16), .int 0, .int (-1)]), aI G 400, .inr (4, [.ref (sz + 0), .ref (sz + 8), .ref (sz + 18), .int 5, .ref (sz + 19), .int 0, .ref (sz + 20), .ref (sz + 21)]), aI G 10, aI G 10, aI G 32, aI G 32, .inr (8, [.ref (sz + 0), .ref (sz + 17), .ref (sz + 23), .int 0, .int 0, .ref (sz + 24), .ref (sz + 25), .ref (sz + 26), .ref (sz + 27), .int 0, .ref (sz + 28)]), aI G 10, aI G 10, aI G 10, aI G 10, aI G 10, aG G (sz + 29), aI G 10, aI G 10, aI G 10, aI G 10, aI G 10, aI G 10, aI G 10, aI G 10, .inr (10, [.ref (sz + 0), .ref (sz + 8), .ref (sz + 17), .ref (sz + 38), .ref (sz + 39), .ref (sz + 40), .ref (sz + 41), .ref (sz + 42)]), aI G 8, aI G 10, aI G 10, aI G 8, aI G 80, .inr (3, [.ref (sz + 0), .ref (sz + 8), .ref (sz + 37), .ref (sz + 44)]), aI G 4, .inr (2, [.ref (sz + 0), .ref (sz + 8), .ref (sz + 37), .int 0, .ref (sz + 46)]), aI G 8, .inr (5, [.int 0, .int 0, .int 0, .ref (sz + 48), .int 0, .int 0, .ref (sz + 49), .ref (sz + 50), .int 0, .ref (sz + 51)]), aI G 400, aI G 1024, aB G 1024, aI G 1024] (frI h0 sz) s H locs := w
  exact i_ret F rfl w di_X11_196
