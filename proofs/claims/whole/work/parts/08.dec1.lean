theorem dX0_init_0 : decode cX0_init 0 = .ok (.aload_n 0, 1) := by decide +kernel
theorem dX0_init_1 : decode cX0_init 1 = .ok (.invokespecial 3, 3) := by decide +kernel
theorem dX0_init_4 : decode cX0_init 4 = .ok (.aload_n 0, 1) := by decide +kernel
theorem dX0_init_5 : decode cX0_init 5 = .ok (.bipush 64, 2) := by decide +kernel
theorem dX0_init_7 : decode cX0_init 7 = .ok (.newarray .int, 2) := by decide +kernel
theorem dX0_init_9 : decode cX0_init 9 = .ok (.putfield 11, 3) := by decide +kernel
theorem dX0_init_12 : decode cX0_init 12 = .ok (.aload_n 0, 1) := by decide +kernel
theorem dX0_init_13 : decode cX0_init 13 = .ok (.aload_n 1, 1) := by decide +kernel
theorem dX0_init_14 : decode cX0_init 14 = .ok (.putfield 15, 3) := by decide +kernel
theorem dX0_init_17 : decode cX0_init 17 = .ok (.return_, 1) := by decide +kernel
theorem dX0_ask_0 : decode cX0_ask 0 = .ok (.aload_n 0, 1) := by decide +kernel
theorem dX0_ask_1 : decode cX0_ask 1 = .ok (.iload_n 2, 1) := by decide +kernel
theorem dX0_ask_2 : decode cX0_ask 2 = .ok (.invokevirtual 19, 3) := by decide +kernel
theorem dX0_ask_5 : decode cX0_ask 5 = .ok (.aload_n 0, 1) := by decide +kernel
theorem dX0_ask_6 : decode cX0_ask 6 = .ok (.aload_n 1, 1) := by decide +kernel
theorem dX0_ask_7 : decode cX0_ask 7 = .ok (.getfield 23, 3) := by decide +kernel
theorem dX0_ask_10 : decode cX0_ask 10 = .ok (.putfield 29, 3) := by decide +kernel
theorem dX0_ask_13 : decode cX0_ask 13 = .ok (.aload_n 0, 1) := by decide +kernel
theorem dX0_ask_14 : decode cX0_ask 14 = .ok (.iconst 0, 1) := by decide +kernel
theorem dX0_ask_15 : decode cX0_ask 15 = .ok (.putfield 30, 3) := by decide +kernel
theorem dX0_ask_18 : decode cX0_ask 18 = .ok (.aload_n 0, 1) := by decide +kernel
theorem dX0_ask_19 : decode cX0_ask 19 = .ok (.iconst 0, 1) := by decide +kernel
theorem dX0_ask_20 : decode cX0_ask 20 = .ok (.putfield 33, 3) := by decide +kernel
theorem dX0_ask_23 : decode cX0_ask 23 = .ok (.aload_n 0, 1) := by decide +kernel
theorem dX0_ask_24 : decode cX0_ask 24 = .ok (.iconst 0, 1) := by decide +kernel
theorem dX0_ask_25 : decode cX0_ask 25 = .ok (.putfield 36, 3) := by decide +kernel
theorem dX0_ask_28 : decode cX0_ask 28 = .ok (.iconst 0, 1) := by decide +kernel
theorem dX0_ask_29 : decode cX0_ask 29 = .ok (.istore_n 3, 1) := by decide +kernel
theorem dX0_ask_30 : decode cX0_ask 30 = .ok (.iload_n 3, 1) := by decide +kernel
theorem dX0_ask_31 : decode cX0_ask 31 = .ok (.aload_n 1, 1) := by decide +kernel
theorem dX0_ask_32 : decode cX0_ask 32 = .ok (.getfield 40, 3) := by decide +kernel
theorem dX0_ask_35 : decode cX0_ask 35 = .ok (.if_icmp .ge 38, 3) := by decide +kernel
theorem dX0_ask_38 : decode cX0_ask 38 = .ok (.aload_n 1, 1) := by decide +kernel
theorem dX0_ask_39 : decode cX0_ask 39 = .ok (.getfield 43, 3) := by decide +kernel
theorem dX0_ask_42 : decode cX0_ask 42 = .ok (.iload_n 3, 1) := by decide +kernel
theorem dX0_ask_43 : decode cX0_ask 43 = .ok (.iaload, 1) := by decide +kernel
theorem dX0_ask_44 : decode cX0_ask 44 = .ok (.istore 4, 2) := by decide +kernel
theorem dX0_ask_46 : decode cX0_ask 46 = .ok (.iload 4, 2) := by decide +kernel
theorem dX0_ask_48 : decode cX0_ask 48 = .ok (.ifCond .lt 12, 3) := by decide +kernel
theorem dX0_ask_51 : decode cX0_ask 51 = .ok (.aload_n 0, 1) := by decide +kernel
theorem dX0_ask_52 : decode cX0_ask 52 = .ok (.iload 4, 2) := by decide +kernel
theorem dX0_ask_54 : decode cX0_ask 54 = .ok (.invokevirtual 46, 3) := by decide +kernel
theorem dX0_ask_57 : decode cX0_ask 57 = .ok (.goto 10, 3) := by decide +kernel
theorem dX0_ask_60 : decode cX0_ask 60 = .ok (.aload_n 0, 1) := by decide +kernel
theorem dX0_ask_61 : decode cX0_ask 61 = .ok (.iload 4, 2) := by decide +kernel
theorem dX0_ask_63 : decode cX0_ask 63 = .ok (.ineg, 1) := by decide +kernel
theorem dX0_ask_64 : decode cX0_ask 64 = .ok (.invokevirtual 49, 3) := by decide +kernel
theorem dX0_ask_67 : decode cX0_ask 67 = .ok (.iinc 3 1, 3) := by decide +kernel
theorem dX0_ask_70 : decode cX0_ask 70 = .ok (.goto (-40), 3) := by decide +kernel
theorem dX0_ask_73 : decode cX0_ask 73 = .ok (.aload_n 0, 1) := by decide +kernel
theorem dX0_ask_74 : decode cX0_ask 74 = .ok (.aload_n 0, 1) := by decide +kernel
theorem dX0_ask_75 : decode cX0_ask 75 = .ok (.getfield 15, 3) := by decide +kernel
theorem dX0_ask_78 : decode cX0_ask 78 = .ok (.iload_n 2, 1) := by decide +kernel
theorem dX0_ask_79 : decode cX0_ask 79 = .ok (.aload_n 1, 1) := by decide +kernel
theorem dX0_ask_80 : decode cX0_ask 80 = .ok (.getfield 52, 3) := by decide +kernel
theorem dX0_ask_83 : decode cX0_ask 83 = .ok (.invokevirtual 55, 3) := by decide +kernel
theorem dX0_ask_86 : decode cX0_ask 86 = .ok (.putfield 61, 3) := by decide +kernel
theorem dX0_ask_89 : decode cX0_ask 89 = .ok (.aload_n 0, 1) := by decide +kernel
theorem dX0_ask_90 : decode cX0_ask 90 = .ok (.getfield 61, 3) := by decide +kernel
theorem dX0_ask_93 : decode cX0_ask 93 = .ok (.ifCond .ne 15, 3) := by decide +kernel
theorem dX0_ask_96 : decode cX0_ask 96 = .ok (.aload_n 0, 1) := by decide +kernel
theorem dX0_ask_97 : decode cX0_ask 97 = .ok (.getfield 36, 3) := by decide +kernel
theorem dX0_ask_100 : decode cX0_ask 100 = .ok (.ifCond .eq 8, 3) := by decide +kernel
theorem dX0_ask_103 : decode cX0_ask 103 = .ok (.aload_n 0, 1) := by decide +kernel
theorem dX0_ask_104 : decode cX0_ask 104 = .ok (.iconst 5, 1) := by decide +kernel
theorem dX0_ask_105 : decode cX0_ask 105 = .ok (.putfield 61, 3) := by decide +kernel
theorem dX0_ask_108 : decode cX0_ask 108 = .ok (.return_, 1) := by decide +kernel
theorem dX0_lookAt_0 : decode cX0_lookAt 0 = .ok (.aload_n 0, 1) := by decide +kernel
theorem dX0_lookAt_1 : decode cX0_lookAt 1 = .ok (.iload_n 1, 1) := by decide +kernel
theorem dX0_lookAt_2 : decode cX0_lookAt 2 = .ok (.putfield 64, 3) := by decide +kernel
theorem dX0_lookAt_5 : decode cX0_lookAt 5 = .ok (.aload_n 0, 1) := by decide +kernel
theorem dX0_lookAt_6 : decode cX0_lookAt 6 = .ok (.iconst 0, 1) := by decide +kernel
theorem dX0_lookAt_7 : decode cX0_lookAt 7 = .ok (.putfield 67, 3) := by decide +kernel
theorem dX0_lookAt_10 : decode cX0_lookAt 10 = .ok (.aload_n 0, 1) := by decide +kernel
theorem dX0_lookAt_11 : decode cX0_lookAt 11 = .ok (.iconst 0, 1) := by decide +kernel
theorem dX0_lookAt_12 : decode cX0_lookAt 12 = .ok (.putfield 70, 3) := by decide +kernel
theorem dX0_lookAt_15 : decode cX0_lookAt 15 = .ok (.aload_n 0, 1) := by decide +kernel
theorem dX0_lookAt_16 : decode cX0_lookAt 16 = .ok (.iconst 0, 1) := by decide +kernel
theorem dX0_lookAt_17 : decode cX0_lookAt 17 = .ok (.putfield 73, 3) := by decide +kernel
theorem dX0_lookAt_20 : decode cX0_lookAt 20 = .ok (.iconst 0, 1) := by decide +kernel
theorem dX0_lookAt_21 : decode cX0_lookAt 21 = .ok (.istore_n 2, 1) := by decide +kernel
theorem dX0_lookAt_22 : decode cX0_lookAt 22 = .ok (.iload_n 2, 1) := by decide +kernel
theorem dX0_lookAt_23 : decode cX0_lookAt 23 = .ok (.aload_n 0, 1) := by decide +kernel
theorem dX0_lookAt_24 : decode cX0_lookAt 24 = .ok (.getfield 15, 3) := by decide +kernel
theorem dX0_lookAt_27 : decode cX0_lookAt 27 = .ok (.getfield 76, 3) := by decide +kernel
theorem dX0_lookAt_30 : decode cX0_lookAt 30 = .ok (.if_icmp .ge 101, 3) := by decide +kernel
theorem dX0_lookAt_33 : decode cX0_lookAt 33 = .ok (.iload_n 1, 1) := by decide +kernel
theorem dX0_lookAt_34 : decode cX0_lookAt 34 = .ok (.iload_n 2, 1) := by decide +kernel
theorem dX0_lookAt_35 : decode cX0_lookAt 35 = .ok (.invokestatic 79, 3) := by decide +kernel
theorem dX0_lookAt_38 : decode cX0_lookAt 38 = .ok (.ifCond .eq 87, 3) := by decide +kernel
theorem dX0_lookAt_41 : decode cX0_lookAt 41 = .ok (.aload_n 0, 1) := by decide +kernel
theorem dX0_lookAt_42 : decode cX0_lookAt 42 = .ok (.getfield 67, 3) := by decide +kernel
theorem dX0_lookAt_45 : decode cX0_lookAt 45 = .ok (.ifCond .eq 19, 3) := by decide +kernel
theorem dX0_lookAt_48 : decode cX0_lookAt 48 = .ok (.aload_n 0, 1) := by decide +kernel
theorem dX0_lookAt_49 : decode cX0_lookAt 49 = .ok (.getfield 15, 3) := by decide +kernel
theorem dX0_lookAt_52 : decode cX0_lookAt 52 = .ok (.getfield 83, 3) := by decide +kernel
theorem dX0_lookAt_55 : decode cX0_lookAt 55 = .ok (.iload_n 2, 1) := by decide +kernel
theorem dX0_lookAt_56 : decode cX0_lookAt 56 = .ok (.iaload, 1) := by decide +kernel
theorem dX0_lookAt_57 : decode cX0_lookAt 57 = .ok (.aload_n 0, 1) := by decide +kernel
theorem dX0_lookAt_58 : decode cX0_lookAt 58 = .ok (.getfield 70, 3) := by decide +kernel
theorem dX0_lookAt_61 : decode cX0_lookAt 61 = .ok (.if_icmp .ge 16, 3) := by decide +kernel
theorem dX0_lookAt_64 : decode cX0_lookAt 64 = .ok (.aload_n 0, 1) := by decide +kernel
theorem dX0_lookAt_65 : decode cX0_lookAt 65 = .ok (.aload_n 0, 1) := by decide +kernel
theorem dX0_lookAt_66 : decode cX0_lookAt 66 = .ok (.getfield 15, 3) := by decide +kernel
theorem dX0_lookAt_69 : decode cX0_lookAt 69 = .ok (.getfield 83, 3) := by decide +kernel
theorem dX0_lookAt_72 : decode cX0_lookAt 72 = .ok (.iload_n 2, 1) := by decide +kernel
theorem dX0_lookAt_73 : decode cX0_lookAt 73 = .ok (.iaload, 1) := by decide +kernel
theorem dX0_lookAt_74 : decode cX0_lookAt 74 = .ok (.putfield 70, 3) := by decide +kernel
theorem dX0_lookAt_77 : decode cX0_lookAt 77 = .ok (.aload_n 0, 1) := by decide +kernel
theorem dX0_lookAt_78 : decode cX0_lookAt 78 = .ok (.aload_n 0, 1) := by decide +kernel
theorem dX0_lookAt_79 : decode cX0_lookAt 79 = .ok (.getfield 73, 3) := by decide +kernel
theorem dX0_lookAt_82 : decode cX0_lookAt 82 = .ok (.aload_n 0, 1) := by decide +kernel
theorem dX0_lookAt_83 : decode cX0_lookAt 83 = .ok (.getfield 15, 3) := by decide +kernel
theorem dX0_lookAt_86 : decode cX0_lookAt 86 = .ok (.getfield 86, 3) := by decide +kernel
theorem dX0_lookAt_89 : decode cX0_lookAt 89 = .ok (.iload_n 2, 1) := by decide +kernel
theorem dX0_lookAt_90 : decode cX0_lookAt 90 = .ok (.iaload, 1) := by decide +kernel
theorem dX0_lookAt_91 : decode cX0_lookAt 91 = .ok (.invokestatic 89, 3) := by decide +kernel
theorem dX0_lookAt_94 : decode cX0_lookAt 94 = .ok (.putfield 73, 3) := by decide +kernel
theorem dX0_lookAt_97 : decode cX0_lookAt 97 = .ok (.aload_n 0, 1) := by decide +kernel
theorem dX0_lookAt_98 : decode cX0_lookAt 98 = .ok (.dup, 1) := by decide +kernel
theorem dX0_lookAt_99 : decode cX0_lookAt 99 = .ok (.getfield 67, 3) := by decide +kernel
theorem dX0_lookAt_102 : decode cX0_lookAt 102 = .ok (.aload_n 0, 1) := by decide +kernel
theorem dX0_lookAt_103 : decode cX0_lookAt 103 = .ok (.getfield 15, 3) := by decide +kernel
theorem dX0_lookAt_106 : decode cX0_lookAt 106 = .ok (.getfield 86, 3) := by decide +kernel
theorem dX0_lookAt_109 : decode cX0_lookAt 109 = .ok (.iload_n 2, 1) := by decide +kernel
theorem dX0_lookAt_110 : decode cX0_lookAt 110 = .ok (.iaload, 1) := by decide +kernel
theorem dX0_lookAt_111 : decode cX0_lookAt 111 = .ok (.aload_n 0, 1) := by decide +kernel
theorem dX0_lookAt_112 : decode cX0_lookAt 112 = .ok (.getfield 15, 3) := by decide +kernel
theorem dX0_lookAt_115 : decode cX0_lookAt 115 = .ok (.getfield 83, 3) := by decide +kernel
theorem dX0_lookAt_118 : decode cX0_lookAt 118 = .ok (.iload_n 2, 1) := by decide +kernel
theorem dX0_lookAt_119 : decode cX0_lookAt 119 = .ok (.iaload, 1) := by decide +kernel
theorem dX0_lookAt_120 : decode cX0_lookAt 120 = .ok (.isub, 1) := by decide +kernel
theorem dX0_lookAt_121 : decode cX0_lookAt 121 = .ok (.iadd, 1) := by decide +kernel
theorem dX0_lookAt_122 : decode cX0_lookAt 122 = .ok (.putfield 67, 3) := by decide +kernel
theorem dX0_lookAt_125 : decode cX0_lookAt 125 = .ok (.iinc 2 1, 3) := by decide +kernel
theorem dX0_lookAt_128 : decode cX0_lookAt 128 = .ok (.goto (-106), 3) := by decide +kernel
theorem dX0_lookAt_131 : decode cX0_lookAt 131 = .ok (.return_, 1) := by decide +kernel
theorem dX0_push_0 : decode cX0_push 0 = .ok (.aload_n 0, 1) := by decide +kernel
theorem dX0_push_1 : decode cX0_push 1 = .ok (.getfield 33, 3) := by decide +kernel
theorem dX0_push_4 : decode cX0_push 4 = .ok (.bipush 64, 2) := by decide +kernel
theorem dX0_push_6 : decode cX0_push 6 = .ok (.if_icmp .lt 4, 3) := by decide +kernel
theorem dX0_push_9 : decode cX0_push 9 = .ok (.return_, 1) := by decide +kernel
theorem dX0_push_10 : decode cX0_push 10 = .ok (.aload_n 0, 1) := by decide +kernel
theorem dX0_push_11 : decode cX0_push 11 = .ok (.getfield 11, 3) := by decide +kernel
theorem dX0_push_14 : decode cX0_push 14 = .ok (.aload_n 0, 1) := by decide +kernel
theorem dX0_push_15 : decode cX0_push 15 = .ok (.getfield 33, 3) := by decide +kernel
theorem dX0_push_18 : decode cX0_push 18 = .ok (.iload_n 1, 1) := by decide +kernel
theorem dX0_push_19 : decode cX0_push 19 = .ok (.iastore, 1) := by decide +kernel
theorem dX0_push_20 : decode cX0_push 20 = .ok (.aload_n 0, 1) := by decide +kernel
theorem dX0_push_21 : decode cX0_push 21 = .ok (.dup, 1) := by decide +kernel
theorem dX0_push_22 : decode cX0_push 22 = .ok (.getfield 33, 3) := by decide +kernel
theorem dX0_push_25 : decode cX0_push 25 = .ok (.iconst 1, 1) := by decide +kernel
theorem dX0_push_26 : decode cX0_push 26 = .ok (.iadd, 1) := by decide +kernel
theorem dX0_push_27 : decode cX0_push 27 = .ok (.putfield 33, 3) := by decide +kernel
theorem dX0_push_30 : decode cX0_push 30 = .ok (.return_, 1) := by decide +kernel
theorem dX0_pop_0 : decode cX0_pop 0 = .ok (.aload_n 0, 1) := by decide +kernel
theorem dX0_pop_1 : decode cX0_pop 1 = .ok (.getfield 33, 3) := by decide +kernel
theorem dX0_pop_4 : decode cX0_pop 4 = .ok (.ifCond .gt 5, 3) := by decide +kernel
theorem dX0_pop_7 : decode cX0_pop 7 = .ok (.iconst 0, 1) := by decide +kernel
theorem dX0_pop_8 : decode cX0_pop 8 = .ok (.ireturn, 1) := by decide +kernel
theorem dX0_pop_9 : decode cX0_pop 9 = .ok (.aload_n 0, 1) := by decide +kernel
theorem dX0_pop_10 : decode cX0_pop 10 = .ok (.dup, 1) := by decide +kernel
theorem dX0_pop_11 : decode cX0_pop 11 = .ok (.getfield 33, 3) := by decide +kernel
theorem dX0_pop_14 : decode cX0_pop 14 = .ok (.iconst 1, 1) := by decide +kernel
theorem dX0_pop_15 : decode cX0_pop 15 = .ok (.isub, 1) := by decide +kernel
theorem dX0_pop_16 : decode cX0_pop 16 = .ok (.putfield 33, 3) := by decide +kernel
theorem dX0_pop_19 : decode cX0_pop 19 = .ok (.aload_n 0, 1) := by decide +kernel
theorem dX0_pop_20 : decode cX0_pop 20 = .ok (.getfield 11, 3) := by decide +kernel
theorem dX0_pop_23 : decode cX0_pop 23 = .ok (.aload_n 0, 1) := by decide +kernel
theorem dX0_pop_24 : decode cX0_pop 24 = .ok (.getfield 33, 3) := by decide +kernel
theorem dX0_pop_27 : decode cX0_pop 27 = .ok (.iaload, 1) := by decide +kernel
theorem dX0_pop_28 : decode cX0_pop 28 = .ok (.ireturn, 1) := by decide +kernel
theorem dX0_apply_0 : decode cX0_apply 0 = .ok (.iload_n 1, 1) := by decide +kernel
theorem dX0_apply_1 : decode cX0_apply 1 = .ok (.tableswitch 223 1 13 #[67, 90, 223, 223, 223, 131, 105, 144, 158, 169, 180, 191, 212], 67) := by decide +kernel
theorem dX0_apply_68 : decode cX0_apply 68 = .ok (.aload_n 0, 1) := by decide +kernel
theorem dX0_apply_69 : decode cX0_apply 69 = .ok (.aload_n 0, 1) := by decide +kernel
theorem dX0_apply_70 : decode cX0_apply 70 = .ok (.invokevirtual 94, 3) := by decide +kernel
theorem dX0_apply_73 : decode cX0_apply 73 = .ok (.ifCond .eq 7, 3) := by decide +kernel
theorem dX0_apply_76 : decode cX0_apply 76 = .ok (.iconst 1, 1) := by decide +kernel
theorem dX0_apply_77 : decode cX0_apply 77 = .ok (.goto 4, 3) := by decide +kernel
theorem dX0_apply_80 : decode cX0_apply 80 = .ok (.iconst 0, 1) := by decide +kernel
theorem dX0_apply_81 : decode cX0_apply 81 = .ok (.aload_n 0, 1) := by decide +kernel
theorem dX0_apply_82 : decode cX0_apply 82 = .ok (.invokevirtual 94, 3) := by decide +kernel
theorem dX0_apply_85 : decode cX0_apply 85 = .ok (.invokevirtual 98, 3) := by decide +kernel
theorem dX0_apply_88 : decode cX0_apply 88 = .ok (.goto 149, 3) := by decide +kernel
theorem dX0_apply_91 : decode cX0_apply 91 = .ok (.aload_n 0, 1) := by decide +kernel
theorem dX0_apply_92 : decode cX0_apply 92 = .ok (.invokevirtual 94, 3) := by decide +kernel
theorem dX0_apply_95 : decode cX0_apply 95 = .ok (.ifCond .eq 142, 3) := by decide +kernel
theorem dX0_apply_98 : decode cX0_apply 98 = .ok (.aload_n 0, 1) := by decide +kernel
theorem dX0_apply_99 : decode cX0_apply 99 = .ok (.iconst 1, 1) := by decide +kernel
theorem dX0_apply_100 : decode cX0_apply 100 = .ok (.putfield 36, 3) := by decide +kernel
theorem dX0_apply_103 : decode cX0_apply 103 = .ok (.goto 134, 3) := by decide +kernel
theorem dX0_apply_106 : decode cX0_apply 106 = .ok (.aload_n 0, 1) := by decide +kernel
theorem dX0_apply_107 : decode cX0_apply 107 = .ok (.aload_n 0, 1) := by decide +kernel
theorem dX0_apply_108 : decode cX0_apply 108 = .ok (.getfield 64, 3) := by decide +kernel
theorem dX0_apply_111 : decode cX0_apply 111 = .ok (.aload_n 0, 1) := by decide +kernel
theorem dX0_apply_112 : decode cX0_apply 112 = .ok (.invokevirtual 94, 3) := by decide +kernel
theorem dX0_apply_115 : decode cX0_apply 115 = .ok (.invokestatic 79, 3) := by decide +kernel
theorem dX0_apply_118 : decode cX0_apply 118 = .ok (.ifCond .eq 7, 3) := by decide +kernel
theorem dX0_apply_121 : decode cX0_apply 121 = .ok (.iconst 1, 1) := by decide +kernel
theorem dX0_apply_122 : decode cX0_apply 122 = .ok (.goto 4, 3) := by decide +kernel
theorem dX0_apply_125 : decode cX0_apply 125 = .ok (.iconst 0, 1) := by decide +kernel
theorem dX0_apply_126 : decode cX0_apply 126 = .ok (.invokevirtual 46, 3) := by decide +kernel
theorem dX0_apply_129 : decode cX0_apply 129 = .ok (.goto 108, 3) := by decide +kernel
theorem dX0_apply_132 : decode cX0_apply 132 = .ok (.aload_n 0, 1) := by decide +kernel
theorem dX0_apply_133 : decode cX0_apply 133 = .ok (.iconst 1, 1) := by decide +kernel
theorem dX0_apply_134 : decode cX0_apply 134 = .ok (.aload_n 0, 1) := by decide +kernel
theorem dX0_apply_135 : decode cX0_apply 135 = .ok (.invokevirtual 94, 3) := by decide +kernel
theorem dX0_apply_138 : decode cX0_apply 138 = .ok (.isub, 1) := by decide +kernel
theorem dX0_apply_139 : decode cX0_apply 139 = .ok (.invokevirtual 46, 3) := by decide +kernel
theorem dX0_apply_142 : decode cX0_apply 142 = .ok (.goto 95, 3) := by decide +kernel
theorem dX0_apply_145 : decode cX0_apply 145 = .ok (.aload_n 0, 1) := by decide +kernel
theorem dX0_apply_146 : decode cX0_apply 146 = .ok (.aload_n 0, 1) := by decide +kernel
theorem dX0_apply_147 : decode cX0_apply 147 = .ok (.getfield 64, 3) := by decide +kernel
theorem dX0_apply_150 : decode cX0_apply 150 = .ok (.invokestatic 102, 3) := by decide +kernel
theorem dX0_apply_153 : decode cX0_apply 153 = .ok (.invokevirtual 46, 3) := by decide +kernel
theorem dX0_apply_156 : decode cX0_apply 156 = .ok (.goto 81, 3) := by decide +kernel
theorem dX0_apply_159 : decode cX0_apply 159 = .ok (.aload_n 0, 1) := by decide +kernel
theorem dX0_apply_160 : decode cX0_apply 160 = .ok (.aload_n 0, 1) := by decide +kernel
theorem dX0_apply_161 : decode cX0_apply 161 = .ok (.getfield 67, 3) := by decide +kernel
theorem dX0_apply_164 : decode cX0_apply 164 = .ok (.invokevirtual 46, 3) := by decide +kernel
theorem dX0_apply_167 : decode cX0_apply 167 = .ok (.goto 70, 3) := by decide +kernel
theorem dX0_apply_170 : decode cX0_apply 170 = .ok (.aload_n 0, 1) := by decide +kernel
theorem dX0_apply_171 : decode cX0_apply 171 = .ok (.aload_n 0, 1) := by decide +kernel
theorem dX0_apply_172 : decode cX0_apply 172 = .ok (.getfield 70, 3) := by decide +kernel
theorem dX0_apply_175 : decode cX0_apply 175 = .ok (.invokevirtual 46, 3) := by decide +kernel
theorem dX0_apply_178 : decode cX0_apply 178 = .ok (.goto 59, 3) := by decide +kernel
theorem dX0_apply_181 : decode cX0_apply 181 = .ok (.aload_n 0, 1) := by decide +kernel
theorem dX0_apply_182 : decode cX0_apply 182 = .ok (.aload_n 0, 1) := by decide +kernel
theorem dX0_apply_183 : decode cX0_apply 183 = .ok (.getfield 73, 3) := by decide +kernel
theorem dX0_apply_186 : decode cX0_apply 186 = .ok (.invokevirtual 46, 3) := by decide +kernel
theorem dX0_apply_189 : decode cX0_apply 189 = .ok (.goto 48, 3) := by decide +kernel
theorem dX0_apply_192 : decode cX0_apply 192 = .ok (.aload_n 0, 1) := by decide +kernel
theorem dX0_apply_193 : decode cX0_apply 193 = .ok (.aload_n 0, 1) := by decide +kernel
theorem dX0_apply_194 : decode cX0_apply 194 = .ok (.getfield 73, 3) := by decide +kernel
theorem dX0_apply_197 : decode cX0_apply 197 = .ok (.aload_n 0, 1) := by decide +kernel
theorem dX0_apply_198 : decode cX0_apply 198 = .ok (.getfield 70, 3) := by decide +kernel
theorem dX0_apply_201 : decode cX0_apply 201 = .ok (.isub, 1) := by decide +kernel
theorem dX0_apply_202 : decode cX0_apply 202 = .ok (.aload_n 0, 1) := by decide +kernel
theorem dX0_apply_203 : decode cX0_apply 203 = .ok (.getfield 67, 3) := by decide +kernel
theorem dX0_apply_206 : decode cX0_apply 206 = .ok (.isub, 1) := by decide +kernel
theorem dX0_apply_207 : decode cX0_apply 207 = .ok (.invokevirtual 46, 3) := by decide +kernel
theorem dX0_apply_210 : decode cX0_apply 210 = .ok (.goto 27, 3) := by decide +kernel
theorem dX0_apply_213 : decode cX0_apply 213 = .ok (.aload_n 0, 1) := by decide +kernel
theorem dX0_apply_214 : decode cX0_apply 214 = .ok (.aload_n 0, 1) := by decide +kernel
theorem dX0_apply_215 : decode cX0_apply 215 = .ok (.getfield 29, 3) := by decide +kernel
theorem dX0_apply_218 : decode cX0_apply 218 = .ok (.invokevirtual 46, 3) := by decide +kernel
theorem dX0_apply_221 : decode cX0_apply 221 = .ok (.goto 16, 3) := by decide +kernel
theorem dX0_apply_224 : decode cX0_apply 224 = .ok (.aload_n 0, 1) := by decide +kernel
theorem dX0_apply_225 : decode cX0_apply 225 = .ok (.iload_n 1, 1) := by decide +kernel
theorem dX0_apply_226 : decode cX0_apply 226 = .ok (.aload_n 0, 1) := by decide +kernel
theorem dX0_apply_227 : decode cX0_apply 227 = .ok (.invokevirtual 94, 3) := by decide +kernel
theorem dX0_apply_230 : decode cX0_apply 230 = .ok (.aload_n 0, 1) := by decide +kernel
theorem dX0_apply_231 : decode cX0_apply 231 = .ok (.invokevirtual 94, 3) := by decide +kernel
theorem dX0_apply_234 : decode cX0_apply 234 = .ok (.invokevirtual 108, 3) := by decide +kernel
theorem dX0_apply_237 : decode cX0_apply 237 = .ok (.return_, 1) := by decide +kernel
theorem dX0_addIf_0 : decode cX0_addIf 0 = .ok (.iload_n 1, 1) := by decide +kernel
theorem dX0_addIf_1 : decode cX0_addIf 1 = .ok (.ifCond .eq 23, 3) := by decide +kernel
theorem dX0_addIf_4 : decode cX0_addIf 4 = .ok (.aload_n 0, 1) := by decide +kernel
theorem dX0_addIf_5 : decode cX0_addIf 5 = .ok (.ldc 112, 2) := by decide +kernel
theorem dX0_addIf_7 : decode cX0_addIf 7 = .ok (.ldc 113, 2) := by decide +kernel
theorem dX0_addIf_9 : decode cX0_addIf 9 = .ok (.aload_n 0, 1) := by decide +kernel
theorem dX0_addIf_10 : decode cX0_addIf 10 = .ok (.getfield 30, 3) := by decide +kernel
theorem dX0_addIf_13 : decode cX0_addIf 13 = .ok (.iload_n 2, 1) := by decide +kernel
theorem dX0_addIf_14 : decode cX0_addIf 14 = .ok (.iadd, 1) := by decide +kernel
theorem dX0_addIf_15 : decode cX0_addIf 15 = .ok (.invokestatic 114, 3) := by decide +kernel
theorem dX0_addIf_18 : decode cX0_addIf 18 = .ok (.invokestatic 89, 3) := by decide +kernel
theorem dX0_addIf_21 : decode cX0_addIf 21 = .ok (.putfield 30, 3) := by decide +kernel
theorem dX0_addIf_24 : decode cX0_addIf 24 = .ok (.return_, 1) := by decide +kernel
theorem dX0_joinTwo_0 : decode cX0_joinTwo 0 = .ok (.iload_n 1, 1) := by decide +kernel
theorem dX0_joinTwo_1 : decode cX0_joinTwo 1 = .ok (.lookupswitch 176 #[(5, 167), (42, 95), (43, 75), (45, 85), (47, 105), (60, 122), (61, 152), (62, 137)], 75) := by decide +kernel
theorem dX0_joinTwo_76 : decode cX0_joinTwo 76 = .ok (.iload_n 3, 1) := by decide +kernel
theorem dX0_joinTwo_77 : decode cX0_joinTwo 77 = .ok (.i2l, 1) := by decide +kernel
theorem dX0_joinTwo_78 : decode cX0_joinTwo 78 = .ok (.iload_n 2, 1) := by decide +kernel
theorem dX0_joinTwo_79 : decode cX0_joinTwo 79 = .ok (.i2l, 1) := by decide +kernel
theorem dX0_joinTwo_80 : decode cX0_joinTwo 80 = .ok (.ladd, 1) := by decide +kernel
theorem dX0_joinTwo_81 : decode cX0_joinTwo 81 = .ok (.lstore 4, 2) := by decide +kernel
theorem dX0_joinTwo_83 : decode cX0_joinTwo 83 = .ok (.goto 100, 3) := by decide +kernel
theorem dX0_joinTwo_86 : decode cX0_joinTwo 86 = .ok (.iload_n 3, 1) := by decide +kernel
theorem dX0_joinTwo_87 : decode cX0_joinTwo 87 = .ok (.i2l, 1) := by decide +kernel
theorem dX0_joinTwo_88 : decode cX0_joinTwo 88 = .ok (.iload_n 2, 1) := by decide +kernel
theorem dX0_joinTwo_89 : decode cX0_joinTwo 89 = .ok (.i2l, 1) := by decide +kernel
theorem dX0_joinTwo_90 : decode cX0_joinTwo 90 = .ok (.lsub, 1) := by decide +kernel
theorem dX0_joinTwo_91 : decode cX0_joinTwo 91 = .ok (.lstore 4, 2) := by decide +kernel
theorem dX0_joinTwo_93 : decode cX0_joinTwo 93 = .ok (.goto 90, 3) := by decide +kernel
theorem dX0_joinTwo_96 : decode cX0_joinTwo 96 = .ok (.iload_n 3, 1) := by decide +kernel
theorem dX0_joinTwo_97 : decode cX0_joinTwo 97 = .ok (.i2l, 1) := by decide +kernel
theorem dX0_joinTwo_98 : decode cX0_joinTwo 98 = .ok (.iload_n 2, 1) := by decide +kernel
theorem dX0_joinTwo_99 : decode cX0_joinTwo 99 = .ok (.i2l, 1) := by decide +kernel
theorem dX0_joinTwo_100 : decode cX0_joinTwo 100 = .ok (.lmul, 1) := by decide +kernel
theorem dX0_joinTwo_101 : decode cX0_joinTwo 101 = .ok (.lstore 4, 2) := by decide +kernel
theorem dX0_joinTwo_103 : decode cX0_joinTwo 103 = .ok (.goto 80, 3) := by decide +kernel
theorem dX0_joinTwo_106 : decode cX0_joinTwo 106 = .ok (.iload_n 2, 1) := by decide +kernel
theorem dX0_joinTwo_107 : decode cX0_joinTwo 107 = .ok (.ifCond .ne 7, 3) := by decide +kernel
theorem dX0_joinTwo_110 : decode cX0_joinTwo 110 = .ok (.lconst 0, 1) := by decide +kernel
theorem dX0_joinTwo_111 : decode cX0_joinTwo 111 = .ok (.goto 7, 3) := by decide +kernel
theorem dX0_joinTwo_114 : decode cX0_joinTwo 114 = .ok (.iload_n 3, 1) := by decide +kernel
theorem dX0_joinTwo_115 : decode cX0_joinTwo 115 = .ok (.iload_n 2, 1) := by decide +kernel
theorem dX0_joinTwo_116 : decode cX0_joinTwo 116 = .ok (.idiv, 1) := by decide +kernel
theorem dX0_joinTwo_117 : decode cX0_joinTwo 117 = .ok (.i2l, 1) := by decide +kernel
theorem dX0_joinTwo_118 : decode cX0_joinTwo 118 = .ok (.lstore 4, 2) := by decide +kernel
theorem dX0_joinTwo_120 : decode cX0_joinTwo 120 = .ok (.goto 63, 3) := by decide +kernel
theorem dX0_joinTwo_123 : decode cX0_joinTwo 123 = .ok (.iload_n 3, 1) := by decide +kernel
theorem dX0_joinTwo_124 : decode cX0_joinTwo 124 = .ok (.iload_n 2, 1) := by decide +kernel
theorem dX0_joinTwo_125 : decode cX0_joinTwo 125 = .ok (.if_icmp .ge 7, 3) := by decide +kernel
theorem dX0_joinTwo_128 : decode cX0_joinTwo 128 = .ok (.lconst 1, 1) := by decide +kernel
theorem dX0_joinTwo_129 : decode cX0_joinTwo 129 = .ok (.goto 4, 3) := by decide +kernel
theorem dX0_joinTwo_132 : decode cX0_joinTwo 132 = .ok (.lconst 0, 1) := by decide +kernel
theorem dX0_joinTwo_133 : decode cX0_joinTwo 133 = .ok (.lstore 4, 2) := by decide +kernel
theorem dX0_joinTwo_135 : decode cX0_joinTwo 135 = .ok (.goto 48, 3) := by decide +kernel
theorem dX0_joinTwo_138 : decode cX0_joinTwo 138 = .ok (.iload_n 3, 1) := by decide +kernel
theorem dX0_joinTwo_139 : decode cX0_joinTwo 139 = .ok (.iload_n 2, 1) := by decide +kernel
theorem dX0_joinTwo_140 : decode cX0_joinTwo 140 = .ok (.if_icmp .le 7, 3) := by decide +kernel
theorem dX0_joinTwo_143 : decode cX0_joinTwo 143 = .ok (.lconst 1, 1) := by decide +kernel
theorem dX0_joinTwo_144 : decode cX0_joinTwo 144 = .ok (.goto 4, 3) := by decide +kernel
theorem dX0_joinTwo_147 : decode cX0_joinTwo 147 = .ok (.lconst 0, 1) := by decide +kernel
theorem dX0_joinTwo_148 : decode cX0_joinTwo 148 = .ok (.lstore 4, 2) := by decide +kernel
theorem dX0_joinTwo_150 : decode cX0_joinTwo 150 = .ok (.goto 33, 3) := by decide +kernel
theorem dX0_joinTwo_153 : decode cX0_joinTwo 153 = .ok (.iload_n 3, 1) := by decide +kernel
theorem dX0_joinTwo_154 : decode cX0_joinTwo 154 = .ok (.iload_n 2, 1) := by decide +kernel
theorem dX0_joinTwo_155 : decode cX0_joinTwo 155 = .ok (.if_icmp .ne 7, 3) := by decide +kernel
theorem dX0_joinTwo_158 : decode cX0_joinTwo 158 = .ok (.lconst 1, 1) := by decide +kernel
theorem dX0_joinTwo_159 : decode cX0_joinTwo 159 = .ok (.goto 4, 3) := by decide +kernel
theorem dX0_joinTwo_162 : decode cX0_joinTwo 162 = .ok (.lconst 0, 1) := by decide +kernel
theorem dX0_joinTwo_163 : decode cX0_joinTwo 163 = .ok (.lstore 4, 2) := by decide +kernel
theorem dX0_joinTwo_165 : decode cX0_joinTwo 165 = .ok (.goto 18, 3) := by decide +kernel
theorem dX0_joinTwo_168 : decode cX0_joinTwo 168 = .ok (.iload_n 3, 1) := by decide +kernel
theorem dX0_joinTwo_169 : decode cX0_joinTwo 169 = .ok (.iload_n 2, 1) := by decide +kernel
theorem dX0_joinTwo_170 : decode cX0_joinTwo 170 = .ok (.iand, 1) := by decide +kernel
theorem dX0_joinTwo_171 : decode cX0_joinTwo 171 = .ok (.i2l, 1) := by decide +kernel
theorem dX0_joinTwo_172 : decode cX0_joinTwo 172 = .ok (.lstore 4, 2) := by decide +kernel
theorem dX0_joinTwo_174 : decode cX0_joinTwo 174 = .ok (.goto 9, 3) := by decide +kernel
theorem dX0_joinTwo_177 : decode cX0_joinTwo 177 = .ok (.iload_n 3, 1) := by decide +kernel
theorem dX0_joinTwo_178 : decode cX0_joinTwo 178 = .ok (.iload_n 2, 1) := by decide +kernel
theorem dX0_joinTwo_179 : decode cX0_joinTwo 179 = .ok (.ior, 1) := by decide +kernel
theorem dX0_joinTwo_180 : decode cX0_joinTwo 180 = .ok (.i2l, 1) := by decide +kernel
theorem dX0_joinTwo_181 : decode cX0_joinTwo 181 = .ok (.lstore 4, 2) := by decide +kernel
theorem dX0_joinTwo_183 : decode cX0_joinTwo 183 = .ok (.aload_n 0, 1) := by decide +kernel
theorem dX0_joinTwo_184 : decode cX0_joinTwo 184 = .ok (.ldc2_w 117, 3) := by decide +kernel
theorem dX0_joinTwo_187 : decode cX0_joinTwo 187 = .ok (.ldc2_w 119, 3) := by decide +kernel
theorem dX0_joinTwo_190 : decode cX0_joinTwo 190 = .ok (.lload 4, 2) := by decide +kernel
theorem dX0_joinTwo_192 : decode cX0_joinTwo 192 = .ok (.invokestatic 121, 3) := by decide +kernel
theorem dX0_joinTwo_195 : decode cX0_joinTwo 195 = .ok (.invokestatic 124, 3) := by decide +kernel
theorem dX0_joinTwo_198 : decode cX0_joinTwo 198 = .ok (.l2i, 1) := by decide +kernel
theorem dX0_joinTwo_199 : decode cX0_joinTwo 199 = .ok (.invokevirtual 46, 3) := by decide +kernel
theorem dX0_joinTwo_202 : decode cX0_joinTwo 202 = .ok (.return_, 1) := by decide +kernel
theorem dX1_init_0 : decode cX1_init 0 = .ok (.aload_n 0, 1) := by decide +kernel
theorem dX1_init_1 : decode cX1_init 1 = .ok (.invokespecial 3, 3) := by decide +kernel
theorem dX1_init_4 : decode cX1_init 4 = .ok (.aload_n 0, 1) := by decide +kernel
theorem dX1_init_5 : decode cX1_init 5 = .ok (.bipush 8, 2) := by decide +kernel
theorem dX1_init_7 : decode cX1_init 7 = .ok (.anewarray 9, 3) := by decide +kernel
theorem dX1_init_10 : decode cX1_init 10 = .ok (.putfield 11, 3) := by decide +kernel
theorem dX1_init_13 : decode cX1_init 13 = .ok (.aload_n 0, 1) := by decide +kernel
theorem dX1_init_14 : decode cX1_init 14 = .ok (.aload_n 1, 1) := by decide +kernel
theorem dX1_init_15 : decode cX1_init 15 = .ok (.putfield 17, 3) := by decide +kernel
theorem dX1_init_18 : decode cX1_init 18 = .ok (.return_, 1) := by decide +kernel
theorem dX1_isPerson_0 : decode cX1_isPerson 0 = .ok (.iload_n 1, 1) := by decide +kernel
theorem dX1_isPerson_1 : decode cX1_isPerson 1 = .ok (.ifCond .lt 15, 3) := by decide +kernel
theorem dX1_isPerson_4 : decode cX1_isPerson 4 = .ok (.iload_n 1, 1) := by decide +kernel
theorem dX1_isPerson_5 : decode cX1_isPerson 5 = .ok (.aload_n 0, 1) := by decide +kernel
theorem dX1_isPerson_6 : decode cX1_isPerson 6 = .ok (.getfield 21, 3) := by decide +kernel
theorem dX1_isPerson_9 : decode cX1_isPerson 9 = .ok (.if_icmp .ge 7, 3) := by decide +kernel
theorem dX1_isPerson_12 : decode cX1_isPerson 12 = .ok (.iconst 1, 1) := by decide +kernel
theorem dX1_isPerson_13 : decode cX1_isPerson 13 = .ok (.goto 4, 3) := by decide +kernel
theorem dX1_isPerson_16 : decode cX1_isPerson 16 = .ok (.iconst 0, 1) := by decide +kernel
theorem dX1_isPerson_17 : decode cX1_isPerson 17 = .ok (.ireturn, 1) := by decide +kernel
theorem dX1_add_0 : decode cX1_add 0 = .ok (.aload_n 0, 1) := by decide +kernel
theorem dX1_add_1 : decode cX1_add 1 = .ok (.getfield 21, 3) := by decide +kernel
theorem dX1_add_4 : decode cX1_add 4 = .ok (.bipush 8, 2) := by decide +kernel
theorem dX1_add_6 : decode cX1_add 6 = .ok (.if_icmp .lt 5, 3) := by decide +kernel
theorem dX1_add_9 : decode cX1_add 9 = .ok (.iconst (-1), 1) := by decide +kernel
theorem dX1_add_10 : decode cX1_add 10 = .ok (.ireturn, 1) := by decide +kernel
theorem dX1_add_11 : decode cX1_add 11 = .ok (.aload_n 0, 1) := by decide +kernel
theorem dX1_add_12 : decode cX1_add 12 = .ok (.getfield 11, 3) := by decide +kernel
theorem dX1_add_15 : decode cX1_add 15 = .ok (.aload_n 0, 1) := by decide +kernel
theorem dX1_add_16 : decode cX1_add 16 = .ok (.getfield 21, 3) := by decide +kernel
theorem dX1_add_19 : decode cX1_add 19 = .ok (.new 9, 3) := by decide +kernel
theorem dX1_add_22 : decode cX1_add 22 = .ok (.dup, 1) := by decide +kernel
theorem dX1_add_23 : decode cX1_add 23 = .ok (.iload_n 1, 1) := by decide +kernel
theorem dX1_add_24 : decode cX1_add 24 = .ok (.iload_n 2, 1) := by decide +kernel
theorem dX1_add_25 : decode cX1_add 25 = .ok (.invokespecial 25, 3) := by decide +kernel
theorem dX1_add_28 : decode cX1_add 28 = .ok (.aastore, 1) := by decide +kernel
theorem dX1_add_29 : decode cX1_add 29 = .ok (.aload_n 0, 1) := by decide +kernel
theorem dX1_add_30 : decode cX1_add 30 = .ok (.dup, 1) := by decide +kernel
theorem dX1_add_31 : decode cX1_add 31 = .ok (.getfield 21, 3) := by decide +kernel
theorem dX1_add_34 : decode cX1_add 34 = .ok (.iconst 1, 1) := by decide +kernel
theorem dX1_add_35 : decode cX1_add 35 = .ok (.iadd, 1) := by decide +kernel
theorem dX1_add_36 : decode cX1_add 36 = .ok (.putfield 21, 3) := by decide +kernel
theorem dX1_add_39 : decode cX1_add 39 = .ok (.aload_n 0, 1) := by decide +kernel
theorem dX1_add_40 : decode cX1_add 40 = .ok (.getfield 21, 3) := by decide +kernel
theorem dX1_add_43 : decode cX1_add 43 = .ok (.iconst 1, 1) := by decide +kernel
theorem dX1_add_44 : decode cX1_add 44 = .ok (.isub, 1) := by decide +kernel
theorem dX1_add_45 : decode cX1_add 45 = .ok (.ireturn, 1) := by decide +kernel
theorem dX1_forgetAll_0 : decode cX1_forgetAll 0 = .ok (.iconst 0, 1) := by decide +kernel
theorem dX1_forgetAll_1 : decode cX1_forgetAll 1 = .ok (.istore_n 1, 1) := by decide +kernel
theorem dX1_forgetAll_2 : decode cX1_forgetAll 2 = .ok (.iload_n 1, 1) := by decide +kernel
theorem dX1_forgetAll_3 : decode cX1_forgetAll 3 = .ok (.aload_n 0, 1) := by decide +kernel
theorem dX1_forgetAll_4 : decode cX1_forgetAll 4 = .ok (.getfield 21, 3) := by decide +kernel
theorem dX1_forgetAll_7 : decode cX1_forgetAll 7 = .ok (.if_icmp .ge 19, 3) := by decide +kernel
theorem dX1_forgetAll_10 : decode cX1_forgetAll 10 = .ok (.aload_n 0, 1) := by decide +kernel
theorem dX1_forgetAll_11 : decode cX1_forgetAll 11 = .ok (.getfield 11, 3) := by decide +kernel
theorem dX1_forgetAll_14 : decode cX1_forgetAll 14 = .ok (.iload_n 1, 1) := by decide +kernel
theorem dX1_forgetAll_15 : decode cX1_forgetAll 15 = .ok (.aaload, 1) := by decide +kernel
theorem dX1_forgetAll_16 : decode cX1_forgetAll 16 = .ok (.iconst 0, 1) := by decide +kernel
theorem dX1_forgetAll_17 : decode cX1_forgetAll 17 = .ok (.putfield 28, 3) := by decide +kernel
theorem dX1_forgetAll_20 : decode cX1_forgetAll 20 = .ok (.iinc 1 1, 3) := by decide +kernel
theorem dX1_forgetAll_23 : decode cX1_forgetAll 23 = .ok (.goto (-21), 3) := by decide +kernel
theorem dX1_forgetAll_26 : decode cX1_forgetAll 26 = .ok (.return_, 1) := by decide +kernel
theorem dX1_freshened_0 : decode cX1_freshened 0 = .ok (.aload_n 0, 1) := by decide +kernel
theorem dX1_freshened_1 : decode cX1_freshened 1 = .ok (.getfield 11, 3) := by decide +kernel
theorem dX1_freshened_4 : decode cX1_freshened 4 = .ok (.iload_n 1, 1) := by decide +kernel
theorem dX1_freshened_5 : decode cX1_freshened 5 = .ok (.aaload, 1) := by decide +kernel
theorem dX1_freshened_6 : decode cX1_freshened 6 = .ok (.aload_n 0, 1) := by decide +kernel
theorem dX1_freshened_7 : decode cX1_freshened 7 = .ok (.getfield 17, 3) := by decide +kernel
theorem dX1_freshened_10 : decode cX1_freshened 10 = .ok (.invokevirtual 32, 3) := by decide +kernel
theorem dX1_freshened_13 : decode cX1_freshened 13 = .ok (.aload_n 0, 1) := by decide +kernel
theorem dX1_freshened_14 : decode cX1_freshened 14 = .ok (.getfield 11, 3) := by decide +kernel
theorem dX1_freshened_17 : decode cX1_freshened 17 = .ok (.iload_n 1, 1) := by decide +kernel
theorem dX1_freshened_18 : decode cX1_freshened 18 = .ok (.aaload, 1) := by decide +kernel
theorem dX1_freshened_19 : decode cX1_freshened 19 = .ok (.areturn, 1) := by decide +kernel
theorem dX1_freshenAll_0 : decode cX1_freshenAll 0 = .ok (.iconst 0, 1) := by decide +kernel
theorem dX1_freshenAll_1 : decode cX1_freshenAll 1 = .ok (.istore_n 1, 1) := by decide +kernel
theorem dX1_freshenAll_2 : decode cX1_freshenAll 2 = .ok (.iload_n 1, 1) := by decide +kernel
theorem dX1_freshenAll_3 : decode cX1_freshenAll 3 = .ok (.aload_n 0, 1) := by decide +kernel
theorem dX1_freshenAll_4 : decode cX1_freshenAll 4 = .ok (.getfield 21, 3) := by decide +kernel
theorem dX1_freshenAll_7 : decode cX1_freshenAll 7 = .ok (.if_icmp .ge 22, 3) := by decide +kernel
theorem dX1_freshenAll_10 : decode cX1_freshenAll 10 = .ok (.aload_n 0, 1) := by decide +kernel
theorem dX1_freshenAll_11 : decode cX1_freshenAll 11 = .ok (.getfield 11, 3) := by decide +kernel
theorem dX1_freshenAll_14 : decode cX1_freshenAll 14 = .ok (.iload_n 1, 1) := by decide +kernel
theorem dX1_freshenAll_15 : decode cX1_freshenAll 15 = .ok (.aaload, 1) := by decide +kernel
theorem dX1_freshenAll_16 : decode cX1_freshenAll 16 = .ok (.aload_n 0, 1) := by decide +kernel
theorem dX1_freshenAll_17 : decode cX1_freshenAll 17 = .ok (.getfield 17, 3) := by decide +kernel
theorem dX1_freshenAll_20 : decode cX1_freshenAll 20 = .ok (.invokevirtual 32, 3) := by decide +kernel
theorem dX1_freshenAll_23 : decode cX1_freshenAll 23 = .ok (.iinc 1 1, 3) := by decide +kernel
theorem dX1_freshenAll_26 : decode cX1_freshenAll 26 = .ok (.goto (-24), 3) := by decide +kernel
theorem dX1_freshenAll_29 : decode cX1_freshenAll 29 = .ok (.return_, 1) := by decide +kernel
theorem dX1_allMoney_0 : decode cX1_allMoney 0 = .ok (.iconst 0, 1) := by decide +kernel
theorem dX1_allMoney_1 : decode cX1_allMoney 1 = .ok (.istore_n 1, 1) := by decide +kernel
theorem dX1_allMoney_2 : decode cX1_allMoney 2 = .ok (.iconst 0, 1) := by decide +kernel
theorem dX1_allMoney_3 : decode cX1_allMoney 3 = .ok (.istore_n 2, 1) := by decide +kernel
theorem dX1_allMoney_4 : decode cX1_allMoney 4 = .ok (.iload_n 2, 1) := by decide +kernel
theorem dX1_allMoney_5 : decode cX1_allMoney 5 = .ok (.aload_n 0, 1) := by decide +kernel
theorem dX1_allMoney_6 : decode cX1_allMoney 6 = .ok (.getfield 21, 3) := by decide +kernel
theorem dX1_allMoney_9 : decode cX1_allMoney 9 = .ok (.if_icmp .ge 21, 3) := by decide +kernel
theorem dX1_allMoney_12 : decode cX1_allMoney 12 = .ok (.iload_n 1, 1) := by decide +kernel
theorem dX1_allMoney_13 : decode cX1_allMoney 13 = .ok (.aload_n 0, 1) := by decide +kernel
theorem dX1_allMoney_14 : decode cX1_allMoney 14 = .ok (.getfield 11, 3) := by decide +kernel
theorem dX1_allMoney_17 : decode cX1_allMoney 17 = .ok (.iload_n 2, 1) := by decide +kernel
theorem dX1_allMoney_18 : decode cX1_allMoney 18 = .ok (.aaload, 1) := by decide +kernel
theorem dX1_allMoney_19 : decode cX1_allMoney 19 = .ok (.getfield 36, 3) := by decide +kernel
theorem dX1_allMoney_22 : decode cX1_allMoney 22 = .ok (.iadd, 1) := by decide +kernel
theorem dX1_allMoney_23 : decode cX1_allMoney 23 = .ok (.istore_n 1, 1) := by decide +kernel
theorem dX1_allMoney_24 : decode cX1_allMoney 24 = .ok (.iinc 2 1, 3) := by decide +kernel
theorem dX1_allMoney_27 : decode cX1_allMoney 27 = .ok (.goto (-23), 3) := by decide +kernel
theorem dX1_allMoney_30 : decode cX1_allMoney 30 = .ok (.iload_n 1, 1) := by decide +kernel
theorem dX1_allMoney_31 : decode cX1_allMoney 31 = .ok (.ireturn, 1) := by decide +kernel
theorem dX2_init_0 : decode cX2_init 0 = .ok (.aload_n 0, 1) := by decide +kernel
theorem dX2_init_1 : decode cX2_init 1 = .ok (.invokespecial 3, 3) := by decide +kernel
theorem dX2_init_4 : decode cX2_init 4 = .ok (.aload_n 0, 1) := by decide +kernel
theorem dX2_init_5 : decode cX2_init 5 = .ok (.bipush 8, 2) := by decide +kernel
theorem dX2_init_7 : decode cX2_init 7 = .ok (.newarray .int, 2) := by decide +kernel
theorem dX2_init_9 : decode cX2_init 9 = .ok (.putfield 9, 3) := by decide +kernel
theorem dX2_init_12 : decode cX2_init 12 = .ok (.aload_n 0, 1) := by decide +kernel
theorem dX2_init_13 : decode cX2_init 13 = .ok (.aload_n 1, 1) := by decide +kernel
theorem dX2_init_14 : decode cX2_init 14 = .ok (.putfield 15, 3) := by decide +kernel
theorem dX2_init_17 : decode cX2_init 17 = .ok (.aload_n 0, 1) := by decide +kernel
theorem dX2_init_18 : decode cX2_init 18 = .ok (.aload_n 2, 1) := by decide +kernel
theorem dX2_init_19 : decode cX2_init 19 = .ok (.putfield 19, 3) := by decide +kernel
theorem dX2_init_22 : decode cX2_init 22 = .ok (.aload_n 0, 1) := by decide +kernel
theorem dX2_init_23 : decode cX2_init 23 = .ok (.aload_n 3, 1) := by decide +kernel
theorem dX2_init_24 : decode cX2_init 24 = .ok (.putfield 23, 3) := by decide +kernel
theorem dX2_init_27 : decode cX2_init 27 = .ok (.return_, 1) := by decide +kernel
theorem dX2_find_0 : decode cX2_find 0 = .ok (.iconst 0, 1) := by decide +kernel
theorem dX2_find_1 : decode cX2_find 1 = .ok (.istore_n 2, 1) := by decide +kernel
theorem dX2_find_2 : decode cX2_find 2 = .ok (.iload_n 2, 1) := by decide +kernel
theorem dX2_find_3 : decode cX2_find 3 = .ok (.aload_n 0, 1) := by decide +kernel
theorem dX2_find_4 : decode cX2_find 4 = .ok (.getfield 19, 3) := by decide +kernel
theorem dX2_find_7 : decode cX2_find 7 = .ok (.getfield 27, 3) := by decide +kernel
theorem dX2_find_10 : decode cX2_find 10 = .ok (.if_icmp .gt 54, 3) := by decide +kernel
theorem dX2_find_13 : decode cX2_find 13 = .ok (.iconst 0, 1) := by decide +kernel
theorem dX2_find_14 : decode cX2_find 14 = .ok (.istore_n 3, 1) := by decide +kernel
theorem dX2_find_15 : decode cX2_find 15 = .ok (.iload_n 3, 1) := by decide +kernel
theorem dX2_find_16 : decode cX2_find 16 = .ok (.iconst 1, 1) := by decide +kernel
theorem dX2_find_17 : decode cX2_find 17 = .ok (.aload_n 0, 1) := by decide +kernel
theorem dX2_find_18 : decode cX2_find 18 = .ok (.getfield 19, 3) := by decide +kernel
theorem dX2_find_21 : decode cX2_find 21 = .ok (.getfield 27, 3) := by decide +kernel
theorem dX2_find_24 : decode cX2_find 24 = .ok (.ishl, 1) := by decide +kernel
theorem dX2_find_25 : decode cX2_find 25 = .ok (.if_icmp .ge 33, 3) := by decide +kernel
theorem dX2_find_28 : decode cX2_find 28 = .ok (.iload_n 3, 1) := by decide +kernel
theorem dX2_find_29 : decode cX2_find 29 = .ok (.invokestatic 33, 3) := by decide +kernel
theorem dX2_find_32 : decode cX2_find 32 = .ok (.iload_n 2, 1) := by decide +kernel
theorem dX2_find_33 : decode cX2_find 33 = .ok (.if_icmp .ne 19, 3) := by decide +kernel
theorem dX2_find_36 : decode cX2_find 36 = .ok (.aload_n 0, 1) := by decide +kernel
theorem dX2_find_37 : decode cX2_find 37 = .ok (.iload_n 3, 1) := by decide +kernel
theorem dX2_find_38 : decode cX2_find 38 = .ok (.iload_n 1, 1) := by decide +kernel
theorem dX2_find_39 : decode cX2_find 39 = .ok (.invokevirtual 39, 3) := by decide +kernel
theorem dX2_find_42 : decode cX2_find 42 = .ok (.ifCond .eq 10, 3) := by decide +kernel
theorem dX2_find_45 : decode cX2_find 45 = .ok (.aload_n 0, 1) := by decide +kernel
theorem dX2_find_46 : decode cX2_find 46 = .ok (.iload_n 3, 1) := by decide +kernel
theorem dX2_find_47 : decode cX2_find 47 = .ok (.putfield 43, 3) := by decide +kernel
theorem dX2_find_50 : decode cX2_find 50 = .ok (.iconst 1, 1) := by decide +kernel
theorem dX2_find_51 : decode cX2_find 51 = .ok (.ireturn, 1) := by decide +kernel
theorem dX2_find_52 : decode cX2_find 52 = .ok (.iinc 3 1, 3) := by decide +kernel
theorem dX2_find_55 : decode cX2_find 55 = .ok (.goto (-40), 3) := by decide +kernel
theorem dX2_find_58 : decode cX2_find 58 = .ok (.iinc 2 1, 3) := by decide +kernel
theorem dX2_find_61 : decode cX2_find 61 = .ok (.goto (-59), 3) := by decide +kernel
theorem dX2_find_64 : decode cX2_find 64 = .ok (.iconst 0, 1) := by decide +kernel
theorem dX2_find_65 : decode cX2_find 65 = .ok (.ireturn, 1) := by decide +kernel
theorem dX2_works_0 : decode cX2_works 0 = .ok (.iconst 0, 1) := by decide +kernel
theorem dX2_works_1 : decode cX2_works 1 = .ok (.istore_n 3, 1) := by decide +kernel
theorem dX2_works_2 : decode cX2_works 2 = .ok (.iload_n 3, 1) := by decide +kernel
theorem dX2_works_3 : decode cX2_works 3 = .ok (.aload_n 0, 1) := by decide +kernel
theorem dX2_works_4 : decode cX2_works 4 = .ok (.getfield 19, 3) := by decide +kernel
theorem dX2_works_7 : decode cX2_works 7 = .ok (.getfield 27, 3) := by decide +kernel
theorem dX2_works_10 : decode cX2_works 10 = .ok (.if_icmp .ge 42, 3) := by decide +kernel
theorem dX2_works_13 : decode cX2_works 13 = .ok (.aload_n 0, 1) := by decide +kernel
theorem dX2_works_14 : decode cX2_works 14 = .ok (.getfield 9, 3) := by decide +kernel
theorem dX2_works_17 : decode cX2_works 17 = .ok (.iload_n 3, 1) := by decide +kernel
theorem dX2_works_18 : decode cX2_works 18 = .ok (.iload_n 1, 1) := by decide +kernel
theorem dX2_works_19 : decode cX2_works 19 = .ok (.iload_n 3, 1) := by decide +kernel
theorem dX2_works_20 : decode cX2_works 20 = .ok (.invokestatic 46, 3) := by decide +kernel
theorem dX2_works_23 : decode cX2_works 23 = .ok (.ifCond .eq 7, 3) := by decide +kernel
theorem dX2_works_26 : decode cX2_works 26 = .ok (.iconst 0, 1) := by decide +kernel
theorem dX2_works_27 : decode cX2_works 27 = .ok (.goto 18, 3) := by decide +kernel
theorem dX2_works_30 : decode cX2_works 30 = .ok (.aload_n 0, 1) := by decide +kernel
theorem dX2_works_31 : decode cX2_works 31 = .ok (.getfield 23, 3) := by decide +kernel
theorem dX2_works_34 : decode cX2_works 34 = .ok (.getfield 49, 3) := by decide +kernel
theorem dX2_works_37 : decode cX2_works 37 = .ok (.iload_n 3, 1) := by decide +kernel
theorem dX2_works_38 : decode cX2_works 38 = .ok (.iaload, 1) := by decide +kernel
theorem dX2_works_39 : decode cX2_works 39 = .ok (.iconst 1, 1) := by decide +kernel
theorem dX2_works_40 : decode cX2_works 40 = .ok (.iload_n 2, 1) := by decide +kernel
theorem dX2_works_41 : decode cX2_works 41 = .ok (.ishl, 1) := by decide +kernel
theorem dX2_works_42 : decode cX2_works 42 = .ok (.iconst (-1), 1) := by decide +kernel
theorem dX2_works_43 : decode cX2_works 43 = .ok (.ixor, 1) := by decide +kernel
theorem dX2_works_44 : decode cX2_works 44 = .ok (.iand, 1) := by decide +kernel
theorem dX2_works_45 : decode cX2_works 45 = .ok (.iastore, 1) := by decide +kernel
theorem dX2_works_46 : decode cX2_works 46 = .ok (.iinc 3 1, 3) := by decide +kernel
theorem dX2_works_49 : decode cX2_works 49 = .ok (.goto (-47), 3) := by decide +kernel
theorem dX2_works_52 : decode cX2_works 52 = .ok (.iconst 0, 1) := by decide +kernel
theorem dX2_works_53 : decode cX2_works 53 = .ok (.istore_n 3, 1) := by decide +kernel
theorem dX2_works_54 : decode cX2_works 54 = .ok (.iload_n 3, 1) := by decide +kernel
theorem dX2_works_55 : decode cX2_works 55 = .ok (.aload_n 0, 1) := by decide +kernel
theorem dX2_works_56 : decode cX2_works 56 = .ok (.getfield 19, 3) := by decide +kernel
theorem dX2_works_59 : decode cX2_works 59 = .ok (.getfield 27, 3) := by decide +kernel
theorem dX2_works_62 : decode cX2_works 62 = .ok (.if_icmp .ge 78, 3) := by decide +kernel
theorem dX2_works_65 : decode cX2_works 65 = .ok (.iload_n 1, 1) := by decide +kernel
theorem dX2_works_66 : decode cX2_works 66 = .ok (.iload_n 3, 1) := by decide +kernel
theorem dX2_works_67 : decode cX2_works 67 = .ok (.invokestatic 46, 3) := by decide +kernel
theorem dX2_works_70 : decode cX2_works 70 = .ok (.ifCond .eq 40, 3) := by decide +kernel
theorem dX2_works_73 : decode cX2_works 73 = .ok (.aload_n 0, 1) := by decide +kernel
theorem dX2_works_74 : decode cX2_works 74 = .ok (.getfield 19, 3) := by decide +kernel
theorem dX2_works_77 : decode cX2_works 77 = .ok (.getfield 54, 3) := by decide +kernel
theorem dX2_works_80 : decode cX2_works 80 = .ok (.iload_n 3, 1) := by decide +kernel
theorem dX2_works_81 : decode cX2_works 81 = .ok (.aaload, 1) := by decide +kernel
theorem dX2_works_82 : decode cX2_works 82 = .ok (.astore 4, 2) := by decide +kernel
theorem dX2_works_84 : decode cX2_works 84 = .ok (.aload_n 0, 1) := by decide +kernel
theorem dX2_works_85 : decode cX2_works 85 = .ok (.getfield 9, 3) := by decide +kernel
theorem dX2_works_88 : decode cX2_works 88 = .ok (.iload_n 3, 1) := by decide +kernel
theorem dX2_works_89 : decode cX2_works 89 = .ok (.aload 4, 2) := by decide +kernel
theorem dX2_works_91 : decode cX2_works 91 = .ok (.aload 4, 2) := by decide +kernel
theorem dX2_works_93 : decode cX2_works 93 = .ok (.aload_n 0, 1) := by decide +kernel
theorem dX2_works_94 : decode cX2_works 94 = .ok (.invokevirtual 58, 3) := by decide +kernel
theorem dX2_works_97 : decode cX2_works 97 = .ok (.iconst 1, 1) := by decide +kernel
theorem dX2_works_98 : decode cX2_works 98 = .ok (.iload_n 2, 1) := by decide +kernel
theorem dX2_works_99 : decode cX2_works 99 = .ok (.ishl, 1) := by decide +kernel
theorem dX2_works_100 : decode cX2_works 100 = .ok (.iconst (-1), 1) := by decide +kernel
theorem dX2_works_101 : decode cX2_works 101 = .ok (.ixor, 1) := by decide +kernel
theorem dX2_works_102 : decode cX2_works 102 = .ok (.iand, 1) := by decide +kernel
theorem dX2_works_103 : decode cX2_works 103 = .ok (.invokevirtual 62, 3) := by decide +kernel
theorem dX2_works_106 : decode cX2_works 106 = .ok (.invokevirtual 67, 3) := by decide +kernel
theorem dX2_works_109 : decode cX2_works 109 = .ok (.iastore, 1) := by decide +kernel
theorem dX2_works_110 : decode cX2_works 110 = .ok (.aload_n 0, 1) := by decide +kernel
theorem dX2_works_111 : decode cX2_works 111 = .ok (.getfield 19, 3) := by decide +kernel
theorem dX2_works_114 : decode cX2_works 114 = .ok (.getfield 54, 3) := by decide +kernel
theorem dX2_works_117 : decode cX2_works 117 = .ok (.iload_n 3, 1) := by decide +kernel
theorem dX2_works_118 : decode cX2_works 118 = .ok (.aaload, 1) := by decide +kernel
theorem dX2_works_119 : decode cX2_works 119 = .ok (.getfield 70, 3) := by decide +kernel
theorem dX2_works_122 : decode cX2_works 122 = .ok (.aload_n 0, 1) := by decide +kernel
theorem dX2_works_123 : decode cX2_works 123 = .ok (.getfield 9, 3) := by decide +kernel
theorem dX2_works_126 : decode cX2_works 126 = .ok (.iload_n 3, 1) := by decide +kernel
theorem dX2_works_127 : decode cX2_works 127 = .ok (.iaload, 1) := by decide +kernel
theorem dX2_works_128 : decode cX2_works 128 = .ok (.baload, 1) := by decide +kernel
theorem dX2_works_129 : decode cX2_works 129 = .ok (.ifCond .ne 5, 3) := by decide +kernel
theorem dX2_works_132 : decode cX2_works 132 = .ok (.iconst 0, 1) := by decide +kernel
theorem dX2_works_133 : decode cX2_works 133 = .ok (.ireturn, 1) := by decide +kernel
theorem dX2_works_134 : decode cX2_works 134 = .ok (.iinc 3 1, 3) := by decide +kernel
theorem dX2_works_137 : decode cX2_works 137 = .ok (.goto (-83), 3) := by decide +kernel
theorem dX2_works_140 : decode cX2_works 140 = .ok (.iconst 0, 1) := by decide +kernel
theorem dX2_works_141 : decode cX2_works 141 = .ok (.istore_n 3, 1) := by decide +kernel
theorem dX2_works_142 : decode cX2_works 142 = .ok (.iload_n 3, 1) := by decide +kernel
theorem dX2_works_143 : decode cX2_works 143 = .ok (.aload_n 0, 1) := by decide +kernel
theorem dX2_works_144 : decode cX2_works 144 = .ok (.getfield 15, 3) := by decide +kernel
theorem dX2_works_147 : decode cX2_works 147 = .ok (.getfield 74, 3) := by decide +kernel
theorem dX2_works_150 : decode cX2_works 150 = .ok (.if_icmp .ge 19, 3) := by decide +kernel
theorem dX2_works_153 : decode cX2_works 153 = .ok (.aload_n 0, 1) := by decide +kernel
theorem dX2_works_154 : decode cX2_works 154 = .ok (.iload_n 3, 1) := by decide +kernel
theorem dX2_works_155 : decode cX2_works 155 = .ok (.invokevirtual 77, 3) := by decide +kernel
theorem dX2_works_158 : decode cX2_works 158 = .ok (.ifCond .ge 5, 3) := by decide +kernel
theorem dX2_works_161 : decode cX2_works 161 = .ok (.iconst 0, 1) := by decide +kernel
theorem dX2_works_162 : decode cX2_works 162 = .ok (.ireturn, 1) := by decide +kernel
theorem dX2_works_163 : decode cX2_works 163 = .ok (.iinc 3 1, 3) := by decide +kernel
theorem dX2_works_166 : decode cX2_works 166 = .ok (.goto (-24), 3) := by decide +kernel
theorem dX2_works_169 : decode cX2_works 169 = .ok (.iconst 1, 1) := by decide +kernel
theorem dX2_works_170 : decode cX2_works 170 = .ok (.ireturn, 1) := by decide +kernel
theorem dX2_openLessons_0 : decode cX2_openLessons 0 = .ok (.iconst 0, 1) := by decide +kernel
theorem dX2_openLessons_1 : decode cX2_openLessons 1 = .ok (.istore_n 1, 1) := by decide +kernel
theorem dX2_openLessons_2 : decode cX2_openLessons 2 = .ok (.iconst 0, 1) := by decide +kernel
theorem dX2_openLessons_3 : decode cX2_openLessons 3 = .ok (.istore_n 2, 1) := by decide +kernel
theorem dX2_openLessons_4 : decode cX2_openLessons 4 = .ok (.iload_n 2, 1) := by decide +kernel
theorem dX2_openLessons_5 : decode cX2_openLessons 5 = .ok (.aload_n 0, 1) := by decide +kernel
theorem dX2_openLessons_6 : decode cX2_openLessons 6 = .ok (.getfield 15, 3) := by decide +kernel
theorem dX2_openLessons_9 : decode cX2_openLessons 9 = .ok (.getfield 74, 3) := by decide +kernel
theorem dX2_openLessons_12 : decode cX2_openLessons 12 = .ok (.if_icmp .ge 23, 3) := by decide +kernel
theorem dX2_openLessons_15 : decode cX2_openLessons 15 = .ok (.aload_n 0, 1) := by decide +kernel
theorem dX2_openLessons_16 : decode cX2_openLessons 16 = .ok (.iload_n 2, 1) := by decide +kernel
theorem dX2_openLessons_17 : decode cX2_openLessons 17 = .ok (.invokevirtual 77, 3) := by decide +kernel
theorem dX2_openLessons_20 : decode cX2_openLessons 20 = .ok (.ifCond .le 9, 3) := by decide +kernel
theorem dX2_openLessons_23 : decode cX2_openLessons 23 = .ok (.iload_n 1, 1) := by decide +kernel
theorem dX2_openLessons_24 : decode cX2_openLessons 24 = .ok (.iconst 1, 1) := by decide +kernel
theorem dX2_openLessons_25 : decode cX2_openLessons 25 = .ok (.iload_n 2, 1) := by decide +kernel
theorem dX2_openLessons_26 : decode cX2_openLessons 26 = .ok (.ishl, 1) := by decide +kernel
theorem dX2_openLessons_27 : decode cX2_openLessons 27 = .ok (.ior, 1) := by decide +kernel
theorem dX2_openLessons_28 : decode cX2_openLessons 28 = .ok (.istore_n 1, 1) := by decide +kernel
theorem dX2_openLessons_29 : decode cX2_openLessons 29 = .ok (.iinc 2 1, 3) := by decide +kernel
theorem dX2_openLessons_32 : decode cX2_openLessons 32 = .ok (.goto (-28), 3) := by decide +kernel
theorem dX2_openLessons_35 : decode cX2_openLessons 35 = .ok (.iload_n 1, 1) := by decide +kernel
theorem dX2_openLessons_36 : decode cX2_openLessons 36 = .ok (.ireturn, 1) := by decide +kernel
theorem dX2_spareOf_0 : decode cX2_spareOf 0 = .ok (.aload_n 0, 1) := by decide +kernel
theorem dX2_spareOf_1 : decode cX2_spareOf 1 = .ok (.getfield 15, 3) := by decide +kernel
theorem dX2_spareOf_4 : decode cX2_spareOf 4 = .ok (.getfield 80, 3) := by decide +kernel
theorem dX2_spareOf_7 : decode cX2_spareOf 7 = .ok (.iload_n 1, 1) := by decide +kernel
theorem dX2_spareOf_8 : decode cX2_spareOf 8 = .ok (.iaload, 1) := by decide +kernel
theorem dX2_spareOf_9 : decode cX2_spareOf 9 = .ok (.istore_n 2, 1) := by decide +kernel
theorem dX2_spareOf_10 : decode cX2_spareOf 10 = .ok (.iconst 0, 1) := by decide +kernel
theorem dX2_spareOf_11 : decode cX2_spareOf 11 = .ok (.istore_n 3, 1) := by decide +kernel
theorem dX2_spareOf_12 : decode cX2_spareOf 12 = .ok (.iload_n 3, 1) := by decide +kernel
theorem dX2_spareOf_13 : decode cX2_spareOf 13 = .ok (.aload_n 0, 1) := by decide +kernel
theorem dX2_spareOf_14 : decode cX2_spareOf 14 = .ok (.getfield 19, 3) := by decide +kernel
theorem dX2_spareOf_17 : decode cX2_spareOf 17 = .ok (.getfield 27, 3) := by decide +kernel
theorem dX2_spareOf_20 : decode cX2_spareOf 20 = .ok (.if_icmp .ge 25, 3) := by decide +kernel
theorem dX2_spareOf_23 : decode cX2_spareOf 23 = .ok (.aload_n 0, 1) := by decide +kernel
theorem dX2_spareOf_24 : decode cX2_spareOf 24 = .ok (.getfield 9, 3) := by decide +kernel
theorem dX2_spareOf_27 : decode cX2_spareOf 27 = .ok (.iload_n 3, 1) := by decide +kernel
theorem dX2_spareOf_28 : decode cX2_spareOf 28 = .ok (.iaload, 1) := by decide +kernel
theorem dX2_spareOf_29 : decode cX2_spareOf 29 = .ok (.iload_n 1, 1) := by decide +kernel
theorem dX2_spareOf_30 : decode cX2_spareOf 30 = .ok (.invokestatic 46, 3) := by decide +kernel
theorem dX2_spareOf_33 : decode cX2_spareOf 33 = .ok (.ifCond .eq 6, 3) := by decide +kernel
theorem dX2_spareOf_36 : decode cX2_spareOf 36 = .ok (.iinc 2 (-1), 3) := by decide +kernel
theorem dX2_spareOf_39 : decode cX2_spareOf 39 = .ok (.iinc 3 1, 3) := by decide +kernel
theorem dX2_spareOf_42 : decode cX2_spareOf 42 = .ok (.goto (-30), 3) := by decide +kernel
theorem dX2_spareOf_45 : decode cX2_spareOf 45 = .ok (.iload_n 2, 1) := by decide +kernel
theorem dX2_spareOf_46 : decode cX2_spareOf 46 = .ok (.ireturn, 1) := by decide +kernel
theorem dX3_init_0 : decode cX3_init 0 = .ok (.aload_n 0, 1) := by decide +kernel
theorem dX3_init_1 : decode cX3_init 1 = .ok (.invokespecial 3, 3) := by decide +kernel
theorem dX3_init_4 : decode cX3_init 4 = .ok (.aload_n 0, 1) := by decide +kernel
theorem dX3_init_5 : decode cX3_init 5 = .ok (.iconst 4, 1) := by decide +kernel
theorem dX3_init_6 : decode cX3_init 6 = .ok (.newarray .int, 2) := by decide +kernel
theorem dX3_init_8 : decode cX3_init 8 = .ok (.putfield 9, 3) := by decide +kernel
theorem dX3_init_11 : decode cX3_init 11 = .ok (.aload_n 0, 1) := by decide +kernel
theorem dX3_init_12 : decode cX3_init 12 = .ok (.aload_n 1, 1) := by decide +kernel
theorem dX3_init_13 : decode cX3_init 13 = .ok (.putfield 15, 3) := by decide +kernel
theorem dX3_init_16 : decode cX3_init 16 = .ok (.aload_n 0, 1) := by decide +kernel
theorem dX3_init_17 : decode cX3_init 17 = .ok (.aload_n 2, 1) := by decide +kernel
theorem dX3_init_18 : decode cX3_init 18 = .ok (.putfield 19, 3) := by decide +kernel
theorem dX3_init_21 : decode cX3_init 21 = .ok (.aload_n 0, 1) := by decide +kernel
theorem dX3_init_22 : decode cX3_init 22 = .ok (.aload_n 3, 1) := by decide +kernel
theorem dX3_init_23 : decode cX3_init 23 = .ok (.putfield 23, 3) := by decide +kernel
theorem dX3_init_26 : decode cX3_init 26 = .ok (.return_, 1) := by decide +kernel
theorem dX3_envyOf_0 : decode cX3_envyOf 0 = .ok (.aload_n 0, 1) := by decide +kernel
theorem dX3_envyOf_1 : decode cX3_envyOf 1 = .ok (.getfield 19, 3) := by decide +kernel
theorem dX3_envyOf_4 : decode cX3_envyOf 4 = .ok (.getfield 27, 3) := by decide +kernel
theorem dX3_envyOf_7 : decode cX3_envyOf 7 = .ok (.iload_n 1, 1) := by decide +kernel
theorem dX3_envyOf_8 : decode cX3_envyOf 8 = .ok (.aaload, 1) := by decide +kernel
theorem dX3_envyOf_9 : decode cX3_envyOf 9 = .ok (.astore_n 3, 1) := by decide +kernel
theorem dX3_envyOf_10 : decode cX3_envyOf 10 = .ok (.aload_n 3, 1) := by decide +kernel
theorem dX3_envyOf_11 : decode cX3_envyOf 11 = .ok (.getfield 33, 3) := by decide +kernel
theorem dX3_envyOf_14 : decode cX3_envyOf 14 = .ok (.aload_n 0, 1) := by decide +kernel
theorem dX3_envyOf_15 : decode cX3_envyOf 15 = .ok (.getfield 23, 3) := by decide +kernel
theorem dX3_envyOf_18 : decode cX3_envyOf 18 = .ok (.getfield 38, 3) := by decide +kernel
theorem dX3_envyOf_21 : decode cX3_envyOf 21 = .ok (.iload_n 1, 1) := by decide +kernel
theorem dX3_envyOf_22 : decode cX3_envyOf 22 = .ok (.iaload, 1) := by decide +kernel
theorem dX3_envyOf_23 : decode cX3_envyOf 23 = .ok (.iaload, 1) := by decide +kernel
theorem dX3_envyOf_24 : decode cX3_envyOf 24 = .ok (.istore 4, 2) := by decide +kernel
theorem dX3_envyOf_26 : decode cX3_envyOf 26 = .ok (.aload_n 0, 1) := by decide +kernel
theorem dX3_envyOf_27 : decode cX3_envyOf 27 = .ok (.getfield 23, 3) := by decide +kernel
theorem dX3_envyOf_30 : decode cX3_envyOf 30 = .ok (.getfield 38, 3) := by decide +kernel
theorem dX3_envyOf_33 : decode cX3_envyOf 33 = .ok (.iload_n 2, 1) := by decide +kernel
theorem dX3_envyOf_34 : decode cX3_envyOf 34 = .ok (.iaload, 1) := by decide +kernel
theorem dX3_envyOf_35 : decode cX3_envyOf 35 = .ok (.istore 5, 2) := by decide +kernel
theorem dX3_envyOf_37 : decode cX3_envyOf 37 = .ok (.aload_n 3, 1) := by decide +kernel
theorem dX3_envyOf_38 : decode cX3_envyOf 38 = .ok (.iload 5, 2) := by decide +kernel
theorem dX3_envyOf_40 : decode cX3_envyOf 40 = .ok (.iload 4, 2) := by decide +kernel
theorem dX3_envyOf_42 : decode cX3_envyOf 42 = .ok (.invokestatic 43, 3) := by decide +kernel
theorem dX3_envyOf_45 : decode cX3_envyOf 45 = .ok (.ifCond .ne 5, 3) := by decide +kernel
theorem dX3_envyOf_48 : decode cX3_envyOf 48 = .ok (.iconst 0, 1) := by decide +kernel
theorem dX3_envyOf_49 : decode cX3_envyOf 49 = .ok (.ireturn, 1) := by decide +kernel
theorem dX3_envyOf_50 : decode cX3_envyOf 50 = .ok (.iconst 0, 1) := by decide +kernel
theorem dX3_envyOf_51 : decode cX3_envyOf 51 = .ok (.istore 6, 2) := by decide +kernel
theorem dX3_envyOf_53 : decode cX3_envyOf 53 = .ok (.iload 6, 2) := by decide +kernel
theorem dX3_envyOf_55 : decode cX3_envyOf 55 = .ok (.aload_n 0, 1) := by decide +kernel
theorem dX3_envyOf_56 : decode cX3_envyOf 56 = .ok (.getfield 15, 3) := by decide +kernel
theorem dX3_envyOf_59 : decode cX3_envyOf 59 = .ok (.getfield 47, 3) := by decide +kernel
theorem dX3_envyOf_62 : decode cX3_envyOf 62 = .ok (.if_icmp .ge 39, 3) := by decide +kernel
theorem dX3_envyOf_65 : decode cX3_envyOf 65 = .ok (.iload 5, 2) := by decide +kernel
theorem dX3_envyOf_67 : decode cX3_envyOf 67 = .ok (.iload 6, 2) := by decide +kernel
theorem dX3_envyOf_69 : decode cX3_envyOf 69 = .ok (.invokestatic 53, 3) := by decide +kernel
theorem dX3_envyOf_72 : decode cX3_envyOf 72 = .ok (.ifCond .eq 23, 3) := by decide +kernel
theorem dX3_envyOf_75 : decode cX3_envyOf 75 = .ok (.aload_n 3, 1) := by decide +kernel
theorem dX3_envyOf_76 : decode cX3_envyOf 76 = .ok (.iload 5, 2) := by decide +kernel
theorem dX3_envyOf_78 : decode cX3_envyOf 78 = .ok (.iconst 1, 1) := by decide +kernel
theorem dX3_envyOf_79 : decode cX3_envyOf 79 = .ok (.iload 6, 2) := by decide +kernel
theorem dX3_envyOf_81 : decode cX3_envyOf 81 = .ok (.ishl, 1) := by decide +kernel
theorem dX3_envyOf_82 : decode cX3_envyOf 82 = .ok (.iconst (-1), 1) := by decide +kernel
theorem dX3_envyOf_83 : decode cX3_envyOf 83 = .ok (.ixor, 1) := by decide +kernel
theorem dX3_envyOf_84 : decode cX3_envyOf 84 = .ok (.iand, 1) := by decide +kernel
theorem dX3_envyOf_85 : decode cX3_envyOf 85 = .ok (.iload 4, 2) := by decide +kernel
theorem dX3_envyOf_87 : decode cX3_envyOf 87 = .ok (.invokestatic 43, 3) := by decide +kernel
theorem dX3_envyOf_90 : decode cX3_envyOf 90 = .ok (.ifCond .ne 5, 3) := by decide +kernel
theorem dX3_envyOf_93 : decode cX3_envyOf 93 = .ok (.iconst 1, 1) := by decide +kernel
theorem dX3_envyOf_94 : decode cX3_envyOf 94 = .ok (.ireturn, 1) := by decide +kernel
theorem dX3_envyOf_95 : decode cX3_envyOf 95 = .ok (.iinc 6 1, 3) := by decide +kernel
theorem dX3_envyOf_98 : decode cX3_envyOf 98 = .ok (.goto (-45), 3) := by decide +kernel
theorem dX3_envyOf_101 : decode cX3_envyOf 101 = .ok (.iconst 2, 1) := by decide +kernel
theorem dX3_envyOf_102 : decode cX3_envyOf 102 = .ok (.ireturn, 1) := by decide +kernel
theorem dX3_isBetter_0 : decode cX3_isBetter 0 = .ok (.aload_n 0, 1) := by decide +kernel
theorem dX3_isBetter_1 : decode cX3_isBetter 1 = .ok (.getfield 57, 3) := by decide +kernel
theorem dX3_isBetter_4 : decode cX3_isBetter 4 = .ok (.iload_n 1, 1) := by decide +kernel
theorem dX3_isBetter_5 : decode cX3_isBetter 5 = .ok (.baload, 1) := by decide +kernel
theorem dX3_isBetter_6 : decode cX3_isBetter 6 = .ok (.ifCond .eq 17, 3) := by decide +kernel
theorem dX3_isBetter_9 : decode cX3_isBetter 9 = .ok (.aload_n 0, 1) := by decide +kernel
theorem dX3_isBetter_10 : decode cX3_isBetter 10 = .ok (.getfield 33, 3) := by decide +kernel
theorem dX3_isBetter_13 : decode cX3_isBetter 13 = .ok (.iload_n 1, 1) := by decide +kernel
theorem dX3_isBetter_14 : decode cX3_isBetter 14 = .ok (.iaload, 1) := by decide +kernel
theorem dX3_isBetter_15 : decode cX3_isBetter 15 = .ok (.iload_n 2, 1) := by decide +kernel
theorem dX3_isBetter_16 : decode cX3_isBetter 16 = .ok (.if_icmp .le 7, 3) := by decide +kernel
theorem dX3_isBetter_19 : decode cX3_isBetter 19 = .ok (.iconst 1, 1) := by decide +kernel
theorem dX3_isBetter_20 : decode cX3_isBetter 20 = .ok (.goto 4, 3) := by decide +kernel
theorem dX3_isBetter_23 : decode cX3_isBetter 23 = .ok (.iconst 0, 1) := by decide +kernel
theorem dX3_isBetter_24 : decode cX3_isBetter 24 = .ok (.ireturn, 1) := by decide +kernel
theorem dX3_findWaste_0 : decode cX3_findWaste 0 = .ok (.iconst 0, 1) := by decide +kernel
theorem dX3_findWaste_1 : decode cX3_findWaste 1 = .ok (.istore_n 1, 1) := by decide +kernel
theorem dX3_findWaste_2 : decode cX3_findWaste 2 = .ok (.iload_n 1, 1) := by decide +kernel
theorem dX3_findWaste_3 : decode cX3_findWaste 3 = .ok (.aload_n 0, 1) := by decide +kernel
theorem dX3_findWaste_4 : decode cX3_findWaste 4 = .ok (.getfield 19, 3) := by decide +kernel
theorem dX3_findWaste_7 : decode cX3_findWaste 7 = .ok (.getfield 61, 3) := by decide +kernel
theorem dX3_findWaste_10 : decode cX3_findWaste 10 = .ok (.if_icmp .ge 41, 3) := by decide +kernel
theorem dX3_findWaste_13 : decode cX3_findWaste 13 = .ok (.iload_n 1, 1) := by decide +kernel
theorem dX3_findWaste_14 : decode cX3_findWaste 14 = .ok (.iconst 1, 1) := by decide +kernel
theorem dX3_findWaste_15 : decode cX3_findWaste 15 = .ok (.iadd, 1) := by decide +kernel
theorem dX3_findWaste_16 : decode cX3_findWaste 16 = .ok (.istore_n 2, 1) := by decide +kernel
theorem dX3_findWaste_17 : decode cX3_findWaste 17 = .ok (.iload_n 2, 1) := by decide +kernel
theorem dX3_findWaste_18 : decode cX3_findWaste 18 = .ok (.aload_n 0, 1) := by decide +kernel
theorem dX3_findWaste_19 : decode cX3_findWaste 19 = .ok (.getfield 19, 3) := by decide +kernel
theorem dX3_findWaste_22 : decode cX3_findWaste 22 = .ok (.getfield 61, 3) := by decide +kernel
theorem dX3_findWaste_25 : decode cX3_findWaste 25 = .ok (.if_icmp .ge 20, 3) := by decide +kernel
theorem dX3_findWaste_28 : decode cX3_findWaste 28 = .ok (.aload_n 0, 1) := by decide +kernel
theorem dX3_findWaste_29 : decode cX3_findWaste 29 = .ok (.iload_n 1, 1) := by decide +kernel
theorem dX3_findWaste_30 : decode cX3_findWaste 30 = .ok (.iload_n 2, 1) := by decide +kernel
theorem dX3_findWaste_31 : decode cX3_findWaste 31 = .ok (.invokevirtual 62, 3) := by decide +kernel
theorem dX3_findWaste_34 : decode cX3_findWaste 34 = .ok (.ifCond .eq 5, 3) := by decide +kernel
theorem dX3_findWaste_37 : decode cX3_findWaste 37 = .ok (.iconst 1, 1) := by decide +kernel
theorem dX3_findWaste_38 : decode cX3_findWaste 38 = .ok (.ireturn, 1) := by decide +kernel
theorem dX3_findWaste_39 : decode cX3_findWaste 39 = .ok (.iinc 2 1, 3) := by decide +kernel
theorem dX3_findWaste_42 : decode cX3_findWaste 42 = .ok (.goto (-25), 3) := by decide +kernel
theorem dX3_findWaste_45 : decode cX3_findWaste 45 = .ok (.iinc 1 1, 3) := by decide +kernel
theorem dX3_findWaste_48 : decode cX3_findWaste 48 = .ok (.goto (-46), 3) := by decide +kernel
theorem dX3_findWaste_51 : decode cX3_findWaste 51 = .ok (.iconst 0, 1) := by decide +kernel
theorem dX3_findWaste_52 : decode cX3_findWaste 52 = .ok (.ireturn, 1) := by decide +kernel
theorem dX3_findSwap_0 : decode cX3_findSwap 0 = .ok (.iconst 0, 1) := by decide +kernel
theorem dX3_findSwap_1 : decode cX3_findSwap 1 = .ok (.istore_n 3, 1) := by decide +kernel
theorem dX3_findSwap_2 : decode cX3_findSwap 2 = .ok (.iload_n 3, 1) := by decide +kernel
theorem dX3_findSwap_3 : decode cX3_findSwap 3 = .ok (.bipush 10, 2) := by decide +kernel
theorem dX3_findSwap_5 : decode cX3_findSwap 5 = .ok (.if_icmp .gt 74, 3) := by decide +kernel
theorem dX3_findSwap_8 : decode cX3_findSwap 8 = .ok (.iconst 0, 1) := by decide +kernel
theorem dX3_findSwap_9 : decode cX3_findSwap 9 = .ok (.istore 4, 2) := by decide +kernel
theorem dX3_findSwap_11 : decode cX3_findSwap 11 = .ok (.iload 4, 2) := by decide +kernel
theorem dX3_findSwap_13 : decode cX3_findSwap 13 = .ok (.bipush 10, 2) := by decide +kernel
theorem dX3_findSwap_15 : decode cX3_findSwap 15 = .ok (.if_icmp .gt 58, 3) := by decide +kernel
theorem dX3_findSwap_18 : decode cX3_findSwap 18 = .ok (.aload_n 0, 1) := by decide +kernel
theorem dX3_findSwap_19 : decode cX3_findSwap 19 = .ok (.iload_n 1, 1) := by decide +kernel
theorem dX3_findSwap_20 : decode cX3_findSwap 20 = .ok (.iload_n 2, 1) := by decide +kernel
theorem dX3_findSwap_21 : decode cX3_findSwap 21 = .ok (.iload_n 3, 1) := by decide +kernel
theorem dX3_findSwap_22 : decode cX3_findSwap 22 = .ok (.invokestatic 65, 3) := by decide +kernel
theorem dX3_findSwap_25 : decode cX3_findSwap 25 = .ok (.iload 4, 2) := by decide +kernel
theorem dX3_findSwap_27 : decode cX3_findSwap 27 = .ok (.invokestatic 65, 3) := by decide +kernel
theorem dX3_findSwap_30 : decode cX3_findSwap 30 = .ok (.invokevirtual 69, 3) := by decide +kernel
theorem dX3_findSwap_33 : decode cX3_findSwap 33 = .ok (.ifCond .eq 34, 3) := by decide +kernel
theorem dX3_findSwap_36 : decode cX3_findSwap 36 = .ok (.aload_n 0, 1) := by decide +kernel
theorem dX3_findSwap_37 : decode cX3_findSwap 37 = .ok (.getfield 9, 3) := by decide +kernel
theorem dX3_findSwap_40 : decode cX3_findSwap 40 = .ok (.iconst 0, 1) := by decide +kernel
theorem dX3_findSwap_41 : decode cX3_findSwap 41 = .ok (.iload_n 1, 1) := by decide +kernel
theorem dX3_findSwap_42 : decode cX3_findSwap 42 = .ok (.iastore, 1) := by decide +kernel
theorem dX3_findSwap_43 : decode cX3_findSwap 43 = .ok (.aload_n 0, 1) := by decide +kernel
theorem dX3_findSwap_44 : decode cX3_findSwap 44 = .ok (.getfield 9, 3) := by decide +kernel
theorem dX3_findSwap_47 : decode cX3_findSwap 47 = .ok (.iconst 1, 1) := by decide +kernel
theorem dX3_findSwap_48 : decode cX3_findSwap 48 = .ok (.iload_n 2, 1) := by decide +kernel
theorem dX3_findSwap_49 : decode cX3_findSwap 49 = .ok (.iastore, 1) := by decide +kernel
theorem dX3_findSwap_50 : decode cX3_findSwap 50 = .ok (.aload_n 0, 1) := by decide +kernel
theorem dX3_findSwap_51 : decode cX3_findSwap 51 = .ok (.getfield 9, 3) := by decide +kernel
theorem dX3_findSwap_54 : decode cX3_findSwap 54 = .ok (.iconst 2, 1) := by decide +kernel
theorem dX3_findSwap_55 : decode cX3_findSwap 55 = .ok (.iload_n 3, 1) := by decide +kernel
theorem dX3_findSwap_56 : decode cX3_findSwap 56 = .ok (.iastore, 1) := by decide +kernel
theorem dX3_findSwap_57 : decode cX3_findSwap 57 = .ok (.aload_n 0, 1) := by decide +kernel
theorem dX3_findSwap_58 : decode cX3_findSwap 58 = .ok (.getfield 9, 3) := by decide +kernel
theorem dX3_findSwap_61 : decode cX3_findSwap 61 = .ok (.iconst 3, 1) := by decide +kernel
theorem dX3_findSwap_62 : decode cX3_findSwap 62 = .ok (.iload 4, 2) := by decide +kernel
theorem dX3_findSwap_64 : decode cX3_findSwap 64 = .ok (.iastore, 1) := by decide +kernel
theorem dX3_findSwap_65 : decode cX3_findSwap 65 = .ok (.iconst 1, 1) := by decide +kernel
theorem dX3_findSwap_66 : decode cX3_findSwap 66 = .ok (.ireturn, 1) := by decide +kernel
theorem dX3_findSwap_67 : decode cX3_findSwap 67 = .ok (.iinc 4 1, 3) := by decide +kernel
theorem dX3_findSwap_70 : decode cX3_findSwap 70 = .ok (.goto (-59), 3) := by decide +kernel
theorem dX3_findSwap_73 : decode cX3_findSwap 73 = .ok (.iinc 3 1, 3) := by decide +kernel
theorem dX3_findSwap_76 : decode cX3_findSwap 76 = .ok (.goto (-74), 3) := by decide +kernel
theorem dX3_findSwap_79 : decode cX3_findSwap 79 = .ok (.iconst 0, 1) := by decide +kernel
theorem dX3_findSwap_80 : decode cX3_findSwap 80 = .ok (.ireturn, 1) := by decide +kernel
theorem dX3_bitOf_0 : decode cX3_bitOf 0 = .ok (.iload_n 0, 1) := by decide +kernel
theorem dX3_bitOf_1 : decode cX3_bitOf 1 = .ok (.bipush 10, 2) := by decide +kernel
theorem dX3_bitOf_3 : decode cX3_bitOf 3 = .ok (.if_icmp .ne 7, 3) := by decide +kernel
theorem dX3_bitOf_6 : decode cX3_bitOf 6 = .ok (.iconst 0, 1) := by decide +kernel
theorem dX3_bitOf_7 : decode cX3_bitOf 7 = .ok (.goto 6, 3) := by decide +kernel
theorem dX3_bitOf_10 : decode cX3_bitOf 10 = .ok (.iconst 1, 1) := by decide +kernel
theorem dX3_bitOf_11 : decode cX3_bitOf 11 = .ok (.iload_n 0, 1) := by decide +kernel
theorem dX3_bitOf_12 : decode cX3_bitOf 12 = .ok (.ishl, 1) := by decide +kernel
theorem dX3_bitOf_13 : decode cX3_bitOf 13 = .ok (.ireturn, 1) := by decide +kernel
theorem dX3_betters_0 : decode cX3_betters 0 = .ok (.aload_n 0, 1) := by decide +kernel
theorem dX3_betters_1 : decode cX3_betters 1 = .ok (.getfield 23, 3) := by decide +kernel
theorem dX3_betters_4 : decode cX3_betters 4 = .ok (.getfield 38, 3) := by decide +kernel
theorem dX3_betters_7 : decode cX3_betters 7 = .ok (.iload_n 1, 1) := by decide +kernel
theorem dX3_betters_8 : decode cX3_betters 8 = .ok (.iaload, 1) := by decide +kernel
theorem dX3_betters_9 : decode cX3_betters 9 = .ok (.istore 5, 2) := by decide +kernel
theorem dX3_betters_11 : decode cX3_betters 11 = .ok (.aload_n 0, 1) := by decide +kernel
theorem dX3_betters_12 : decode cX3_betters 12 = .ok (.getfield 23, 3) := by decide +kernel
theorem dX3_betters_15 : decode cX3_betters 15 = .ok (.getfield 38, 3) := by decide +kernel
theorem dX3_betters_18 : decode cX3_betters 18 = .ok (.iload_n 2, 1) := by decide +kernel
theorem dX3_betters_19 : decode cX3_betters 19 = .ok (.iaload, 1) := by decide +kernel
theorem dX3_betters_20 : decode cX3_betters 20 = .ok (.istore 6, 2) := by decide +kernel
theorem dX3_betters_22 : decode cX3_betters 22 = .ok (.iload_n 3, 1) := by decide +kernel
theorem dX3_betters_23 : decode cX3_betters 23 = .ok (.iload 5, 2) := by decide +kernel
theorem dX3_betters_25 : decode cX3_betters 25 = .ok (.iand, 1) := by decide +kernel
theorem dX3_betters_26 : decode cX3_betters 26 = .ok (.iload_n 3, 1) := by decide +kernel
theorem dX3_betters_27 : decode cX3_betters 27 = .ok (.if_icmp .ne 17, 3) := by decide +kernel
theorem dX3_betters_30 : decode cX3_betters 30 = .ok (.iload 4, 2) := by decide +kernel
theorem dX3_betters_32 : decode cX3_betters 32 = .ok (.iload 6, 2) := by decide +kernel
theorem dX3_betters_34 : decode cX3_betters 34 = .ok (.iand, 1) := by decide +kernel
theorem dX3_betters_35 : decode cX3_betters 35 = .ok (.iload 4, 2) := by decide +kernel
theorem dX3_betters_37 : decode cX3_betters 37 = .ok (.if_icmp .ne 7, 3) := by decide +kernel
theorem dX3_betters_40 : decode cX3_betters 40 = .ok (.iconst 1, 1) := by decide +kernel
theorem dX3_betters_41 : decode cX3_betters 41 = .ok (.goto 4, 3) := by decide +kernel
theorem dX3_betters_44 : decode cX3_betters 44 = .ok (.iconst 0, 1) := by decide +kernel
theorem dX3_betters_45 : decode cX3_betters 45 = .ok (.istore 7, 2) := by decide +kernel
theorem dX3_betters_47 : decode cX3_betters 47 = .ok (.iload_n 3, 1) := by decide +kernel
theorem dX3_betters_48 : decode cX3_betters 48 = .ok (.iload 6, 2) := by decide +kernel
theorem dX3_betters_50 : decode cX3_betters 50 = .ok (.iand, 1) := by decide +kernel
theorem dX3_betters_51 : decode cX3_betters 51 = .ok (.ifCond .ne 15, 3) := by decide +kernel
theorem dX3_betters_54 : decode cX3_betters 54 = .ok (.iload 4, 2) := by decide +kernel
theorem dX3_betters_56 : decode cX3_betters 56 = .ok (.iload 5, 2) := by decide +kernel
theorem dX3_betters_58 : decode cX3_betters 58 = .ok (.iand, 1) := by decide +kernel
theorem dX3_betters_59 : decode cX3_betters 59 = .ok (.ifCond .ne 7, 3) := by decide +kernel
theorem dX3_betters_62 : decode cX3_betters 62 = .ok (.iconst 1, 1) := by decide +kernel
theorem dX3_betters_63 : decode cX3_betters 63 = .ok (.goto 4, 3) := by decide +kernel
theorem dX3_betters_66 : decode cX3_betters 66 = .ok (.iconst 0, 1) := by decide +kernel
theorem dX3_betters_67 : decode cX3_betters 67 = .ok (.istore 8, 2) := by decide +kernel
theorem dX3_betters_69 : decode cX3_betters 69 = .ok (.iload 7, 2) := by decide +kernel
theorem dX3_betters_71 : decode cX3_betters 71 = .ok (.ifCond .eq 15, 3) := by decide +kernel
theorem dX3_betters_74 : decode cX3_betters 74 = .ok (.iload 8, 2) := by decide +kernel
theorem dX3_betters_76 : decode cX3_betters 76 = .ok (.ifCond .eq 10, 3) := by decide +kernel
theorem dX3_betters_79 : decode cX3_betters 79 = .ok (.iload_n 3, 1) := by decide +kernel
theorem dX3_betters_80 : decode cX3_betters 80 = .ok (.iload 4, 2) := by decide +kernel
theorem dX3_betters_82 : decode cX3_betters 82 = .ok (.ior, 1) := by decide +kernel
theorem dX3_betters_83 : decode cX3_betters 83 = .ok (.ifCond .ne 5, 3) := by decide +kernel
theorem dX3_betters_86 : decode cX3_betters 86 = .ok (.iconst 0, 1) := by decide +kernel
theorem dX3_betters_87 : decode cX3_betters 87 = .ok (.ireturn, 1) := by decide +kernel
theorem dX3_betters_88 : decode cX3_betters 88 = .ok (.aload_n 0, 1) := by decide +kernel
theorem dX3_betters_89 : decode cX3_betters 89 = .ok (.getfield 19, 3) := by decide +kernel
theorem dX3_betters_92 : decode cX3_betters 92 = .ok (.getfield 27, 3) := by decide +kernel
theorem dX3_betters_95 : decode cX3_betters 95 = .ok (.iload_n 1, 1) := by decide +kernel
theorem dX3_betters_96 : decode cX3_betters 96 = .ok (.aaload, 1) := by decide +kernel
theorem dX3_betters_97 : decode cX3_betters 97 = .ok (.iload 5, 2) := by decide +kernel
theorem dX3_betters_99 : decode cX3_betters 99 = .ok (.iload 5, 2) := by decide +kernel
theorem dX3_betters_101 : decode cX3_betters 101 = .ok (.iload_n 3, 1) := by decide +kernel
theorem dX3_betters_102 : decode cX3_betters 102 = .ok (.iconst (-1), 1) := by decide +kernel
theorem dX3_betters_103 : decode cX3_betters 103 = .ok (.ixor, 1) := by decide +kernel
theorem dX3_betters_104 : decode cX3_betters 104 = .ok (.iand, 1) := by decide +kernel
theorem dX3_betters_105 : decode cX3_betters 105 = .ok (.iload 4, 2) := by decide +kernel
theorem dX3_betters_107 : decode cX3_betters 107 = .ok (.ior, 1) := by decide +kernel
theorem dX3_betters_108 : decode cX3_betters 108 = .ok (.invokestatic 73, 3) := by decide +kernel
theorem dX3_betters_111 : decode cX3_betters 111 = .ok (.istore 9, 2) := by decide +kernel
theorem dX3_betters_113 : decode cX3_betters 113 = .ok (.aload_n 0, 1) := by decide +kernel
theorem dX3_betters_114 : decode cX3_betters 114 = .ok (.getfield 19, 3) := by decide +kernel
theorem dX3_betters_117 : decode cX3_betters 117 = .ok (.getfield 27, 3) := by decide +kernel
theorem dX3_betters_120 : decode cX3_betters 120 = .ok (.iload_n 2, 1) := by decide +kernel
theorem dX3_betters_121 : decode cX3_betters 121 = .ok (.aaload, 1) := by decide +kernel
theorem dX3_betters_122 : decode cX3_betters 122 = .ok (.iload 6, 2) := by decide +kernel
theorem dX3_betters_124 : decode cX3_betters 124 = .ok (.iload 6, 2) := by decide +kernel
theorem dX3_betters_126 : decode cX3_betters 126 = .ok (.iload 4, 2) := by decide +kernel
theorem dX3_betters_128 : decode cX3_betters 128 = .ok (.iconst (-1), 1) := by decide +kernel
theorem dX3_betters_129 : decode cX3_betters 129 = .ok (.ixor, 1) := by decide +kernel
theorem dX3_betters_130 : decode cX3_betters 130 = .ok (.iand, 1) := by decide +kernel
theorem dX3_betters_131 : decode cX3_betters 131 = .ok (.iload_n 3, 1) := by decide +kernel
theorem dX3_betters_132 : decode cX3_betters 132 = .ok (.ior, 1) := by decide +kernel
theorem dX3_betters_133 : decode cX3_betters 133 = .ok (.invokestatic 73, 3) := by decide +kernel
theorem dX3_betters_136 : decode cX3_betters 136 = .ok (.istore 10, 2) := by decide +kernel
theorem dX3_betters_138 : decode cX3_betters 138 = .ok (.iload 9, 2) := by decide +kernel
theorem dX3_betters_140 : decode cX3_betters 140 = .ok (.ifCond .lt 20, 3) := by decide +kernel
theorem dX3_betters_143 : decode cX3_betters 143 = .ok (.iload 10, 2) := by decide +kernel
theorem dX3_betters_145 : decode cX3_betters 145 = .ok (.ifCond .lt 15, 3) := by decide +kernel
theorem dX3_betters_148 : decode cX3_betters 148 = .ok (.iload 9, 2) := by decide +kernel
theorem dX3_betters_150 : decode cX3_betters 150 = .ok (.iload 10, 2) := by decide +kernel
theorem dX3_betters_152 : decode cX3_betters 152 = .ok (.iadd, 1) := by decide +kernel
theorem dX3_betters_153 : decode cX3_betters 153 = .ok (.ifCond .le 7, 3) := by decide +kernel
theorem dX3_betters_156 : decode cX3_betters 156 = .ok (.iconst 1, 1) := by decide +kernel
theorem dX3_betters_157 : decode cX3_betters 157 = .ok (.goto 4, 3) := by decide +kernel
theorem dX3_betters_160 : decode cX3_betters 160 = .ok (.iconst 0, 1) := by decide +kernel
theorem dX3_betters_161 : decode cX3_betters 161 = .ok (.ireturn, 1) := by decide +kernel
theorem dX3_growth_0 : decode cX3_growth 0 = .ok (.aload_n 0, 1) := by decide +kernel
theorem dX3_growth_1 : decode cX3_growth 1 = .ok (.getfield 57, 3) := by decide +kernel
theorem dX3_growth_4 : decode cX3_growth 4 = .ok (.iload_n 2, 1) := by decide +kernel
theorem dX3_growth_5 : decode cX3_growth 5 = .ok (.baload, 1) := by decide +kernel
theorem dX3_growth_6 : decode cX3_growth 6 = .ok (.ifCond .eq 19, 3) := by decide +kernel
theorem dX3_growth_9 : decode cX3_growth 9 = .ok (.aload_n 0, 1) := by decide +kernel
theorem dX3_growth_10 : decode cX3_growth 10 = .ok (.getfield 33, 3) := by decide +kernel
theorem dX3_growth_13 : decode cX3_growth 13 = .ok (.iload_n 2, 1) := by decide +kernel
theorem dX3_growth_14 : decode cX3_growth 14 = .ok (.iaload, 1) := by decide +kernel
theorem dX3_growth_15 : decode cX3_growth 15 = .ok (.aload_n 0, 1) := by decide +kernel
theorem dX3_growth_16 : decode cX3_growth 16 = .ok (.getfield 33, 3) := by decide +kernel
theorem dX3_growth_19 : decode cX3_growth 19 = .ok (.iload_n 1, 1) := by decide +kernel
theorem dX3_growth_20 : decode cX3_growth 20 = .ok (.iaload, 1) := by decide +kernel
theorem dX3_growth_21 : decode cX3_growth 21 = .ok (.isub, 1) := by decide +kernel
theorem dX3_growth_22 : decode cX3_growth 22 = .ok (.goto 4, 3) := by decide +kernel
theorem dX3_growth_25 : decode cX3_growth 25 = .ok (.iconst (-1), 1) := by decide +kernel
theorem dX3_growth_26 : decode cX3_growth 26 = .ok (.ireturn, 1) := by decide +kernel
theorem dX3_shareOf_0 : decode cX3_shareOf 0 = .ok (.aload_n 0, 1) := by decide +kernel
theorem dX3_shareOf_1 : decode cX3_shareOf 1 = .ok (.getfield 19, 3) := by decide +kernel
theorem dX3_shareOf_4 : decode cX3_shareOf 4 = .ok (.getfield 61, 3) := by decide +kernel
theorem dX3_shareOf_7 : decode cX3_shareOf 7 = .ok (.istore_n 2, 1) := by decide +kernel
theorem dX3_shareOf_8 : decode cX3_shareOf 8 = .ok (.iconst 1, 1) := by decide +kernel
theorem dX3_shareOf_9 : decode cX3_shareOf 9 = .ok (.istore_n 3, 1) := by decide +kernel
theorem dX3_shareOf_10 : decode cX3_shareOf 10 = .ok (.iconst 0, 1) := by decide +kernel
theorem dX3_shareOf_11 : decode cX3_shareOf 11 = .ok (.istore 4, 2) := by decide +kernel
theorem dX3_shareOf_13 : decode cX3_shareOf 13 = .ok (.iload 4, 2) := by decide +kernel
theorem dX3_shareOf_15 : decode cX3_shareOf 15 = .ok (.aload_n 0, 1) := by decide +kernel
theorem dX3_shareOf_16 : decode cX3_shareOf 16 = .ok (.getfield 15, 3) := by decide +kernel
theorem dX3_shareOf_19 : decode cX3_shareOf 19 = .ok (.getfield 47, 3) := by decide +kernel
theorem dX3_shareOf_22 : decode cX3_shareOf 22 = .ok (.if_icmp .ge 13, 3) := by decide +kernel
theorem dX3_shareOf_25 : decode cX3_shareOf 25 = .ok (.iload_n 3, 1) := by decide +kernel
theorem dX3_shareOf_26 : decode cX3_shareOf 26 = .ok (.iload_n 2, 1) := by decide +kernel
theorem dX3_shareOf_27 : decode cX3_shareOf 27 = .ok (.imul, 1) := by decide +kernel
theorem dX3_shareOf_28 : decode cX3_shareOf 28 = .ok (.istore_n 3, 1) := by decide +kernel
theorem dX3_shareOf_29 : decode cX3_shareOf 29 = .ok (.iinc 4 1, 3) := by decide +kernel
theorem dX3_shareOf_32 : decode cX3_shareOf 32 = .ok (.goto (-19), 3) := by decide +kernel
theorem dX3_shareOf_35 : decode cX3_shareOf 35 = .ok (.ldc 77, 2) := by decide +kernel
theorem dX3_shareOf_37 : decode cX3_shareOf 37 = .ok (.istore 4, 2) := by decide +kernel
theorem dX3_shareOf_39 : decode cX3_shareOf 39 = .ok (.iconst 0, 1) := by decide +kernel
theorem dX3_shareOf_40 : decode cX3_shareOf 40 = .ok (.istore 5, 2) := by decide +kernel
theorem dX3_shareOf_42 : decode cX3_shareOf 42 = .ok (.iload 5, 2) := by decide +kernel
theorem dX3_shareOf_44 : decode cX3_shareOf 44 = .ok (.iload_n 3, 1) := by decide +kernel
theorem dX3_shareOf_45 : decode cX3_shareOf 45 = .ok (.if_icmp .ge 24, 3) := by decide +kernel
theorem dX3_shareOf_48 : decode cX3_shareOf 48 = .ok (.iload 4, 2) := by decide +kernel
theorem dX3_shareOf_50 : decode cX3_shareOf 50 = .ok (.aload_n 0, 1) := by decide +kernel
theorem dX3_shareOf_51 : decode cX3_shareOf 51 = .ok (.aload_n 1, 1) := by decide +kernel
theorem dX3_shareOf_52 : decode cX3_shareOf 52 = .ok (.iload 5, 2) := by decide +kernel
theorem dX3_shareOf_54 : decode cX3_shareOf 54 = .ok (.iload_n 2, 1) := by decide +kernel
theorem dX3_shareOf_55 : decode cX3_shareOf 55 = .ok (.invokevirtual 78, 3) := by decide +kernel
theorem dX3_shareOf_58 : decode cX3_shareOf 58 = .ok (.invokestatic 81, 3) := by decide +kernel
theorem dX3_shareOf_61 : decode cX3_shareOf 61 = .ok (.istore 4, 2) := by decide +kernel
theorem dX3_shareOf_63 : decode cX3_shareOf 63 = .ok (.iinc 5 1, 3) := by decide +kernel
theorem dX3_shareOf_66 : decode cX3_shareOf 66 = .ok (.goto (-24), 3) := by decide +kernel
theorem dX3_shareOf_69 : decode cX3_shareOf 69 = .ok (.iload 4, 2) := by decide +kernel
theorem dX3_shareOf_71 : decode cX3_shareOf 71 = .ok (.ireturn, 1) := by decide +kernel
theorem dX3_leastHeap_0 : decode cX3_leastHeap 0 = .ok (.ldc 87, 2) := by decide +kernel
theorem dX3_leastHeap_2 : decode cX3_leastHeap 2 = .ok (.istore 4, 2) := by decide +kernel
theorem dX3_leastHeap_4 : decode cX3_leastHeap 4 = .ok (.iconst 0, 1) := by decide +kernel
theorem dX3_leastHeap_5 : decode cX3_leastHeap 5 = .ok (.istore 5, 2) := by decide +kernel
theorem dX3_leastHeap_7 : decode cX3_leastHeap 7 = .ok (.iload 5, 2) := by decide +kernel
theorem dX3_leastHeap_9 : decode cX3_leastHeap 9 = .ok (.iload_n 3, 1) := by decide +kernel
theorem dX3_leastHeap_10 : decode cX3_leastHeap 10 = .ok (.if_icmp .ge 92, 3) := by decide +kernel
theorem dX3_leastHeap_13 : decode cX3_leastHeap 13 = .ok (.iload_n 2, 1) := by decide +kernel
theorem dX3_leastHeap_14 : decode cX3_leastHeap 14 = .ok (.istore 6, 2) := by decide +kernel
theorem dX3_leastHeap_16 : decode cX3_leastHeap 16 = .ok (.iconst 0, 1) := by decide +kernel
theorem dX3_leastHeap_17 : decode cX3_leastHeap 17 = .ok (.istore 7, 2) := by decide +kernel
theorem dX3_leastHeap_19 : decode cX3_leastHeap 19 = .ok (.iconst 0, 1) := by decide +kernel
theorem dX3_leastHeap_20 : decode cX3_leastHeap 20 = .ok (.istore 8, 2) := by decide +kernel
theorem dX3_leastHeap_22 : decode cX3_leastHeap 22 = .ok (.iload 8, 2) := by decide +kernel
theorem dX3_leastHeap_24 : decode cX3_leastHeap 24 = .ok (.aload_n 0, 1) := by decide +kernel
theorem dX3_leastHeap_25 : decode cX3_leastHeap 25 = .ok (.getfield 15, 3) := by decide +kernel
theorem dX3_leastHeap_28 : decode cX3_leastHeap 28 = .ok (.getfield 47, 3) := by decide +kernel
theorem dX3_leastHeap_31 : decode cX3_leastHeap 31 = .ok (.if_icmp .ge 33, 3) := by decide +kernel
theorem dX3_leastHeap_34 : decode cX3_leastHeap 34 = .ok (.iload 6, 2) := by decide +kernel
theorem dX3_leastHeap_36 : decode cX3_leastHeap 36 = .ok (.iload_n 3, 1) := by decide +kernel
theorem dX3_leastHeap_37 : decode cX3_leastHeap 37 = .ok (.irem, 1) := by decide +kernel
theorem dX3_leastHeap_38 : decode cX3_leastHeap 38 = .ok (.iload 5, 2) := by decide +kernel
theorem dX3_leastHeap_40 : decode cX3_leastHeap 40 = .ok (.if_icmp .ne 12, 3) := by decide +kernel
theorem dX3_leastHeap_43 : decode cX3_leastHeap 43 = .ok (.iload 7, 2) := by decide +kernel
theorem dX3_leastHeap_45 : decode cX3_leastHeap 45 = .ok (.iconst 1, 1) := by decide +kernel
theorem dX3_leastHeap_46 : decode cX3_leastHeap 46 = .ok (.iload 8, 2) := by decide +kernel
theorem dX3_leastHeap_48 : decode cX3_leastHeap 48 = .ok (.ishl, 1) := by decide +kernel
theorem dX3_leastHeap_49 : decode cX3_leastHeap 49 = .ok (.ior, 1) := by decide +kernel
theorem dX3_leastHeap_50 : decode cX3_leastHeap 50 = .ok (.istore 7, 2) := by decide +kernel
theorem dX3_leastHeap_52 : decode cX3_leastHeap 52 = .ok (.iload 6, 2) := by decide +kernel
theorem dX3_leastHeap_54 : decode cX3_leastHeap 54 = .ok (.iload_n 3, 1) := by decide +kernel
theorem dX3_leastHeap_55 : decode cX3_leastHeap 55 = .ok (.idiv, 1) := by decide +kernel
theorem dX3_leastHeap_56 : decode cX3_leastHeap 56 = .ok (.istore 6, 2) := by decide +kernel
theorem dX3_leastHeap_58 : decode cX3_leastHeap 58 = .ok (.iinc 8 1, 3) := by decide +kernel
theorem dX3_leastHeap_61 : decode cX3_leastHeap 61 = .ok (.goto (-39), 3) := by decide +kernel
theorem dX3_leastHeap_64 : decode cX3_leastHeap 64 = .ok (.aload_n 1, 1) := by decide +kernel
theorem dX3_leastHeap_65 : decode cX3_leastHeap 65 = .ok (.iload 7, 2) := by decide +kernel
theorem dX3_leastHeap_67 : decode cX3_leastHeap 67 = .ok (.invokevirtual 88, 3) := by decide +kernel
theorem dX3_leastHeap_70 : decode cX3_leastHeap 70 = .ok (.istore 8, 2) := by decide +kernel
theorem dX3_leastHeap_72 : decode cX3_leastHeap 72 = .ok (.iload 4, 2) := by decide +kernel
theorem dX3_leastHeap_74 : decode cX3_leastHeap 74 = .ok (.iload 8, 2) := by decide +kernel
theorem dX3_leastHeap_76 : decode cX3_leastHeap 76 = .ok (.iconst (-1), 1) := by decide +kernel
theorem dX3_leastHeap_77 : decode cX3_leastHeap 77 = .ok (.if_icmp .ne 8, 3) := by decide +kernel
theorem dX3_leastHeap_80 : decode cX3_leastHeap 80 = .ok (.ldc 77, 2) := by decide +kernel
theorem dX3_leastHeap_82 : decode cX3_leastHeap 82 = .ok (.goto 9, 3) := by decide +kernel
theorem dX3_leastHeap_85 : decode cX3_leastHeap 85 = .ok (.aload_n 1, 1) := by decide +kernel
theorem dX3_leastHeap_86 : decode cX3_leastHeap 86 = .ok (.iload 8, 2) := by decide +kernel
theorem dX3_leastHeap_88 : decode cX3_leastHeap 88 = .ok (.invokevirtual 91, 3) := by decide +kernel
theorem dX3_leastHeap_91 : decode cX3_leastHeap 91 = .ok (.invokestatic 94, 3) := by decide +kernel
theorem dX3_leastHeap_94 : decode cX3_leastHeap 94 = .ok (.istore 4, 2) := by decide +kernel
theorem dX3_leastHeap_96 : decode cX3_leastHeap 96 = .ok (.iinc 5 1, 3) := by decide +kernel
theorem dX3_leastHeap_99 : decode cX3_leastHeap 99 = .ok (.goto (-92), 3) := by decide +kernel
theorem dX3_leastHeap_102 : decode cX3_leastHeap 102 = .ok (.iload 4, 2) := by decide +kernel
theorem dX3_leastHeap_104 : decode cX3_leastHeap 104 = .ok (.ireturn, 1) := by decide +kernel
theorem dX4_init_0 : decode cX4_init 0 = .ok (.aload_n 0, 1) := by decide +kernel
theorem dX4_init_1 : decode cX4_init 1 = .ok (.invokespecial 3, 3) := by decide +kernel
theorem dX4_init_4 : decode cX4_init 4 = .ok (.aload_n 0, 1) := by decide +kernel
theorem dX4_init_5 : decode cX4_init 5 = .ok (.bipush 10, 2) := by decide +kernel
theorem dX4_init_7 : decode cX4_init 7 = .ok (.newarray .int, 2) := by decide +kernel
theorem dX4_init_9 : decode cX4_init 9 = .ok (.putfield 9, 3) := by decide +kernel
theorem dX4_init_12 : decode cX4_init 12 = .ok (.aload_n 0, 1) := by decide +kernel
theorem dX4_init_13 : decode cX4_init 13 = .ok (.iconst 5, 1) := by decide +kernel
theorem dX4_init_14 : decode cX4_init 14 = .ok (.putfield 15, 3) := by decide +kernel
theorem dX4_init_17 : decode cX4_init 17 = .ok (.aload_n 0, 1) := by decide +kernel
theorem dX4_init_18 : decode cX4_init 18 = .ok (.bipush 10, 2) := by decide +kernel
theorem dX4_init_20 : decode cX4_init 20 = .ok (.newarray .int, 2) := by decide +kernel
theorem dX4_init_22 : decode cX4_init 22 = .ok (.putfield 19, 3) := by decide +kernel
theorem dX4_init_25 : decode cX4_init 25 = .ok (.aload_n 0, 1) := by decide +kernel
theorem dX4_init_26 : decode cX4_init 26 = .ok (.bipush 32, 2) := by decide +kernel
theorem dX4_init_28 : decode cX4_init 28 = .ok (.newarray .int, 2) := by decide +kernel
theorem dX4_init_30 : decode cX4_init 30 = .ok (.putfield 22, 3) := by decide +kernel
theorem dX4_init_33 : decode cX4_init 33 = .ok (.aload_n 0, 1) := by decide +kernel
theorem dX4_init_34 : decode cX4_init 34 = .ok (.bipush 32, 2) := by decide +kernel
theorem dX4_init_36 : decode cX4_init 36 = .ok (.newarray .int, 2) := by decide +kernel
theorem dX4_init_38 : decode cX4_init 38 = .ok (.putfield 25, 3) := by decide +kernel
theorem dX4_init_41 : decode cX4_init 41 = .ok (.aload_n 0, 1) := by decide +kernel
theorem dX4_init_42 : decode cX4_init 42 = .ok (.aload_n 1, 1) := by decide +kernel
theorem dX4_init_43 : decode cX4_init 43 = .ok (.putfield 28, 3) := by decide +kernel
theorem dX4_init_46 : decode cX4_init 46 = .ok (.aload_n 0, 1) := by decide +kernel
theorem dX4_init_47 : decode cX4_init 47 = .ok (.aload_n 2, 1) := by decide +kernel
theorem dX4_init_48 : decode cX4_init 48 = .ok (.putfield 32, 3) := by decide +kernel
theorem dX4_init_51 : decode cX4_init 51 = .ok (.return_, 1) := by decide +kernel
theorem dX4_mark_0 : decode cX4_mark 0 = .ok (.iconst 0, 1) := by decide +kernel
theorem dX4_mark_1 : decode cX4_mark 1 = .ok (.istore_n 2, 1) := by decide +kernel
theorem dX4_mark_2 : decode cX4_mark 2 = .ok (.iload_n 2, 1) := by decide +kernel
theorem dX4_mark_3 : decode cX4_mark 3 = .ok (.iconst 5, 1) := by decide +kernel
theorem dX4_mark_4 : decode cX4_mark 4 = .ok (.if_icmp .ge 70, 3) := by decide +kernel
theorem dX4_mark_7 : decode cX4_mark 7 = .ok (.iconst 1, 1) := by decide +kernel
theorem dX4_mark_8 : decode cX4_mark 8 = .ok (.iload_n 2, 1) := by decide +kernel
theorem dX4_mark_9 : decode cX4_mark 9 = .ok (.ishl, 1) := by decide +kernel
theorem dX4_mark_10 : decode cX4_mark 10 = .ok (.istore_n 3, 1) := by decide +kernel
theorem dX4_mark_11 : decode cX4_mark 11 = .ok (.iconst 0, 1) := by decide +kernel
theorem dX4_mark_12 : decode cX4_mark 12 = .ok (.istore 4, 2) := by decide +kernel
theorem dX4_mark_14 : decode cX4_mark 14 = .ok (.iload 4, 2) := by decide +kernel
theorem dX4_mark_16 : decode cX4_mark 16 = .ok (.iload_n 3, 1) := by decide +kernel
theorem dX4_mark_17 : decode cX4_mark 17 = .ok (.if_icmp .ge 51, 3) := by decide +kernel
theorem dX4_mark_20 : decode cX4_mark 20 = .ok (.aload_n 0, 1) := by decide +kernel
theorem dX4_mark_21 : decode cX4_mark 21 = .ok (.getfield 22, 3) := by decide +kernel
theorem dX4_mark_24 : decode cX4_mark 24 = .ok (.iload_n 3, 1) := by decide +kernel
theorem dX4_mark_25 : decode cX4_mark 25 = .ok (.iload 4, 2) := by decide +kernel
theorem dX4_mark_27 : decode cX4_mark 27 = .ok (.iadd, 1) := by decide +kernel
theorem dX4_mark_28 : decode cX4_mark 28 = .ok (.aload_n 0, 1) := by decide +kernel
theorem dX4_mark_29 : decode cX4_mark 29 = .ok (.getfield 22, 3) := by decide +kernel
theorem dX4_mark_32 : decode cX4_mark 32 = .ok (.iload 4, 2) := by decide +kernel
theorem dX4_mark_34 : decode cX4_mark 34 = .ok (.iaload, 1) := by decide +kernel
theorem dX4_mark_35 : decode cX4_mark 35 = .ok (.aload_n 1, 1) := by decide +kernel
theorem dX4_mark_36 : decode cX4_mark 36 = .ok (.iload_n 2, 1) := by decide +kernel
theorem dX4_mark_37 : decode cX4_mark 37 = .ok (.iaload, 1) := by decide +kernel
theorem dX4_mark_38 : decode cX4_mark 38 = .ok (.iadd, 1) := by decide +kernel
theorem dX4_mark_39 : decode cX4_mark 39 = .ok (.iastore, 1) := by decide +kernel
theorem dX4_mark_40 : decode cX4_mark 40 = .ok (.aload_n 0, 1) := by decide +kernel
theorem dX4_mark_41 : decode cX4_mark 41 = .ok (.getfield 25, 3) := by decide +kernel
theorem dX4_mark_44 : decode cX4_mark 44 = .ok (.iload_n 3, 1) := by decide +kernel
theorem dX4_mark_45 : decode cX4_mark 45 = .ok (.iload 4, 2) := by decide +kernel
theorem dX4_mark_47 : decode cX4_mark 47 = .ok (.iadd, 1) := by decide +kernel
theorem dX4_mark_48 : decode cX4_mark 48 = .ok (.aload_n 0, 1) := by decide +kernel
theorem dX4_mark_49 : decode cX4_mark 49 = .ok (.getfield 25, 3) := by decide +kernel
theorem dX4_mark_52 : decode cX4_mark 52 = .ok (.iload 4, 2) := by decide +kernel
theorem dX4_mark_54 : decode cX4_mark 54 = .ok (.iaload, 1) := by decide +kernel
theorem dX4_mark_55 : decode cX4_mark 55 = .ok (.aload_n 1, 1) := by decide +kernel
theorem dX4_mark_56 : decode cX4_mark 56 = .ok (.iconst 5, 1) := by decide +kernel
theorem dX4_mark_57 : decode cX4_mark 57 = .ok (.iload_n 2, 1) := by decide +kernel
theorem dX4_mark_58 : decode cX4_mark 58 = .ok (.iadd, 1) := by decide +kernel
theorem dX4_mark_59 : decode cX4_mark 59 = .ok (.iaload, 1) := by decide +kernel
theorem dX4_mark_60 : decode cX4_mark 60 = .ok (.iadd, 1) := by decide +kernel
theorem dX4_mark_61 : decode cX4_mark 61 = .ok (.iastore, 1) := by decide +kernel
theorem dX4_mark_62 : decode cX4_mark 62 = .ok (.iinc 4 1, 3) := by decide +kernel
theorem dX4_mark_65 : decode cX4_mark 65 = .ok (.goto (-51), 3) := by decide +kernel
theorem dX4_mark_68 : decode cX4_mark 68 = .ok (.iinc 2 1, 3) := by decide +kernel
theorem dX4_mark_71 : decode cX4_mark 71 = .ok (.goto (-69), 3) := by decide +kernel
theorem dX4_mark_74 : decode cX4_mark 74 = .ok (.return_, 1) := by decide +kernel
theorem dX4_costOf_0 : decode cX4_costOf 0 = .ok (.aload_n 0, 1) := by decide +kernel
theorem dX4_costOf_1 : decode cX4_costOf 1 = .ok (.getfield 22, 3) := by decide +kernel
theorem dX4_costOf_4 : decode cX4_costOf 4 = .ok (.iload_n 1, 1) := by decide +kernel
theorem dX4_costOf_5 : decode cX4_costOf 5 = .ok (.bipush 31, 2) := by decide +kernel
theorem dX4_costOf_7 : decode cX4_costOf 7 = .ok (.iand, 1) := by decide +kernel
theorem dX4_costOf_8 : decode cX4_costOf 8 = .ok (.iaload, 1) := by decide +kernel
theorem dX4_costOf_9 : decode cX4_costOf 9 = .ok (.aload_n 0, 1) := by decide +kernel
theorem dX4_costOf_10 : decode cX4_costOf 10 = .ok (.getfield 25, 3) := by decide +kernel
theorem dX4_costOf_13 : decode cX4_costOf 13 = .ok (.iload_n 1, 1) := by decide +kernel
theorem dX4_costOf_14 : decode cX4_costOf 14 = .ok (.iconst 5, 1) := by decide +kernel
theorem dX4_costOf_15 : decode cX4_costOf 15 = .ok (.ishr, 1) := by decide +kernel
theorem dX4_costOf_16 : decode cX4_costOf 16 = .ok (.bipush 31, 2) := by decide +kernel
theorem dX4_costOf_18 : decode cX4_costOf 18 = .ok (.iand, 1) := by decide +kernel
theorem dX4_costOf_19 : decode cX4_costOf 19 = .ok (.iaload, 1) := by decide +kernel
theorem dX4_costOf_20 : decode cX4_costOf 20 = .ok (.iadd, 1) := by decide +kernel
theorem dX4_costOf_21 : decode cX4_costOf 21 = .ok (.ireturn, 1) := by decide +kernel
theorem dX4_pick_0 : decode cX4_pick 0 = .ok (.iconst (-1), 1) := by decide +kernel
theorem dX4_pick_1 : decode cX4_pick 1 = .ok (.istore_n 3, 1) := by decide +kernel
theorem dX4_pick_2 : decode cX4_pick 2 = .ok (.iconst 0, 1) := by decide +kernel
theorem dX4_pick_3 : decode cX4_pick 3 = .ok (.istore 4, 2) := by decide +kernel
theorem dX4_pick_5 : decode cX4_pick 5 = .ok (.aload_n 0, 1) := by decide +kernel
theorem dX4_pick_6 : decode cX4_pick 6 = .ok (.aload_n 1, 1) := by decide +kernel
theorem dX4_pick_7 : decode cX4_pick 7 = .ok (.getfield 36, 3) := by decide +kernel
theorem dX4_pick_10 : decode cX4_pick 10 = .ok (.putfield 41, 3) := by decide +kernel
theorem dX4_pick_13 : decode cX4_pick 13 = .ok (.iload_n 2, 1) := by decide +kernel
theorem dX4_pick_14 : decode cX4_pick 14 = .ok (.istore 5, 2) := by decide +kernel
theorem dX4_pick_16 : decode cX4_pick 16 = .ok (.iload 5, 2) := by decide +kernel
theorem dX4_pick_18 : decode cX4_pick 18 = .ok (.aload_n 1, 1) := by decide +kernel
theorem dX4_pick_19 : decode cX4_pick 19 = .ok (.getfield 36, 3) := by decide +kernel
theorem dX4_pick_22 : decode cX4_pick 22 = .ok (.if_icmp .ge 81, 3) := by decide +kernel
theorem dX4_pick_25 : decode cX4_pick 25 = .ok (.iload_n 3, 1) := by decide +kernel
theorem dX4_pick_26 : decode cX4_pick 26 = .ok (.iconst (-1), 1) := by decide +kernel
theorem dX4_pick_27 : decode cX4_pick 27 = .ok (.if_icmp .eq 19, 3) := by decide +kernel
theorem dX4_pick_30 : decode cX4_pick 30 = .ok (.aload_n 1, 1) := by decide +kernel
theorem dX4_pick_31 : decode cX4_pick 31 = .ok (.iload 5, 2) := by decide +kernel
theorem dX4_pick_33 : decode cX4_pick 33 = .ok (.invokevirtual 44, 3) := by decide +kernel
theorem dX4_pick_36 : decode cX4_pick 36 = .ok (.aload_n 1, 1) := by decide +kernel
theorem dX4_pick_37 : decode cX4_pick 37 = .ok (.iload_n 3, 1) := by decide +kernel
theorem dX4_pick_38 : decode cX4_pick 38 = .ok (.invokevirtual 44, 3) := by decide +kernel
theorem dX4_pick_41 : decode cX4_pick 41 = .ok (.if_icmp .ge 5, 3) := by decide +kernel
theorem dX4_pick_44 : decode cX4_pick 44 = .ok (.iload_n 3, 1) := by decide +kernel
theorem dX4_pick_45 : decode cX4_pick 45 = .ok (.ireturn, 1) := by decide +kernel
theorem dX4_pick_46 : decode cX4_pick 46 = .ok (.aload_n 0, 1) := by decide +kernel
theorem dX4_pick_47 : decode cX4_pick 47 = .ok (.aload_n 1, 1) := by decide +kernel
theorem dX4_pick_48 : decode cX4_pick 48 = .ok (.iload 5, 2) := by decide +kernel
theorem dX4_pick_50 : decode cX4_pick 50 = .ok (.invokevirtual 48, 3) := by decide +kernel
theorem dX4_pick_53 : decode cX4_pick 53 = .ok (.invokevirtual 51, 3) := by decide +kernel
theorem dX4_pick_56 : decode cX4_pick 56 = .ok (.istore 6, 2) := by decide +kernel
theorem dX4_pick_58 : decode cX4_pick 58 = .ok (.iload 6, 2) := by decide +kernel
theorem dX4_pick_60 : decode cX4_pick 60 = .ok (.aload_n 1, 1) := by decide +kernel
theorem dX4_pick_61 : decode cX4_pick 61 = .ok (.getfield 54, 3) := by decide +kernel
theorem dX4_pick_64 : decode cX4_pick 64 = .ok (.if_icmp .gt 33, 3) := by decide +kernel
theorem dX4_pick_67 : decode cX4_pick 67 = .ok (.iload_n 3, 1) := by decide +kernel
theorem dX4_pick_68 : decode cX4_pick 68 = .ok (.iconst (-1), 1) := by decide +kernel
theorem dX4_pick_69 : decode cX4_pick 69 = .ok (.if_icmp .eq 10, 3) := by decide +kernel
theorem dX4_pick_72 : decode cX4_pick 72 = .ok (.iload 6, 2) := by decide +kernel
theorem dX4_pick_74 : decode cX4_pick 74 = .ok (.iload 4, 2) := by decide +kernel
theorem dX4_pick_76 : decode cX4_pick 76 = .ok (.if_icmp .ge 21, 3) := by decide +kernel
theorem dX4_pick_79 : decode cX4_pick 79 = .ok (.iload_n 3, 1) := by decide +kernel
theorem dX4_pick_80 : decode cX4_pick 80 = .ok (.iconst (-1), 1) := by decide +kernel
theorem dX4_pick_81 : decode cX4_pick 81 = .ok (.if_icmp .ne 9, 3) := by decide +kernel
theorem dX4_pick_84 : decode cX4_pick 84 = .ok (.aload_n 0, 1) := by decide +kernel
theorem dX4_pick_85 : decode cX4_pick 85 = .ok (.iload 5, 2) := by decide +kernel
theorem dX4_pick_87 : decode cX4_pick 87 = .ok (.putfield 41, 3) := by decide +kernel
theorem dX4_pick_90 : decode cX4_pick 90 = .ok (.iload 5, 2) := by decide +kernel
theorem dX4_pick_92 : decode cX4_pick 92 = .ok (.istore_n 3, 1) := by decide +kernel
theorem dX4_pick_93 : decode cX4_pick 93 = .ok (.iload 6, 2) := by decide +kernel
theorem dX4_pick_95 : decode cX4_pick 95 = .ok (.istore 4, 2) := by decide +kernel
theorem dX4_pick_97 : decode cX4_pick 97 = .ok (.iinc 5 1, 3) := by decide +kernel
theorem dX4_pick_100 : decode cX4_pick 100 = .ok (.goto (-84), 3) := by decide +kernel
theorem dX4_pick_103 : decode cX4_pick 103 = .ok (.iload_n 3, 1) := by decide +kernel
theorem dX4_pick_104 : decode cX4_pick 104 = .ok (.ireturn, 1) := by decide +kernel
theorem dX4_leastBetter_0 : decode cX4_leastBetter 0 = .ok (.aload_n 1, 1) := by decide +kernel
theorem dX4_leastBetter_1 : decode cX4_leastBetter 1 = .ok (.aload_n 1, 1) := by decide +kernel
theorem dX4_leastBetter_2 : decode cX4_leastBetter 2 = .ok (.aload_n 0, 1) := by decide +kernel
theorem dX4_leastBetter_3 : decode cX4_leastBetter 3 = .ok (.aload_n 1, 1) := by decide +kernel
theorem dX4_leastBetter_4 : decode cX4_leastBetter 4 = .ok (.iconst 0, 1) := by decide +kernel
theorem dX4_leastBetter_5 : decode cX4_leastBetter 5 = .ok (.invokevirtual 57, 3) := by decide +kernel
theorem dX4_leastBetter_8 : decode cX4_leastBetter 8 = .ok (.invokevirtual 44, 3) := by decide +kernel
theorem dX4_leastBetter_11 : decode cX4_leastBetter 11 = .ok (.invokevirtual 61, 3) := by decide +kernel
theorem dX4_leastBetter_14 : decode cX4_leastBetter 14 = .ok (.istore_n 3, 1) := by decide +kernel
theorem dX4_leastBetter_15 : decode cX4_leastBetter 15 = .ok (.iconst (-1), 1) := by decide +kernel
theorem dX4_leastBetter_16 : decode cX4_leastBetter 16 = .ok (.istore 4, 2) := by decide +kernel
theorem dX4_leastBetter_18 : decode cX4_leastBetter 18 = .ok (.iconst 0, 1) := by decide +kernel
theorem dX4_leastBetter_19 : decode cX4_leastBetter 19 = .ok (.istore 5, 2) := by decide +kernel
theorem dX4_leastBetter_21 : decode cX4_leastBetter 21 = .ok (.iload 5, 2) := by decide +kernel
theorem dX4_leastBetter_23 : decode cX4_leastBetter 23 = .ok (.iload_n 3, 1) := by decide +kernel
theorem dX4_leastBetter_24 : decode cX4_leastBetter 24 = .ok (.if_icmp .ge 50, 3) := by decide +kernel
theorem dX4_leastBetter_27 : decode cX4_leastBetter 27 = .ok (.aload_n 1, 1) := by decide +kernel
theorem dX4_leastBetter_28 : decode cX4_leastBetter 28 = .ok (.iload 5, 2) := by decide +kernel
theorem dX4_leastBetter_30 : decode cX4_leastBetter 30 = .ok (.invokevirtual 48, 3) := by decide +kernel
theorem dX4_leastBetter_33 : decode cX4_leastBetter 33 = .ok (.istore 6, 2) := by decide +kernel
theorem dX4_leastBetter_35 : decode cX4_leastBetter 35 = .ok (.iload 6, 2) := by decide +kernel
theorem dX4_leastBetter_37 : decode cX4_leastBetter 37 = .ok (.iload_n 2, 1) := by decide +kernel
theorem dX4_leastBetter_38 : decode cX4_leastBetter 38 = .ok (.iand, 1) := by decide +kernel
theorem dX4_leastBetter_39 : decode cX4_leastBetter 39 = .ok (.iload_n 2, 1) := by decide +kernel
theorem dX4_leastBetter_40 : decode cX4_leastBetter 40 = .ok (.if_icmp .ne 28, 3) := by decide +kernel
theorem dX4_leastBetter_43 : decode cX4_leastBetter 43 = .ok (.iload 4, 2) := by decide +kernel
theorem dX4_leastBetter_45 : decode cX4_leastBetter 45 = .ok (.iconst (-1), 1) := by decide +kernel
theorem dX4_leastBetter_46 : decode cX4_leastBetter 46 = .ok (.if_icmp .eq 14, 3) := by decide +kernel
theorem dX4_leastBetter_49 : decode cX4_leastBetter 49 = .ok (.aload_n 0, 1) := by decide +kernel
theorem dX4_leastBetter_50 : decode cX4_leastBetter 50 = .ok (.iload 6, 2) := by decide +kernel
theorem dX4_leastBetter_52 : decode cX4_leastBetter 52 = .ok (.invokevirtual 51, 3) := by decide +kernel
theorem dX4_leastBetter_55 : decode cX4_leastBetter 55 = .ok (.iload 4, 2) := by decide +kernel
theorem dX4_leastBetter_57 : decode cX4_leastBetter 57 = .ok (.if_icmp .ge 11, 3) := by decide +kernel
theorem dX4_leastBetter_60 : decode cX4_leastBetter 60 = .ok (.aload_n 0, 1) := by decide +kernel
theorem dX4_leastBetter_61 : decode cX4_leastBetter 61 = .ok (.iload 6, 2) := by decide +kernel
theorem dX4_leastBetter_63 : decode cX4_leastBetter 63 = .ok (.invokevirtual 51, 3) := by decide +kernel
theorem dX4_leastBetter_66 : decode cX4_leastBetter 66 = .ok (.istore 4, 2) := by decide +kernel
theorem dX4_leastBetter_68 : decode cX4_leastBetter 68 = .ok (.iinc 5 1, 3) := by decide +kernel
theorem dX4_leastBetter_71 : decode cX4_leastBetter 71 = .ok (.goto (-50), 3) := by decide +kernel
theorem dX4_leastBetter_74 : decode cX4_leastBetter 74 = .ok (.iload 4, 2) := by decide +kernel
theorem dX4_leastBetter_76 : decode cX4_leastBetter 76 = .ok (.ireturn, 1) := by decide +kernel
theorem dX4_alike_0 : decode cX4_alike 0 = .ok (.aload_n 0, 1) := by decide +kernel
theorem dX4_alike_1 : decode cX4_alike 1 = .ok (.aload_n 1, 1) := by decide +kernel
theorem dX4_alike_2 : decode cX4_alike 2 = .ok (.iconst 0, 1) := by decide +kernel
theorem dX4_alike_3 : decode cX4_alike 3 = .ok (.invokevirtual 57, 3) := by decide +kernel
theorem dX4_alike_6 : decode cX4_alike 6 = .ok (.istore_n 2, 1) := by decide +kernel
theorem dX4_alike_7 : decode cX4_alike 7 = .ok (.iload_n 2, 1) := by decide +kernel
theorem dX4_alike_8 : decode cX4_alike 8 = .ok (.iconst (-1), 1) := by decide +kernel
theorem dX4_alike_9 : decode cX4_alike 9 = .ok (.if_icmp .ne 5, 3) := by decide +kernel
theorem dX4_alike_12 : decode cX4_alike 12 = .ok (.iconst (-1), 1) := by decide +kernel
theorem dX4_alike_13 : decode cX4_alike 13 = .ok (.ireturn, 1) := by decide +kernel
theorem dX4_alike_14 : decode cX4_alike 14 = .ok (.iconst 0, 1) := by decide +kernel
theorem dX4_alike_15 : decode cX4_alike 15 = .ok (.istore_n 3, 1) := by decide +kernel
theorem dX4_alike_16 : decode cX4_alike 16 = .ok (.iconst 0, 1) := by decide +kernel
theorem dX4_alike_17 : decode cX4_alike 17 = .ok (.istore 4, 2) := by decide +kernel
theorem dX4_alike_19 : decode cX4_alike 19 = .ok (.iload 4, 2) := by decide +kernel
theorem dX4_alike_21 : decode cX4_alike 21 = .ok (.aload_n 1, 1) := by decide +kernel
theorem dX4_alike_22 : decode cX4_alike 22 = .ok (.getfield 36, 3) := by decide +kernel
theorem dX4_alike_25 : decode cX4_alike 25 = .ok (.if_icmp .ge 61, 3) := by decide +kernel
theorem dX4_alike_28 : decode cX4_alike 28 = .ok (.iload 4, 2) := by decide +kernel
theorem dX4_alike_30 : decode cX4_alike 30 = .ok (.iload_n 2, 1) := by decide +kernel
theorem dX4_alike_31 : decode cX4_alike 31 = .ok (.if_icmp .eq 21, 3) := by decide +kernel
theorem dX4_alike_34 : decode cX4_alike 34 = .ok (.aload_n 1, 1) := by decide +kernel
theorem dX4_alike_35 : decode cX4_alike 35 = .ok (.iload 4, 2) := by decide +kernel
theorem dX4_alike_37 : decode cX4_alike 37 = .ok (.invokevirtual 44, 3) := by decide +kernel
theorem dX4_alike_40 : decode cX4_alike 40 = .ok (.aload_n 1, 1) := by decide +kernel
theorem dX4_alike_41 : decode cX4_alike 41 = .ok (.iload_n 2, 1) := by decide +kernel
theorem dX4_alike_42 : decode cX4_alike 42 = .ok (.invokevirtual 44, 3) := by decide +kernel
theorem dX4_alike_45 : decode cX4_alike 45 = .ok (.if_icmp .ne 7, 3) := by decide +kernel
theorem dX4_alike_48 : decode cX4_alike 48 = .ok (.iconst 1, 1) := by decide +kernel
theorem dX4_alike_49 : decode cX4_alike 49 = .ok (.goto 4, 3) := by decide +kernel
theorem dX4_alike_52 : decode cX4_alike 52 = .ok (.iconst 0, 1) := by decide +kernel
theorem dX4_alike_53 : decode cX4_alike 53 = .ok (.istore 5, 2) := by decide +kernel
theorem dX4_alike_55 : decode cX4_alike 55 = .ok (.iload 5, 2) := by decide +kernel
theorem dX4_alike_57 : decode cX4_alike 57 = .ok (.ifCond .eq 23, 3) := by decide +kernel
theorem dX4_alike_60 : decode cX4_alike 60 = .ok (.aload_n 0, 1) := by decide +kernel
theorem dX4_alike_61 : decode cX4_alike 61 = .ok (.aload_n 1, 1) := by decide +kernel
theorem dX4_alike_62 : decode cX4_alike 62 = .ok (.iload 4, 2) := by decide +kernel
theorem dX4_alike_64 : decode cX4_alike 64 = .ok (.invokevirtual 48, 3) := by decide +kernel
theorem dX4_alike_67 : decode cX4_alike 67 = .ok (.invokevirtual 51, 3) := by decide +kernel
theorem dX4_alike_70 : decode cX4_alike 70 = .ok (.aload_n 1, 1) := by decide +kernel
theorem dX4_alike_71 : decode cX4_alike 71 = .ok (.getfield 54, 3) := by decide +kernel
theorem dX4_alike_74 : decode cX4_alike 74 = .ok (.if_icmp .gt 6, 3) := by decide +kernel
theorem dX4_alike_77 : decode cX4_alike 77 = .ok (.iinc 3 1, 3) := by decide +kernel
theorem dX4_alike_80 : decode cX4_alike 80 = .ok (.iinc 4 1, 3) := by decide +kernel
theorem dX4_alike_83 : decode cX4_alike 83 = .ok (.goto (-64), 3) := by decide +kernel
theorem dX4_alike_86 : decode cX4_alike 86 = .ok (.iload_n 3, 1) := by decide +kernel
theorem dX4_alike_87 : decode cX4_alike 87 = .ok (.ireturn, 1) := by decide +kernel
theorem dX4_squareAt_0 : decode cX4_squareAt 0 = .ok (.aload_n 0, 1) := by decide +kernel
theorem dX4_squareAt_1 : decode cX4_squareAt 1 = .ok (.aload_n 1, 1) := by decide +kernel
theorem dX4_squareAt_2 : decode cX4_squareAt 2 = .ok (.invokevirtual 64, 3) := by decide +kernel
theorem dX4_squareAt_5 : decode cX4_squareAt 5 = .ok (.iconst 0, 1) := by decide +kernel
theorem dX4_squareAt_6 : decode cX4_squareAt 6 = .ok (.istore_n 2, 1) := by decide +kernel
theorem dX4_squareAt_7 : decode cX4_squareAt 7 = .ok (.iload_n 2, 1) := by decide +kernel
theorem dX4_squareAt_8 : decode cX4_squareAt 8 = .ok (.aload_n 0, 1) := by decide +kernel
theorem dX4_squareAt_9 : decode cX4_squareAt 9 = .ok (.getfield 28, 3) := by decide +kernel
theorem dX4_squareAt_12 : decode cX4_squareAt 12 = .ok (.getfield 68, 3) := by decide +kernel
theorem dX4_squareAt_15 : decode cX4_squareAt 15 = .ok (.if_icmp .ge 25, 3) := by decide +kernel
theorem dX4_squareAt_18 : decode cX4_squareAt 18 = .ok (.aload_n 0, 1) := by decide +kernel
theorem dX4_squareAt_19 : decode cX4_squareAt 19 = .ok (.getfield 19, 3) := by decide +kernel
theorem dX4_squareAt_22 : decode cX4_squareAt 22 = .ok (.iload_n 2, 1) := by decide +kernel
theorem dX4_squareAt_23 : decode cX4_squareAt 23 = .ok (.aload_n 0, 1) := by decide +kernel
theorem dX4_squareAt_24 : decode cX4_squareAt 24 = .ok (.getfield 28, 3) := by decide +kernel
theorem dX4_squareAt_27 : decode cX4_squareAt 27 = .ok (.getfield 73, 3) := by decide +kernel
theorem dX4_squareAt_30 : decode cX4_squareAt 30 = .ok (.iload_n 2, 1) := by decide +kernel
theorem dX4_squareAt_31 : decode cX4_squareAt 31 = .ok (.iaload, 1) := by decide +kernel
theorem dX4_squareAt_32 : decode cX4_squareAt 32 = .ok (.ineg, 1) := by decide +kernel
theorem dX4_squareAt_33 : decode cX4_squareAt 33 = .ok (.iastore, 1) := by decide +kernel
theorem dX4_squareAt_34 : decode cX4_squareAt 34 = .ok (.iinc 2 1, 3) := by decide +kernel
theorem dX4_squareAt_37 : decode cX4_squareAt 37 = .ok (.goto (-30), 3) := by decide +kernel
theorem dX4_squareAt_40 : decode cX4_squareAt 40 = .ok (.iconst 0, 1) := by decide +kernel
theorem dX4_squareAt_41 : decode cX4_squareAt 41 = .ok (.istore_n 2, 1) := by decide +kernel
theorem dX4_squareAt_42 : decode cX4_squareAt 42 = .ok (.iload_n 2, 1) := by decide +kernel
theorem dX4_squareAt_43 : decode cX4_squareAt 43 = .ok (.aload_n 0, 1) := by decide +kernel
theorem dX4_squareAt_44 : decode cX4_squareAt 44 = .ok (.getfield 32, 3) := by decide +kernel
theorem dX4_squareAt_47 : decode cX4_squareAt 47 = .ok (.getfield 76, 3) := by decide +kernel
theorem dX4_squareAt_50 : decode cX4_squareAt 50 = .ok (.if_icmp .ge 73, 3) := by decide +kernel
theorem dX4_squareAt_53 : decode cX4_squareAt 53 = .ok (.aload_n 0, 1) := by decide +kernel
theorem dX4_squareAt_54 : decode cX4_squareAt 54 = .ok (.getfield 32, 3) := by decide +kernel
theorem dX4_squareAt_57 : decode cX4_squareAt 57 = .ok (.getfield 79, 3) := by decide +kernel
theorem dX4_squareAt_60 : decode cX4_squareAt 60 = .ok (.iload_n 2, 1) := by decide +kernel
theorem dX4_squareAt_61 : decode cX4_squareAt 61 = .ok (.aaload, 1) := by decide +kernel
theorem dX4_squareAt_62 : decode cX4_squareAt 62 = .ok (.astore_n 3, 1) := by decide +kernel
theorem dX4_squareAt_63 : decode cX4_squareAt 63 = .ok (.aload_n 3, 1) := by decide +kernel
theorem dX4_squareAt_64 : decode cX4_squareAt 64 = .ok (.aload_n 0, 1) := by decide +kernel
theorem dX4_squareAt_65 : decode cX4_squareAt 65 = .ok (.aload_n 3, 1) := by decide +kernel
theorem dX4_squareAt_66 : decode cX4_squareAt 66 = .ok (.iconst 0, 1) := by decide +kernel
theorem dX4_squareAt_67 : decode cX4_squareAt 67 = .ok (.invokevirtual 57, 3) := by decide +kernel
theorem dX4_squareAt_70 : decode cX4_squareAt 70 = .ok (.invokevirtual 48, 3) := by decide +kernel
theorem dX4_squareAt_73 : decode cX4_squareAt 73 = .ok (.istore 4, 2) := by decide +kernel
theorem dX4_squareAt_75 : decode cX4_squareAt 75 = .ok (.iconst 0, 1) := by decide +kernel
theorem dX4_squareAt_76 : decode cX4_squareAt 76 = .ok (.istore 5, 2) := by decide +kernel
theorem dX4_squareAt_78 : decode cX4_squareAt 78 = .ok (.iload 5, 2) := by decide +kernel
theorem dX4_squareAt_80 : decode cX4_squareAt 80 = .ok (.aload_n 0, 1) := by decide +kernel
theorem dX4_squareAt_81 : decode cX4_squareAt 81 = .ok (.getfield 28, 3) := by decide +kernel
theorem dX4_squareAt_84 : decode cX4_squareAt 84 = .ok (.getfield 68, 3) := by decide +kernel
theorem dX4_squareAt_87 : decode cX4_squareAt 87 = .ok (.if_icmp .ge 30, 3) := by decide +kernel
theorem dX4_squareAt_90 : decode cX4_squareAt 90 = .ok (.iload 4, 2) := by decide +kernel
theorem dX4_squareAt_92 : decode cX4_squareAt 92 = .ok (.iload 5, 2) := by decide +kernel
theorem dX4_squareAt_94 : decode cX4_squareAt 94 = .ok (.invokestatic 83, 3) := by decide +kernel
theorem dX4_squareAt_97 : decode cX4_squareAt 97 = .ok (.ifCond .eq 14, 3) := by decide +kernel
theorem dX4_squareAt_100 : decode cX4_squareAt 100 = .ok (.aload_n 0, 1) := by decide +kernel
theorem dX4_squareAt_101 : decode cX4_squareAt 101 = .ok (.getfield 19, 3) := by decide +kernel
theorem dX4_squareAt_104 : decode cX4_squareAt 104 = .ok (.iload 5, 2) := by decide +kernel
theorem dX4_squareAt_106 : decode cX4_squareAt 106 = .ok (.dup2, 1) := by decide +kernel
theorem dX4_squareAt_107 : decode cX4_squareAt 107 = .ok (.iaload, 1) := by decide +kernel
theorem dX4_squareAt_108 : decode cX4_squareAt 108 = .ok (.iconst 1, 1) := by decide +kernel
theorem dX4_squareAt_109 : decode cX4_squareAt 109 = .ok (.iadd, 1) := by decide +kernel
theorem dX4_squareAt_110 : decode cX4_squareAt 110 = .ok (.iastore, 1) := by decide +kernel
theorem dX4_squareAt_111 : decode cX4_squareAt 111 = .ok (.iinc 5 1, 3) := by decide +kernel
theorem dX4_squareAt_114 : decode cX4_squareAt 114 = .ok (.goto (-36), 3) := by decide +kernel
theorem dX4_squareAt_117 : decode cX4_squareAt 117 = .ok (.iinc 2 1, 3) := by decide +kernel
theorem dX4_squareAt_120 : decode cX4_squareAt 120 = .ok (.goto (-78), 3) := by decide +kernel
theorem dX4_squareAt_123 : decode cX4_squareAt 123 = .ok (.iconst 0, 1) := by decide +kernel
theorem dX4_squareAt_124 : decode cX4_squareAt 124 = .ok (.istore_n 2, 1) := by decide +kernel
theorem dX4_squareAt_125 : decode cX4_squareAt 125 = .ok (.iconst 0, 1) := by decide +kernel
theorem dX4_squareAt_126 : decode cX4_squareAt 126 = .ok (.istore_n 3, 1) := by decide +kernel
theorem dX4_squareAt_127 : decode cX4_squareAt 127 = .ok (.iload_n 3, 1) := by decide +kernel
theorem dX4_squareAt_128 : decode cX4_squareAt 128 = .ok (.aload_n 0, 1) := by decide +kernel
theorem dX4_squareAt_129 : decode cX4_squareAt 129 = .ok (.getfield 28, 3) := by decide +kernel
theorem dX4_squareAt_132 : decode cX4_squareAt 132 = .ok (.getfield 68, 3) := by decide +kernel
theorem dX4_squareAt_135 : decode cX4_squareAt 135 = .ok (.if_icmp .ge 47, 3) := by decide +kernel
theorem dX4_squareAt_138 : decode cX4_squareAt 138 = .ok (.aload_n 0, 1) := by decide +kernel
theorem dX4_squareAt_139 : decode cX4_squareAt 139 = .ok (.getfield 19, 3) := by decide +kernel
theorem dX4_squareAt_142 : decode cX4_squareAt 142 = .ok (.iload_n 3, 1) := by decide +kernel
theorem dX4_squareAt_143 : decode cX4_squareAt 143 = .ok (.iaload, 1) := by decide +kernel
theorem dX4_squareAt_144 : decode cX4_squareAt 144 = .ok (.ifCond .ge 16, 3) := by decide +kernel
theorem dX4_squareAt_147 : decode cX4_squareAt 147 = .ok (.aload_n 1, 1) := by decide +kernel
theorem dX4_squareAt_148 : decode cX4_squareAt 148 = .ok (.iload_n 3, 1) := by decide +kernel
theorem dX4_squareAt_149 : decode cX4_squareAt 149 = .ok (.iaload, 1) := by decide +kernel
theorem dX4_squareAt_150 : decode cX4_squareAt 150 = .ok (.ifCond .ne 10, 3) := by decide +kernel
theorem dX4_squareAt_153 : decode cX4_squareAt 153 = .ok (.aload_n 0, 1) := by decide +kernel
theorem dX4_squareAt_154 : decode cX4_squareAt 154 = .ok (.getfield 19, 3) := by decide +kernel
theorem dX4_squareAt_157 : decode cX4_squareAt 157 = .ok (.iload_n 3, 1) := by decide +kernel
theorem dX4_squareAt_158 : decode cX4_squareAt 158 = .ok (.iconst 0, 1) := by decide +kernel
theorem dX4_squareAt_159 : decode cX4_squareAt 159 = .ok (.iastore, 1) := by decide +kernel
theorem dX4_squareAt_160 : decode cX4_squareAt 160 = .ok (.iload_n 2, 1) := by decide +kernel
theorem dX4_squareAt_161 : decode cX4_squareAt 161 = .ok (.aload_n 0, 1) := by decide +kernel
theorem dX4_squareAt_162 : decode cX4_squareAt 162 = .ok (.getfield 19, 3) := by decide +kernel
theorem dX4_squareAt_165 : decode cX4_squareAt 165 = .ok (.iload_n 3, 1) := by decide +kernel
theorem dX4_squareAt_166 : decode cX4_squareAt 166 = .ok (.iaload, 1) := by decide +kernel
theorem dX4_squareAt_167 : decode cX4_squareAt 167 = .ok (.aload_n 0, 1) := by decide +kernel
theorem dX4_squareAt_168 : decode cX4_squareAt 168 = .ok (.getfield 19, 3) := by decide +kernel
theorem dX4_squareAt_171 : decode cX4_squareAt 171 = .ok (.iload_n 3, 1) := by decide +kernel
theorem dX4_squareAt_172 : decode cX4_squareAt 172 = .ok (.iaload, 1) := by decide +kernel
theorem dX4_squareAt_173 : decode cX4_squareAt 173 = .ok (.imul, 1) := by decide +kernel
theorem dX4_squareAt_174 : decode cX4_squareAt 174 = .ok (.iadd, 1) := by decide +kernel
theorem dX4_squareAt_175 : decode cX4_squareAt 175 = .ok (.istore_n 2, 1) := by decide +kernel
theorem dX4_squareAt_176 : decode cX4_squareAt 176 = .ok (.iinc 3 1, 3) := by decide +kernel
theorem dX4_squareAt_179 : decode cX4_squareAt 179 = .ok (.goto (-52), 3) := by decide +kernel
theorem dX4_squareAt_182 : decode cX4_squareAt 182 = .ok (.iload_n 2, 1) := by decide +kernel
theorem dX4_squareAt_183 : decode cX4_squareAt 183 = .ok (.ireturn, 1) := by decide +kernel
theorem dX5_init_0 : decode cX5_init 0 = .ok (.aload_n 0, 1) := by decide +kernel
theorem dX5_init_1 : decode cX5_init 1 = .ok (.invokespecial 3, 3) := by decide +kernel
theorem dX5_init_4 : decode cX5_init 4 = .ok (.aload_n 0, 1) := by decide +kernel
theorem dX5_init_5 : decode cX5_init 5 = .ok (.sipush 400, 3) := by decide +kernel
theorem dX5_init_8 : decode cX5_init 8 = .ok (.newarray .int, 2) := by decide +kernel
theorem dX5_init_10 : decode cX5_init 10 = .ok (.putfield 9, 3) := by decide +kernel
theorem dX5_init_13 : decode cX5_init 13 = .ok (.aload_n 0, 1) := by decide +kernel
theorem dX5_init_14 : decode cX5_init 14 = .ok (.sipush 1024, 3) := by decide +kernel
theorem dX5_init_17 : decode cX5_init 17 = .ok (.newarray .int, 2) := by decide +kernel
theorem dX5_init_19 : decode cX5_init 19 = .ok (.putfield 15, 3) := by decide +kernel
theorem dX5_init_22 : decode cX5_init 22 = .ok (.aload_n 0, 1) := by decide +kernel
theorem dX5_init_23 : decode cX5_init 23 = .ok (.sipush 1024, 3) := by decide +kernel
theorem dX5_init_26 : decode cX5_init 26 = .ok (.newarray .boolean, 2) := by decide +kernel
theorem dX5_init_28 : decode cX5_init 28 = .ok (.putfield 18, 3) := by decide +kernel
theorem dX5_init_31 : decode cX5_init 31 = .ok (.aload_n 0, 1) := by decide +kernel
theorem dX5_init_32 : decode cX5_init 32 = .ok (.sipush 1024, 3) := by decide +kernel
theorem dX5_init_35 : decode cX5_init 35 = .ok (.newarray .int, 2) := by decide +kernel
theorem dX5_init_37 : decode cX5_init 37 = .ok (.putfield 22, 3) := by decide +kernel
theorem dX5_init_40 : decode cX5_init 40 = .ok (.aload_n 0, 1) := by decide +kernel
theorem dX5_init_41 : decode cX5_init 41 = .ok (.iload_n 1, 1) := by decide +kernel
theorem dX5_init_42 : decode cX5_init 42 = .ok (.putfield 25, 3) := by decide +kernel
theorem dX5_init_45 : decode cX5_init 45 = .ok (.aload_n 0, 1) := by decide +kernel
theorem dX5_init_46 : decode cX5_init 46 = .ok (.iload_n 2, 1) := by decide +kernel
theorem dX5_init_47 : decode cX5_init 47 = .ok (.putfield 29, 3) := by decide +kernel
theorem dX5_init_50 : decode cX5_init 50 = .ok (.return_, 1) := by decide +kernel
theorem dX5_wishFor_0 : decode cX5_wishFor 0 = .ok (.aload_n 0, 1) := by decide +kernel
theorem dX5_wishFor_1 : decode cX5_wishFor 1 = .ok (.iload_n 2, 1) := by decide +kernel
theorem dX5_wishFor_2 : decode cX5_wishFor 2 = .ok (.sipush 400, 3) := by decide +kernel
theorem dX5_wishFor_5 : decode cX5_wishFor 5 = .ok (.invokestatic 32, 3) := by decide +kernel
theorem dX5_wishFor_8 : decode cX5_wishFor 8 = .ok (.putfield 38, 3) := by decide +kernel
theorem dX5_wishFor_11 : decode cX5_wishFor 11 = .ok (.aload_n 1, 1) := by decide +kernel
theorem dX5_wishFor_12 : decode cX5_wishFor 12 = .ok (.iconst 0, 1) := by decide +kernel
theorem dX5_wishFor_13 : decode cX5_wishFor 13 = .ok (.aload_n 0, 1) := by decide +kernel
theorem dX5_wishFor_14 : decode cX5_wishFor 14 = .ok (.getfield 9, 3) := by decide +kernel
theorem dX5_wishFor_17 : decode cX5_wishFor 17 = .ok (.iconst 0, 1) := by decide +kernel
theorem dX5_wishFor_18 : decode cX5_wishFor 18 = .ok (.aload_n 0, 1) := by decide +kernel
theorem dX5_wishFor_19 : decode cX5_wishFor 19 = .ok (.getfield 38, 3) := by decide +kernel
theorem dX5_wishFor_22 : decode cX5_wishFor 22 = .ok (.invokestatic 41, 3) := by decide +kernel
theorem dX5_wishFor_25 : decode cX5_wishFor 25 = .ok (.aload_n 0, 1) := by decide +kernel
theorem dX5_wishFor_26 : decode cX5_wishFor 26 = .ok (.iconst 0, 1) := by decide +kernel
theorem dX5_wishFor_27 : decode cX5_wishFor 27 = .ok (.putfield 47, 3) := by decide +kernel
theorem dX5_wishFor_30 : decode cX5_wishFor 30 = .ok (.return_, 1) := by decide +kernel
theorem dX5_standFor_0 : decode cX5_standFor 0 = .ok (.aload_n 0, 1) := by decide +kernel
theorem dX5_standFor_1 : decode cX5_standFor 1 = .ok (.aload_n 1, 1) := by decide +kernel
theorem dX5_standFor_2 : decode cX5_standFor 2 = .ok (.getfield 25, 3) := by decide +kernel
theorem dX5_standFor_5 : decode cX5_standFor 5 = .ok (.putfield 25, 3) := by decide +kernel
theorem dX5_standFor_8 : decode cX5_standFor 8 = .ok (.aload_n 0, 1) := by decide +kernel
theorem dX5_standFor_9 : decode cX5_standFor 9 = .ok (.aload_n 1, 1) := by decide +kernel
theorem dX5_standFor_10 : decode cX5_standFor 10 = .ok (.getfield 29, 3) := by decide +kernel
theorem dX5_standFor_13 : decode cX5_standFor 13 = .ok (.putfield 29, 3) := by decide +kernel
theorem dX5_standFor_16 : decode cX5_standFor 16 = .ok (.aload_n 0, 1) := by decide +kernel
theorem dX5_standFor_17 : decode cX5_standFor 17 = .ok (.iconst 0, 1) := by decide +kernel
theorem dX5_standFor_18 : decode cX5_standFor 18 = .ok (.putfield 47, 3) := by decide +kernel
theorem dX5_standFor_21 : decode cX5_standFor 21 = .ok (.return_, 1) := by decide +kernel
theorem dX5_freshen_0 : decode cX5_freshen 0 = .ok (.aload_n 0, 1) := by decide +kernel
theorem dX5_freshen_1 : decode cX5_freshen 1 = .ok (.getfield 47, 3) := by decide +kernel
theorem dX5_freshen_4 : decode cX5_freshen 4 = .ok (.ifCond .eq 4, 3) := by decide +kernel
theorem dX5_freshen_7 : decode cX5_freshen 7 = .ok (.return_, 1) := by decide +kernel
theorem dX5_freshen_8 : decode cX5_freshen 8 = .ok (.aload_n 0, 1) := by decide +kernel
theorem dX5_freshen_9 : decode cX5_freshen 9 = .ok (.iconst 0, 1) := by decide +kernel
theorem dX5_freshen_10 : decode cX5_freshen 10 = .ok (.putfield 51, 3) := by decide +kernel
theorem dX5_freshen_13 : decode cX5_freshen 13 = .ok (.iconst 1, 1) := by decide +kernel
theorem dX5_freshen_14 : decode cX5_freshen 14 = .ok (.aload_n 1, 1) := by decide +kernel
theorem dX5_freshen_15 : decode cX5_freshen 15 = .ok (.getfield 54, 3) := by decide +kernel
theorem dX5_freshen_18 : decode cX5_freshen 18 = .ok (.getfield 60, 3) := by decide +kernel
theorem dX5_freshen_21 : decode cX5_freshen 21 = .ok (.ishl, 1) := by decide +kernel
theorem dX5_freshen_22 : decode cX5_freshen 22 = .ok (.istore_n 2, 1) := by decide +kernel
theorem dX5_freshen_23 : decode cX5_freshen 23 = .ok (.iconst 0, 1) := by decide +kernel
theorem dX5_freshen_24 : decode cX5_freshen 24 = .ok (.istore_n 3, 1) := by decide +kernel
theorem dX5_freshen_25 : decode cX5_freshen 25 = .ok (.iload_n 3, 1) := by decide +kernel
theorem dX5_freshen_26 : decode cX5_freshen 26 = .ok (.iload_n 2, 1) := by decide +kernel
theorem dX5_freshen_27 : decode cX5_freshen 27 = .ok (.if_icmp .ge 89, 3) := by decide +kernel
theorem dX5_freshen_30 : decode cX5_freshen 30 = .ok (.iload_n 3, 1) := by decide +kernel
theorem dX5_freshen_31 : decode cX5_freshen 31 = .ok (.sipush 1024, 3) := by decide +kernel
theorem dX5_freshen_34 : decode cX5_freshen 34 = .ok (.if_icmp .ge 82, 3) := by decide +kernel
theorem dX5_freshen_37 : decode cX5_freshen 37 = .ok (.aload_n 1, 1) := by decide +kernel
theorem dX5_freshen_38 : decode cX5_freshen 38 = .ok (.aload_n 0, 1) := by decide +kernel
theorem dX5_freshen_39 : decode cX5_freshen 39 = .ok (.iload_n 3, 1) := by decide +kernel
theorem dX5_freshen_40 : decode cX5_freshen 40 = .ok (.invokevirtual 65, 3) := by decide +kernel
theorem dX5_freshen_43 : decode cX5_freshen 43 = .ok (.aload_n 0, 1) := by decide +kernel
theorem dX5_freshen_44 : decode cX5_freshen 44 = .ok (.getfield 15, 3) := by decide +kernel
theorem dX5_freshen_47 : decode cX5_freshen 47 = .ok (.iload_n 3, 1) := by decide +kernel
theorem dX5_freshen_48 : decode cX5_freshen 48 = .ok (.aload_n 1, 1) := by decide +kernel
theorem dX5_freshen_49 : decode cX5_freshen 49 = .ok (.getfield 69, 3) := by decide +kernel
theorem dX5_freshen_52 : decode cX5_freshen 52 = .ok (.iastore, 1) := by decide +kernel
theorem dX5_freshen_53 : decode cX5_freshen 53 = .ok (.aload_n 0, 1) := by decide +kernel
theorem dX5_freshen_54 : decode cX5_freshen 54 = .ok (.getfield 18, 3) := by decide +kernel
theorem dX5_freshen_57 : decode cX5_freshen 57 = .ok (.iload_n 3, 1) := by decide +kernel
theorem dX5_freshen_58 : decode cX5_freshen 58 = .ok (.aload_n 1, 1) := by decide +kernel
theorem dX5_freshen_59 : decode cX5_freshen 59 = .ok (.getfield 72, 3) := by decide +kernel
theorem dX5_freshen_62 : decode cX5_freshen 62 = .ok (.ifCond .ne 7, 3) := by decide +kernel
theorem dX5_freshen_65 : decode cX5_freshen 65 = .ok (.iconst 1, 1) := by decide +kernel
theorem dX5_freshen_66 : decode cX5_freshen 66 = .ok (.goto 4, 3) := by decide +kernel
theorem dX5_freshen_69 : decode cX5_freshen 69 = .ok (.iconst 0, 1) := by decide +kernel
theorem dX5_freshen_70 : decode cX5_freshen 70 = .ok (.bastore, 1) := by decide +kernel
theorem dX5_freshen_71 : decode cX5_freshen 71 = .ok (.aload_n 1, 1) := by decide +kernel
theorem dX5_freshen_72 : decode cX5_freshen 72 = .ok (.getfield 72, 3) := by decide +kernel
theorem dX5_freshen_75 : decode cX5_freshen 75 = .ok (.ifCond .ne 35, 3) := by decide +kernel
theorem dX5_freshen_78 : decode cX5_freshen 78 = .ok (.aload_n 0, 1) := by decide +kernel
theorem dX5_freshen_79 : decode cX5_freshen 79 = .ok (.getfield 22, 3) := by decide +kernel
theorem dX5_freshen_82 : decode cX5_freshen 82 = .ok (.aload_n 0, 1) := by decide +kernel
theorem dX5_freshen_83 : decode cX5_freshen 83 = .ok (.getfield 51, 3) := by decide +kernel
theorem dX5_freshen_86 : decode cX5_freshen 86 = .ok (.ldc 75, 2) := by decide +kernel
theorem dX5_freshen_88 : decode cX5_freshen 88 = .ok (.aload_n 1, 1) := by decide +kernel
theorem dX5_freshen_89 : decode cX5_freshen 89 = .ok (.getfield 69, 3) := by decide +kernel
theorem dX5_freshen_92 : decode cX5_freshen 92 = .ok (.isub, 1) := by decide +kernel
theorem dX5_freshen_93 : decode cX5_freshen 93 = .ok (.sipush 1024, 3) := by decide +kernel
theorem dX5_freshen_96 : decode cX5_freshen 96 = .ok (.imul, 1) := by decide +kernel
theorem dX5_freshen_97 : decode cX5_freshen 97 = .ok (.iload_n 3, 1) := by decide +kernel
theorem dX5_freshen_98 : decode cX5_freshen 98 = .ok (.iadd, 1) := by decide +kernel
theorem dX5_freshen_99 : decode cX5_freshen 99 = .ok (.iastore, 1) := by decide +kernel
theorem dX5_freshen_100 : decode cX5_freshen 100 = .ok (.aload_n 0, 1) := by decide +kernel
theorem dX5_freshen_101 : decode cX5_freshen 101 = .ok (.dup, 1) := by decide +kernel
theorem dX5_freshen_102 : decode cX5_freshen 102 = .ok (.getfield 51, 3) := by decide +kernel
theorem dX5_freshen_105 : decode cX5_freshen 105 = .ok (.iconst 1, 1) := by decide +kernel
theorem dX5_freshen_106 : decode cX5_freshen 106 = .ok (.iadd, 1) := by decide +kernel
theorem dX5_freshen_107 : decode cX5_freshen 107 = .ok (.putfield 51, 3) := by decide +kernel
theorem dX5_freshen_110 : decode cX5_freshen 110 = .ok (.iinc 3 1, 3) := by decide +kernel
theorem dX5_freshen_113 : decode cX5_freshen 113 = .ok (.goto (-88), 3) := by decide +kernel
theorem dX5_freshen_116 : decode cX5_freshen 116 = .ok (.aload_n 0, 1) := by decide +kernel
theorem dX5_freshen_117 : decode cX5_freshen 117 = .ok (.invokevirtual 76, 3) := by decide +kernel
theorem dX5_freshen_120 : decode cX5_freshen 120 = .ok (.aload_n 0, 1) := by decide +kernel
theorem dX5_freshen_121 : decode cX5_freshen 121 = .ok (.iconst 1, 1) := by decide +kernel
theorem dX5_freshen_122 : decode cX5_freshen 122 = .ok (.putfield 47, 3) := by decide +kernel
theorem dX5_freshen_125 : decode cX5_freshen 125 = .ok (.return_, 1) := by decide +kernel
theorem dX5_sortRanked_0 : decode cX5_sortRanked 0 = .ok (.iconst 0, 1) := by decide +kernel
theorem dX5_sortRanked_1 : decode cX5_sortRanked 1 = .ok (.istore_n 1, 1) := by decide +kernel
theorem dX5_sortRanked_2 : decode cX5_sortRanked 2 = .ok (.iload_n 1, 1) := by decide +kernel
theorem dX5_sortRanked_3 : decode cX5_sortRanked 3 = .ok (.getstatic 79, 3) := by decide +kernel
theorem dX5_sortRanked_6 : decode cX5_sortRanked 6 = .ok (.arraylength, 1) := by decide +kernel
theorem dX5_sortRanked_7 : decode cX5_sortRanked 7 = .ok (.if_icmp .ge 96, 3) := by decide +kernel
theorem dX5_sortRanked_10 : decode cX5_sortRanked 10 = .ok (.getstatic 79, 3) := by decide +kernel
theorem dX5_sortRanked_13 : decode cX5_sortRanked 13 = .ok (.iload_n 1, 1) := by decide +kernel
theorem dX5_sortRanked_14 : decode cX5_sortRanked 14 = .ok (.iaload, 1) := by decide +kernel
theorem dX5_sortRanked_15 : decode cX5_sortRanked 15 = .ok (.istore_n 2, 1) := by decide +kernel
theorem dX5_sortRanked_16 : decode cX5_sortRanked 16 = .ok (.iload_n 2, 1) := by decide +kernel
theorem dX5_sortRanked_17 : decode cX5_sortRanked 17 = .ok (.istore_n 3, 1) := by decide +kernel
theorem dX5_sortRanked_18 : decode cX5_sortRanked 18 = .ok (.iload_n 3, 1) := by decide +kernel
theorem dX5_sortRanked_19 : decode cX5_sortRanked 19 = .ok (.aload_n 0, 1) := by decide +kernel
theorem dX5_sortRanked_20 : decode cX5_sortRanked 20 = .ok (.getfield 51, 3) := by decide +kernel
theorem dX5_sortRanked_23 : decode cX5_sortRanked 23 = .ok (.if_icmp .ge 74, 3) := by decide +kernel
theorem dX5_sortRanked_26 : decode cX5_sortRanked 26 = .ok (.aload_n 0, 1) := by decide +kernel
theorem dX5_sortRanked_27 : decode cX5_sortRanked 27 = .ok (.getfield 22, 3) := by decide +kernel
theorem dX5_sortRanked_30 : decode cX5_sortRanked 30 = .ok (.iload_n 3, 1) := by decide +kernel
theorem dX5_sortRanked_31 : decode cX5_sortRanked 31 = .ok (.iaload, 1) := by decide +kernel
theorem dX5_sortRanked_32 : decode cX5_sortRanked 32 = .ok (.istore 4, 2) := by decide +kernel
theorem dX5_sortRanked_34 : decode cX5_sortRanked 34 = .ok (.iload_n 3, 1) := by decide +kernel
theorem dX5_sortRanked_35 : decode cX5_sortRanked 35 = .ok (.istore 5, 2) := by decide +kernel
theorem dX5_sortRanked_37 : decode cX5_sortRanked 37 = .ok (.iload 5, 2) := by decide +kernel
theorem dX5_sortRanked_39 : decode cX5_sortRanked 39 = .ok (.iload_n 2, 1) := by decide +kernel
theorem dX5_sortRanked_40 : decode cX5_sortRanked 40 = .ok (.if_icmp .lt 42, 3) := by decide +kernel
theorem dX5_sortRanked_43 : decode cX5_sortRanked 43 = .ok (.aload_n 0, 1) := by decide +kernel
theorem dX5_sortRanked_44 : decode cX5_sortRanked 44 = .ok (.getfield 22, 3) := by decide +kernel
theorem dX5_sortRanked_47 : decode cX5_sortRanked 47 = .ok (.iload 5, 2) := by decide +kernel
theorem dX5_sortRanked_49 : decode cX5_sortRanked 49 = .ok (.iload_n 2, 1) := by decide +kernel
theorem dX5_sortRanked_50 : decode cX5_sortRanked 50 = .ok (.isub, 1) := by decide +kernel
theorem dX5_sortRanked_51 : decode cX5_sortRanked 51 = .ok (.iaload, 1) := by decide +kernel
theorem dX5_sortRanked_52 : decode cX5_sortRanked 52 = .ok (.iload 4, 2) := by decide +kernel
theorem dX5_sortRanked_54 : decode cX5_sortRanked 54 = .ok (.if_icmp .le 28, 3) := by decide +kernel
theorem dX5_sortRanked_57 : decode cX5_sortRanked 57 = .ok (.aload_n 0, 1) := by decide +kernel
theorem dX5_sortRanked_58 : decode cX5_sortRanked 58 = .ok (.getfield 22, 3) := by decide +kernel
theorem dX5_sortRanked_61 : decode cX5_sortRanked 61 = .ok (.iload 5, 2) := by decide +kernel
theorem dX5_sortRanked_63 : decode cX5_sortRanked 63 = .ok (.aload_n 0, 1) := by decide +kernel
theorem dX5_sortRanked_64 : decode cX5_sortRanked 64 = .ok (.getfield 22, 3) := by decide +kernel
theorem dX5_sortRanked_67 : decode cX5_sortRanked 67 = .ok (.iload 5, 2) := by decide +kernel
theorem dX5_sortRanked_69 : decode cX5_sortRanked 69 = .ok (.iload_n 2, 1) := by decide +kernel
theorem dX5_sortRanked_70 : decode cX5_sortRanked 70 = .ok (.isub, 1) := by decide +kernel
theorem dX5_sortRanked_71 : decode cX5_sortRanked 71 = .ok (.iaload, 1) := by decide +kernel
theorem dX5_sortRanked_72 : decode cX5_sortRanked 72 = .ok (.iastore, 1) := by decide +kernel
theorem dX5_sortRanked_73 : decode cX5_sortRanked 73 = .ok (.iload 5, 2) := by decide +kernel
theorem dX5_sortRanked_75 : decode cX5_sortRanked 75 = .ok (.iload_n 2, 1) := by decide +kernel
theorem dX5_sortRanked_76 : decode cX5_sortRanked 76 = .ok (.isub, 1) := by decide +kernel
theorem dX5_sortRanked_77 : decode cX5_sortRanked 77 = .ok (.istore 5, 2) := by decide +kernel
theorem dX5_sortRanked_79 : decode cX5_sortRanked 79 = .ok (.goto (-42), 3) := by decide +kernel
theorem dX5_sortRanked_82 : decode cX5_sortRanked 82 = .ok (.aload_n 0, 1) := by decide +kernel
theorem dX5_sortRanked_83 : decode cX5_sortRanked 83 = .ok (.getfield 22, 3) := by decide +kernel
theorem dX5_sortRanked_86 : decode cX5_sortRanked 86 = .ok (.iload 5, 2) := by decide +kernel
theorem dX5_sortRanked_88 : decode cX5_sortRanked 88 = .ok (.iload 4, 2) := by decide +kernel
theorem dX5_sortRanked_90 : decode cX5_sortRanked 90 = .ok (.iastore, 1) := by decide +kernel
theorem dX5_sortRanked_91 : decode cX5_sortRanked 91 = .ok (.iinc 3 1, 3) := by decide +kernel
theorem dX5_sortRanked_94 : decode cX5_sortRanked 94 = .ok (.goto (-76), 3) := by decide +kernel
theorem dX5_sortRanked_97 : decode cX5_sortRanked 97 = .ok (.iinc 1 1, 3) := by decide +kernel
theorem dX5_sortRanked_100 : decode cX5_sortRanked 100 = .ok (.goto (-98), 3) := by decide +kernel
theorem dX5_sortRanked_103 : decode cX5_sortRanked 103 = .ok (.return_, 1) := by decide +kernel
theorem dX5_bundleAt_0 : decode cX5_bundleAt 0 = .ok (.iload_n 1, 1) := by decide +kernel
theorem dX5_bundleAt_1 : decode cX5_bundleAt 1 = .ok (.ifCond .lt 11, 3) := by decide +kernel
theorem dX5_bundleAt_4 : decode cX5_bundleAt 4 = .ok (.iload_n 1, 1) := by decide +kernel
theorem dX5_bundleAt_5 : decode cX5_bundleAt 5 = .ok (.aload_n 0, 1) := by decide +kernel
theorem dX5_bundleAt_6 : decode cX5_bundleAt 6 = .ok (.getfield 51, 3) := by decide +kernel
theorem dX5_bundleAt_9 : decode cX5_bundleAt 9 = .ok (.if_icmp .lt 7, 3) := by decide +kernel
theorem dX5_bundleAt_12 : decode cX5_bundleAt 12 = .ok (.iconst 0, 1) := by decide +kernel
theorem dX5_bundleAt_13 : decode cX5_bundleAt 13 = .ok (.goto 13, 3) := by decide +kernel
theorem dX5_bundleAt_16 : decode cX5_bundleAt 16 = .ok (.aload_n 0, 1) := by decide +kernel
theorem dX5_bundleAt_17 : decode cX5_bundleAt 17 = .ok (.getfield 22, 3) := by decide +kernel
theorem dX5_bundleAt_20 : decode cX5_bundleAt 20 = .ok (.iload_n 1, 1) := by decide +kernel
theorem dX5_bundleAt_21 : decode cX5_bundleAt 21 = .ok (.iaload, 1) := by decide +kernel
theorem dX5_bundleAt_22 : decode cX5_bundleAt 22 = .ok (.sipush 1023, 3) := by decide +kernel
theorem dX5_bundleAt_25 : decode cX5_bundleAt 25 = .ok (.iand, 1) := by decide +kernel
theorem dX5_bundleAt_26 : decode cX5_bundleAt 26 = .ok (.ireturn, 1) := by decide +kernel
theorem dX5_worthAt_0 : decode cX5_worthAt 0 = .ok (.iload_n 1, 1) := by decide +kernel
theorem dX5_worthAt_1 : decode cX5_worthAt 1 = .ok (.ifCond .lt 11, 3) := by decide +kernel
theorem dX5_worthAt_4 : decode cX5_worthAt 4 = .ok (.iload_n 1, 1) := by decide +kernel
theorem dX5_worthAt_5 : decode cX5_worthAt 5 = .ok (.aload_n 0, 1) := by decide +kernel
theorem dX5_worthAt_6 : decode cX5_worthAt 6 = .ok (.getfield 51, 3) := by decide +kernel
theorem dX5_worthAt_9 : decode cX5_worthAt 9 = .ok (.if_icmp .lt 7, 3) := by decide +kernel
theorem dX5_worthAt_12 : decode cX5_worthAt 12 = .ok (.iconst 0, 1) := by decide +kernel
theorem dX5_worthAt_13 : decode cX5_worthAt 13 = .ok (.goto 16, 3) := by decide +kernel
theorem dX5_worthAt_16 : decode cX5_worthAt 16 = .ok (.ldc 75, 2) := by decide +kernel
theorem dX5_worthAt_18 : decode cX5_worthAt 18 = .ok (.aload_n 0, 1) := by decide +kernel
theorem dX5_worthAt_19 : decode cX5_worthAt 19 = .ok (.getfield 22, 3) := by decide +kernel
theorem dX5_worthAt_22 : decode cX5_worthAt 22 = .ok (.iload_n 1, 1) := by decide +kernel
theorem dX5_worthAt_23 : decode cX5_worthAt 23 = .ok (.iaload, 1) := by decide +kernel
theorem dX5_worthAt_24 : decode cX5_worthAt 24 = .ok (.sipush 1024, 3) := by decide +kernel
theorem dX5_worthAt_27 : decode cX5_worthAt 27 = .ok (.idiv, 1) := by decide +kernel
theorem dX5_worthAt_28 : decode cX5_worthAt 28 = .ok (.isub, 1) := by decide +kernel
theorem dX5_worthAt_29 : decode cX5_worthAt 29 = .ok (.ireturn, 1) := by decide +kernel
theorem dX5_rankWithin_0 : decode cX5_rankWithin 0 = .ok (.iconst 0, 1) := by decide +kernel
theorem dX5_rankWithin_1 : decode cX5_rankWithin 1 = .ok (.istore_n 2, 1) := by decide +kernel
theorem dX5_rankWithin_2 : decode cX5_rankWithin 2 = .ok (.iload_n 2, 1) := by decide +kernel
theorem dX5_rankWithin_3 : decode cX5_rankWithin 3 = .ok (.aload_n 0, 1) := by decide +kernel
theorem dX5_rankWithin_4 : decode cX5_rankWithin 4 = .ok (.getfield 51, 3) := by decide +kernel
theorem dX5_rankWithin_7 : decode cX5_rankWithin 7 = .ok (.if_icmp .ge 28, 3) := by decide +kernel
theorem dX5_rankWithin_10 : decode cX5_rankWithin 10 = .ok (.aload_n 0, 1) := by decide +kernel
theorem dX5_rankWithin_11 : decode cX5_rankWithin 11 = .ok (.getfield 22, 3) := by decide +kernel
theorem dX5_rankWithin_14 : decode cX5_rankWithin 14 = .ok (.iload_n 2, 1) := by decide +kernel
theorem dX5_rankWithin_15 : decode cX5_rankWithin 15 = .ok (.iaload, 1) := by decide +kernel
theorem dX5_rankWithin_16 : decode cX5_rankWithin 16 = .ok (.sipush 1023, 3) := by decide +kernel
theorem dX5_rankWithin_19 : decode cX5_rankWithin 19 = .ok (.iand, 1) := by decide +kernel
theorem dX5_rankWithin_20 : decode cX5_rankWithin 20 = .ok (.iload_n 1, 1) := by decide +kernel
theorem dX5_rankWithin_21 : decode cX5_rankWithin 21 = .ok (.iconst (-1), 1) := by decide +kernel
theorem dX5_rankWithin_22 : decode cX5_rankWithin 22 = .ok (.ixor, 1) := by decide +kernel
theorem dX5_rankWithin_23 : decode cX5_rankWithin 23 = .ok (.iand, 1) := by decide +kernel
theorem dX5_rankWithin_24 : decode cX5_rankWithin 24 = .ok (.ifCond .ne 5, 3) := by decide +kernel
theorem dX5_rankWithin_27 : decode cX5_rankWithin 27 = .ok (.iload_n 2, 1) := by decide +kernel
theorem dX5_rankWithin_28 : decode cX5_rankWithin 28 = .ok (.ireturn, 1) := by decide +kernel
theorem dX5_rankWithin_29 : decode cX5_rankWithin 29 = .ok (.iinc 2 1, 3) := by decide +kernel
theorem dX5_rankWithin_32 : decode cX5_rankWithin 32 = .ok (.goto (-30), 3) := by decide +kernel
theorem dX5_rankWithin_35 : decode cX5_rankWithin 35 = .ok (.iconst (-1), 1) := by decide +kernel
theorem dX5_rankWithin_36 : decode cX5_rankWithin 36 = .ok (.ireturn, 1) := by decide +kernel
theorem dX5_hasLawfulWith_0 : decode cX5_hasLawfulWith 0 = .ok (.iconst 0, 1) := by decide +kernel
theorem dX5_hasLawfulWith_1 : decode cX5_hasLawfulWith 1 = .ok (.istore_n 2, 1) := by decide +kernel
theorem dX5_hasLawfulWith_2 : decode cX5_hasLawfulWith 2 = .ok (.iload_n 2, 1) := by decide +kernel
theorem dX5_hasLawfulWith_3 : decode cX5_hasLawfulWith 3 = .ok (.aload_n 0, 1) := by decide +kernel
theorem dX5_hasLawfulWith_4 : decode cX5_hasLawfulWith 4 = .ok (.getfield 51, 3) := by decide +kernel
theorem dX5_hasLawfulWith_7 : decode cX5_hasLawfulWith 7 = .ok (.if_icmp .ge 23, 3) := by decide +kernel
theorem dX5_hasLawfulWith_10 : decode cX5_hasLawfulWith 10 = .ok (.aload_n 0, 1) := by decide +kernel
theorem dX5_hasLawfulWith_11 : decode cX5_hasLawfulWith 11 = .ok (.getfield 22, 3) := by decide +kernel
theorem dX5_hasLawfulWith_14 : decode cX5_hasLawfulWith 14 = .ok (.iload_n 2, 1) := by decide +kernel
theorem dX5_hasLawfulWith_15 : decode cX5_hasLawfulWith 15 = .ok (.iaload, 1) := by decide +kernel
theorem dX5_hasLawfulWith_16 : decode cX5_hasLawfulWith 16 = .ok (.iload_n 1, 1) := by decide +kernel
theorem dX5_hasLawfulWith_17 : decode cX5_hasLawfulWith 17 = .ok (.iand, 1) := by decide +kernel
theorem dX5_hasLawfulWith_18 : decode cX5_hasLawfulWith 18 = .ok (.iload_n 1, 1) := by decide +kernel
theorem dX5_hasLawfulWith_19 : decode cX5_hasLawfulWith 19 = .ok (.if_icmp .ne 5, 3) := by decide +kernel
theorem dX5_hasLawfulWith_22 : decode cX5_hasLawfulWith 22 = .ok (.iconst 1, 1) := by decide +kernel
theorem dX5_hasLawfulWith_23 : decode cX5_hasLawfulWith 23 = .ok (.ireturn, 1) := by decide +kernel
theorem dX5_hasLawfulWith_24 : decode cX5_hasLawfulWith 24 = .ok (.iinc 2 1, 3) := by decide +kernel
theorem dX5_hasLawfulWith_27 : decode cX5_hasLawfulWith 27 = .ok (.goto (-25), 3) := by decide +kernel
theorem dX5_hasLawfulWith_30 : decode cX5_hasLawfulWith 30 = .ok (.iconst 0, 1) := by decide +kernel
theorem dX5_hasLawfulWith_31 : decode cX5_hasLawfulWith 31 = .ok (.ireturn, 1) := by decide +kernel
theorem dX5_betterThan_0 : decode cX5_betterThan 0 = .ok (.iconst 0, 1) := by decide +kernel
theorem dX5_betterThan_1 : decode cX5_betterThan 1 = .ok (.istore_n 2, 1) := by decide +kernel
theorem dX5_betterThan_2 : decode cX5_betterThan 2 = .ok (.iload_n 2, 1) := by decide +kernel
theorem dX5_betterThan_3 : decode cX5_betterThan 3 = .ok (.aload_n 0, 1) := by decide +kernel
theorem dX5_betterThan_4 : decode cX5_betterThan 4 = .ok (.getfield 51, 3) := by decide +kernel
theorem dX5_betterThan_7 : decode cX5_betterThan 7 = .ok (.if_icmp .ge 20, 3) := by decide +kernel
theorem dX5_betterThan_10 : decode cX5_betterThan 10 = .ok (.aload_n 0, 1) := by decide +kernel
theorem dX5_betterThan_11 : decode cX5_betterThan 11 = .ok (.iload_n 2, 1) := by decide +kernel
theorem dX5_betterThan_12 : decode cX5_betterThan 12 = .ok (.invokevirtual 82, 3) := by decide +kernel
theorem dX5_betterThan_15 : decode cX5_betterThan 15 = .ok (.iload_n 1, 1) := by decide +kernel
theorem dX5_betterThan_16 : decode cX5_betterThan 16 = .ok (.if_icmp .gt 5, 3) := by decide +kernel
theorem dX5_betterThan_19 : decode cX5_betterThan 19 = .ok (.iload_n 2, 1) := by decide +kernel
theorem dX5_betterThan_20 : decode cX5_betterThan 20 = .ok (.ireturn, 1) := by decide +kernel
theorem dX5_betterThan_21 : decode cX5_betterThan 21 = .ok (.iinc 2 1, 3) := by decide +kernel
theorem dX5_betterThan_24 : decode cX5_betterThan 24 = .ok (.goto (-22), 3) := by decide +kernel
theorem dX5_betterThan_27 : decode cX5_betterThan 27 = .ok (.aload_n 0, 1) := by decide +kernel
theorem dX5_betterThan_28 : decode cX5_betterThan 28 = .ok (.getfield 51, 3) := by decide +kernel
theorem dX5_betterThan_31 : decode cX5_betterThan 31 = .ok (.ireturn, 1) := by decide +kernel
theorem dX6_init_0 : decode cX6_init 0 = .ok (.aload_n 0, 1) := by decide +kernel
theorem dX6_init_1 : decode cX6_init 1 = .ok (.invokespecial 3, 3) := by decide +kernel
theorem dX6_init_4 : decode cX6_init 4 = .ok (.aload_n 0, 1) := by decide +kernel
theorem dX6_init_5 : decode cX6_init 5 = .ok (.iconst 4, 1) := by decide +kernel
theorem dX6_init_6 : decode cX6_init 6 = .ok (.putfield 9, 3) := by decide +kernel
theorem dX6_init_9 : decode cX6_init 9 = .ok (.aload_n 0, 1) := by decide +kernel
theorem dX6_init_10 : decode cX6_init 10 = .ok (.bipush 10, 2) := by decide +kernel
theorem dX6_init_12 : decode cX6_init 12 = .ok (.newarray .int, 2) := by decide +kernel
theorem dX6_init_14 : decode cX6_init 14 = .ok (.putfield 15, 3) := by decide +kernel
theorem dX6_init_17 : decode cX6_init 17 = .ok (.aload_n 0, 1) := by decide +kernel
theorem dX6_init_18 : decode cX6_init 18 = .ok (.bipush 10, 2) := by decide +kernel
theorem dX6_init_20 : decode cX6_init 20 = .ok (.newarray .int, 2) := by decide +kernel
theorem dX6_init_22 : decode cX6_init 22 = .ok (.putfield 19, 3) := by decide +kernel
theorem dX6_init_25 : decode cX6_init 25 = .ok (.aload_n 0, 1) := by decide +kernel
theorem dX6_init_26 : decode cX6_init 26 = .ok (.bipush 10, 2) := by decide +kernel
theorem dX6_init_28 : decode cX6_init 28 = .ok (.newarray .int, 2) := by decide +kernel
theorem dX6_init_30 : decode cX6_init 30 = .ok (.putfield 22, 3) := by decide +kernel
theorem dX6_init_33 : decode cX6_init 33 = .ok (.aload_n 0, 1) := by decide +kernel
theorem dX6_init_34 : decode cX6_init 34 = .ok (.bipush 10, 2) := by decide +kernel
theorem dX6_init_36 : decode cX6_init 36 = .ok (.newarray .int, 2) := by decide +kernel
theorem dX6_init_38 : decode cX6_init 38 = .ok (.putfield 25, 3) := by decide +kernel
theorem dX6_init_41 : decode cX6_init 41 = .ok (.aload_n 0, 1) := by decide +kernel
theorem dX6_init_42 : decode cX6_init 42 = .ok (.bipush 10, 2) := by decide +kernel
theorem dX6_init_44 : decode cX6_init 44 = .ok (.newarray .int, 2) := by decide +kernel
theorem dX6_init_46 : decode cX6_init 46 = .ok (.putfield 28, 3) := by decide +kernel
theorem dX6_init_49 : decode cX6_init 49 = .ok (.return_, 1) := by decide +kernel
theorem dX6_isLesson_0 : decode cX6_isLesson 0 = .ok (.iload_n 1, 1) := by decide +kernel
theorem dX6_isLesson_1 : decode cX6_isLesson 1 = .ok (.ifCond .lt 15, 3) := by decide +kernel
theorem dX6_isLesson_4 : decode cX6_isLesson 4 = .ok (.iload_n 1, 1) := by decide +kernel
theorem dX6_isLesson_5 : decode cX6_isLesson 5 = .ok (.aload_n 0, 1) := by decide +kernel
theorem dX6_isLesson_6 : decode cX6_isLesson 6 = .ok (.getfield 31, 3) := by decide +kernel
theorem dX6_isLesson_9 : decode cX6_isLesson 9 = .ok (.if_icmp .ge 7, 3) := by decide +kernel
theorem dX6_isLesson_12 : decode cX6_isLesson 12 = .ok (.iconst 1, 1) := by decide +kernel
theorem dX6_isLesson_13 : decode cX6_isLesson 13 = .ok (.goto 4, 3) := by decide +kernel
theorem dX6_isLesson_16 : decode cX6_isLesson 16 = .ok (.iconst 0, 1) := by decide +kernel
theorem dX6_isLesson_17 : decode cX6_isLesson 17 = .ok (.ireturn, 1) := by decide +kernel
theorem dX6_addLesson_0 : decode cX6_addLesson 0 = .ok (.aload_n 0, 1) := by decide +kernel
theorem dX6_addLesson_1 : decode cX6_addLesson 1 = .ok (.getfield 31, 3) := by decide +kernel
theorem dX6_addLesson_4 : decode cX6_addLesson 4 = .ok (.bipush 10, 2) := by decide +kernel
theorem dX6_addLesson_6 : decode cX6_addLesson 6 = .ok (.if_icmp .ge 13, 3) := by decide +kernel
theorem dX6_addLesson_9 : decode cX6_addLesson 9 = .ok (.iload_n 1, 1) := by decide +kernel
theorem dX6_addLesson_10 : decode cX6_addLesson 10 = .ok (.ifCond .lt 9, 3) := by decide +kernel
theorem dX6_addLesson_13 : decode cX6_addLesson 13 = .ok (.iload_n 1, 1) := by decide +kernel
theorem dX6_addLesson_14 : decode cX6_addLesson 14 = .ok (.bipush 9, 2) := by decide +kernel
theorem dX6_addLesson_16 : decode cX6_addLesson 16 = .ok (.if_icmp .le 5, 3) := by decide +kernel
theorem dX6_addLesson_19 : decode cX6_addLesson 19 = .ok (.iconst (-1), 1) := by decide +kernel
theorem dX6_addLesson_20 : decode cX6_addLesson 20 = .ok (.ireturn, 1) := by decide +kernel
theorem dX6_addLesson_21 : decode cX6_addLesson 21 = .ok (.iload_n 2, 1) := by decide +kernel
theorem dX6_addLesson_22 : decode cX6_addLesson 22 = .ok (.ifCond .lt 20, 3) := by decide +kernel
theorem dX6_addLesson_25 : decode cX6_addLesson 25 = .ok (.iload_n 2, 1) := by decide +kernel
theorem dX6_addLesson_26 : decode cX6_addLesson 26 = .ok (.bipush 39, 2) := by decide +kernel
theorem dX6_addLesson_28 : decode cX6_addLesson 28 = .ok (.if_icmp .gt 14, 3) := by decide +kernel
theorem dX6_addLesson_31 : decode cX6_addLesson 31 = .ok (.iload_n 3, 1) := by decide +kernel
theorem dX6_addLesson_32 : decode cX6_addLesson 32 = .ok (.iload_n 2, 1) := by decide +kernel
theorem dX6_addLesson_33 : decode cX6_addLesson 33 = .ok (.if_icmp .le 9, 3) := by decide +kernel
theorem dX6_addLesson_36 : decode cX6_addLesson 36 = .ok (.iload_n 3, 1) := by decide +kernel
theorem dX6_addLesson_37 : decode cX6_addLesson 37 = .ok (.bipush 40, 2) := by decide +kernel
theorem dX6_addLesson_39 : decode cX6_addLesson 39 = .ok (.if_icmp .le 5, 3) := by decide +kernel
theorem dX6_addLesson_42 : decode cX6_addLesson 42 = .ok (.iconst (-1), 1) := by decide +kernel
theorem dX6_addLesson_43 : decode cX6_addLesson 43 = .ok (.ireturn, 1) := by decide +kernel
theorem dX6_addLesson_44 : decode cX6_addLesson 44 = .ok (.iconst 0, 1) := by decide +kernel
theorem dX6_addLesson_45 : decode cX6_addLesson 45 = .ok (.istore 4, 2) := by decide +kernel
theorem dX6_addLesson_47 : decode cX6_addLesson 47 = .ok (.iload 4, 2) := by decide +kernel
theorem dX6_addLesson_49 : decode cX6_addLesson 49 = .ok (.aload_n 0, 1) := by decide +kernel
theorem dX6_addLesson_50 : decode cX6_addLesson 50 = .ok (.getfield 31, 3) := by decide +kernel
theorem dX6_addLesson_53 : decode cX6_addLesson 53 = .ok (.if_icmp .ge 63, 3) := by decide +kernel
theorem dX6_addLesson_56 : decode cX6_addLesson 56 = .ok (.iload_n 2, 1) := by decide +kernel
theorem dX6_addLesson_57 : decode cX6_addLesson 57 = .ok (.aload_n 0, 1) := by decide +kernel
theorem dX6_addLesson_58 : decode cX6_addLesson 58 = .ok (.getfield 22, 3) := by decide +kernel
theorem dX6_addLesson_61 : decode cX6_addLesson 61 = .ok (.iload 4, 2) := by decide +kernel
theorem dX6_addLesson_63 : decode cX6_addLesson 63 = .ok (.iaload, 1) := by decide +kernel
theorem dX6_addLesson_64 : decode cX6_addLesson 64 = .ok (.if_icmp .ge 46, 3) := by decide +kernel
theorem dX6_addLesson_67 : decode cX6_addLesson 67 = .ok (.aload_n 0, 1) := by decide +kernel
theorem dX6_addLesson_68 : decode cX6_addLesson 68 = .ok (.getfield 19, 3) := by decide +kernel
theorem dX6_addLesson_71 : decode cX6_addLesson 71 = .ok (.iload 4, 2) := by decide +kernel
theorem dX6_addLesson_73 : decode cX6_addLesson 73 = .ok (.iaload, 1) := by decide +kernel
theorem dX6_addLesson_74 : decode cX6_addLesson 74 = .ok (.iload_n 3, 1) := by decide +kernel
theorem dX6_addLesson_75 : decode cX6_addLesson 75 = .ok (.if_icmp .ge 35, 3) := by decide +kernel
theorem dX6_addLesson_78 : decode cX6_addLesson 78 = .ok (.aload_n 0, 1) := by decide +kernel
theorem dX6_addLesson_79 : decode cX6_addLesson 79 = .ok (.getfield 25, 3) := by decide +kernel
theorem dX6_addLesson_82 : decode cX6_addLesson 82 = .ok (.iload 4, 2) := by decide +kernel
theorem dX6_addLesson_84 : decode cX6_addLesson 84 = .ok (.dup2, 1) := by decide +kernel
theorem dX6_addLesson_85 : decode cX6_addLesson 85 = .ok (.iaload, 1) := by decide +kernel
theorem dX6_addLesson_86 : decode cX6_addLesson 86 = .ok (.iconst 1, 1) := by decide +kernel
theorem dX6_addLesson_87 : decode cX6_addLesson 87 = .ok (.aload_n 0, 1) := by decide +kernel
theorem dX6_addLesson_88 : decode cX6_addLesson 88 = .ok (.getfield 31, 3) := by decide +kernel
theorem dX6_addLesson_91 : decode cX6_addLesson 91 = .ok (.ishl, 1) := by decide +kernel
theorem dX6_addLesson_92 : decode cX6_addLesson 92 = .ok (.ior, 1) := by decide +kernel
theorem dX6_addLesson_93 : decode cX6_addLesson 93 = .ok (.iastore, 1) := by decide +kernel
theorem dX6_addLesson_94 : decode cX6_addLesson 94 = .ok (.aload_n 0, 1) := by decide +kernel
theorem dX6_addLesson_95 : decode cX6_addLesson 95 = .ok (.getfield 25, 3) := by decide +kernel
theorem dX6_addLesson_98 : decode cX6_addLesson 98 = .ok (.aload_n 0, 1) := by decide +kernel
theorem dX6_addLesson_99 : decode cX6_addLesson 99 = .ok (.getfield 31, 3) := by decide +kernel
theorem dX6_addLesson_102 : decode cX6_addLesson 102 = .ok (.dup2, 1) := by decide +kernel
theorem dX6_addLesson_103 : decode cX6_addLesson 103 = .ok (.iaload, 1) := by decide +kernel
theorem dX6_addLesson_104 : decode cX6_addLesson 104 = .ok (.iconst 1, 1) := by decide +kernel
theorem dX6_addLesson_105 : decode cX6_addLesson 105 = .ok (.iload 4, 2) := by decide +kernel
theorem dX6_addLesson_107 : decode cX6_addLesson 107 = .ok (.ishl, 1) := by decide +kernel
theorem dX6_addLesson_108 : decode cX6_addLesson 108 = .ok (.ior, 1) := by decide +kernel
theorem dX6_addLesson_109 : decode cX6_addLesson 109 = .ok (.iastore, 1) := by decide +kernel
theorem dX6_addLesson_110 : decode cX6_addLesson 110 = .ok (.iinc 4 1, 3) := by decide +kernel
theorem dX6_addLesson_113 : decode cX6_addLesson 113 = .ok (.goto (-66), 3) := by decide +kernel
theorem dX6_addLesson_116 : decode cX6_addLesson 116 = .ok (.aload_n 0, 1) := by decide +kernel
theorem dX6_addLesson_117 : decode cX6_addLesson 117 = .ok (.getfield 15, 3) := by decide +kernel
theorem dX6_addLesson_120 : decode cX6_addLesson 120 = .ok (.aload_n 0, 1) := by decide +kernel
theorem dX6_addLesson_121 : decode cX6_addLesson 121 = .ok (.getfield 31, 3) := by decide +kernel
theorem dX6_addLesson_124 : decode cX6_addLesson 124 = .ok (.iload_n 1, 1) := by decide +kernel
theorem dX6_addLesson_125 : decode cX6_addLesson 125 = .ok (.iastore, 1) := by decide +kernel
theorem dX6_addLesson_126 : decode cX6_addLesson 126 = .ok (.aload_n 0, 1) := by decide +kernel
theorem dX6_addLesson_127 : decode cX6_addLesson 127 = .ok (.getfield 19, 3) := by decide +kernel
theorem dX6_addLesson_130 : decode cX6_addLesson 130 = .ok (.aload_n 0, 1) := by decide +kernel
theorem dX6_addLesson_131 : decode cX6_addLesson 131 = .ok (.getfield 31, 3) := by decide +kernel
theorem dX6_addLesson_134 : decode cX6_addLesson 134 = .ok (.iload_n 2, 1) := by decide +kernel
theorem dX6_addLesson_135 : decode cX6_addLesson 135 = .ok (.iastore, 1) := by decide +kernel
theorem dX6_addLesson_136 : decode cX6_addLesson 136 = .ok (.aload_n 0, 1) := by decide +kernel
theorem dX6_addLesson_137 : decode cX6_addLesson 137 = .ok (.getfield 22, 3) := by decide +kernel
theorem dX6_addLesson_140 : decode cX6_addLesson 140 = .ok (.aload_n 0, 1) := by decide +kernel
theorem dX6_addLesson_141 : decode cX6_addLesson 141 = .ok (.getfield 31, 3) := by decide +kernel
theorem dX6_addLesson_144 : decode cX6_addLesson 144 = .ok (.iload_n 3, 1) := by decide +kernel
theorem dX6_addLesson_145 : decode cX6_addLesson 145 = .ok (.iastore, 1) := by decide +kernel
theorem dX6_addLesson_146 : decode cX6_addLesson 146 = .ok (.aload_n 0, 1) := by decide +kernel
theorem dX6_addLesson_147 : decode cX6_addLesson 147 = .ok (.dup, 1) := by decide +kernel
theorem dX6_addLesson_148 : decode cX6_addLesson 148 = .ok (.getfield 31, 3) := by decide +kernel
theorem dX6_addLesson_151 : decode cX6_addLesson 151 = .ok (.iconst 1, 1) := by decide +kernel
theorem dX6_addLesson_152 : decode cX6_addLesson 152 = .ok (.iadd, 1) := by decide +kernel
theorem dX6_addLesson_153 : decode cX6_addLesson 153 = .ok (.putfield 31, 3) := by decide +kernel
theorem dX6_addLesson_156 : decode cX6_addLesson 156 = .ok (.aload_n 0, 1) := by decide +kernel
theorem dX6_addLesson_157 : decode cX6_addLesson 157 = .ok (.getfield 31, 3) := by decide +kernel
theorem dX6_addLesson_160 : decode cX6_addLesson 160 = .ok (.iconst 1, 1) := by decide +kernel
theorem dX6_addLesson_161 : decode cX6_addLesson 161 = .ok (.isub, 1) := by decide +kernel
theorem dX6_addLesson_162 : decode cX6_addLesson 162 = .ok (.ireturn, 1) := by decide +kernel
theorem dX6_addCouple_0 : decode cX6_addCouple 0 = .ok (.aload_n 0, 1) := by decide +kernel
theorem dX6_addCouple_1 : decode cX6_addCouple 1 = .ok (.iload_n 1, 1) := by decide +kernel
theorem dX6_addCouple_2 : decode cX6_addCouple 2 = .ok (.invokevirtual 34, 3) := by decide +kernel
theorem dX6_addCouple_5 : decode cX6_addCouple 5 = .ok (.ifCond .eq 16, 3) := by decide +kernel
theorem dX6_addCouple_8 : decode cX6_addCouple 8 = .ok (.aload_n 0, 1) := by decide +kernel
theorem dX6_addCouple_9 : decode cX6_addCouple 9 = .ok (.iload_n 2, 1) := by decide +kernel
theorem dX6_addCouple_10 : decode cX6_addCouple 10 = .ok (.invokevirtual 34, 3) := by decide +kernel
theorem dX6_addCouple_13 : decode cX6_addCouple 13 = .ok (.ifCond .eq 8, 3) := by decide +kernel
theorem dX6_addCouple_16 : decode cX6_addCouple 16 = .ok (.iload_n 1, 1) := by decide +kernel
theorem dX6_addCouple_17 : decode cX6_addCouple 17 = .ok (.iload_n 2, 1) := by decide +kernel
theorem dX6_addCouple_18 : decode cX6_addCouple 18 = .ok (.if_icmp .ne 5, 3) := by decide +kernel
theorem dX6_addCouple_21 : decode cX6_addCouple 21 = .ok (.iconst (-1), 1) := by decide +kernel
theorem dX6_addCouple_22 : decode cX6_addCouple 22 = .ok (.ireturn, 1) := by decide +kernel
theorem dX6_addCouple_23 : decode cX6_addCouple 23 = .ok (.aload_n 0, 1) := by decide +kernel
theorem dX6_addCouple_24 : decode cX6_addCouple 24 = .ok (.getfield 38, 3) := by decide +kernel
theorem dX6_addCouple_27 : decode cX6_addCouple 27 = .ok (.bipush 20, 2) := by decide +kernel
theorem dX6_addCouple_29 : decode cX6_addCouple 29 = .ok (.if_icmp .ge 16, 3) := by decide +kernel
theorem dX6_addCouple_32 : decode cX6_addCouple 32 = .ok (.aload_n 0, 1) := by decide +kernel
theorem dX6_addCouple_33 : decode cX6_addCouple 33 = .ok (.getfield 28, 3) := by decide +kernel
theorem dX6_addCouple_36 : decode cX6_addCouple 36 = .ok (.iload_n 1, 1) := by decide +kernel
theorem dX6_addCouple_37 : decode cX6_addCouple 37 = .ok (.iaload, 1) := by decide +kernel
theorem dX6_addCouple_38 : decode cX6_addCouple 38 = .ok (.iload_n 2, 1) := by decide +kernel
theorem dX6_addCouple_39 : decode cX6_addCouple 39 = .ok (.invokestatic 41, 3) := by decide +kernel
theorem dX6_addCouple_42 : decode cX6_addCouple 42 = .ok (.ifCond .eq 5, 3) := by decide +kernel
theorem dX6_addCouple_45 : decode cX6_addCouple 45 = .ok (.iconst (-1), 1) := by decide +kernel
theorem dX6_addCouple_46 : decode cX6_addCouple 46 = .ok (.ireturn, 1) := by decide +kernel
theorem dX6_addCouple_47 : decode cX6_addCouple 47 = .ok (.aload_n 0, 1) := by decide +kernel
theorem dX6_addCouple_48 : decode cX6_addCouple 48 = .ok (.getfield 28, 3) := by decide +kernel
theorem dX6_addCouple_51 : decode cX6_addCouple 51 = .ok (.iload_n 1, 1) := by decide +kernel
theorem dX6_addCouple_52 : decode cX6_addCouple 52 = .ok (.dup2, 1) := by decide +kernel
theorem dX6_addCouple_53 : decode cX6_addCouple 53 = .ok (.iaload, 1) := by decide +kernel
theorem dX6_addCouple_54 : decode cX6_addCouple 54 = .ok (.iconst 1, 1) := by decide +kernel
theorem dX6_addCouple_55 : decode cX6_addCouple 55 = .ok (.iload_n 2, 1) := by decide +kernel
theorem dX6_addCouple_56 : decode cX6_addCouple 56 = .ok (.ishl, 1) := by decide +kernel
theorem dX6_addCouple_57 : decode cX6_addCouple 57 = .ok (.ior, 1) := by decide +kernel
theorem dX6_addCouple_58 : decode cX6_addCouple 58 = .ok (.iastore, 1) := by decide +kernel
theorem dX6_addCouple_59 : decode cX6_addCouple 59 = .ok (.aload_n 0, 1) := by decide +kernel
theorem dX6_addCouple_60 : decode cX6_addCouple 60 = .ok (.dup, 1) := by decide +kernel
theorem dX6_addCouple_61 : decode cX6_addCouple 61 = .ok (.getfield 38, 3) := by decide +kernel
theorem dX6_addCouple_64 : decode cX6_addCouple 64 = .ok (.iconst 1, 1) := by decide +kernel
theorem dX6_addCouple_65 : decode cX6_addCouple 65 = .ok (.iadd, 1) := by decide +kernel
theorem dX6_addCouple_66 : decode cX6_addCouple 66 = .ok (.putfield 38, 3) := by decide +kernel
theorem dX6_addCouple_69 : decode cX6_addCouple 69 = .ok (.aload_n 0, 1) := by decide +kernel
theorem dX6_addCouple_70 : decode cX6_addCouple 70 = .ok (.getfield 38, 3) := by decide +kernel
theorem dX6_addCouple_73 : decode cX6_addCouple 73 = .ok (.ireturn, 1) := by decide +kernel
theorem dX6_barOf_0 : decode cX6_barOf 0 = .ok (.iload_n 1, 1) := by decide +kernel
theorem dX6_barOf_1 : decode cX6_barOf 1 = .ok (.aload_n 0, 1) := by decide +kernel
theorem dX6_barOf_2 : decode cX6_barOf 2 = .ok (.getfield 31, 3) := by decide +kernel
theorem dX6_barOf_5 : decode cX6_barOf 5 = .ok (.ishr, 1) := by decide +kernel
theorem dX6_barOf_6 : decode cX6_barOf 6 = .ok (.ifCond .eq 5, 3) := by decide +kernel
theorem dX6_barOf_9 : decode cX6_barOf 9 = .ok (.iconst 1, 1) := by decide +kernel
theorem dX6_barOf_10 : decode cX6_barOf 10 = .ok (.ireturn, 1) := by decide +kernel
theorem dX6_barOf_11 : decode cX6_barOf 11 = .ok (.iload_n 1, 1) := by decide +kernel
theorem dX6_barOf_12 : decode cX6_barOf 12 = .ok (.invokestatic 45, 3) := by decide +kernel
theorem dX6_barOf_15 : decode cX6_barOf 15 = .ok (.aload_n 0, 1) := by decide +kernel
theorem dX6_barOf_16 : decode cX6_barOf 16 = .ok (.getfield 9, 3) := by decide +kernel
theorem dX6_barOf_19 : decode cX6_barOf 19 = .ok (.if_icmp .le 5, 3) := by decide +kernel
theorem dX6_barOf_22 : decode cX6_barOf 22 = .ok (.iconst 2, 1) := by decide +kernel
theorem dX6_barOf_23 : decode cX6_barOf 23 = .ok (.ireturn, 1) := by decide +kernel
theorem dX6_barOf_24 : decode cX6_barOf 24 = .ok (.iconst 0, 1) := by decide +kernel
theorem dX6_barOf_25 : decode cX6_barOf 25 = .ok (.istore_n 3, 1) := by decide +kernel
theorem dX6_barOf_26 : decode cX6_barOf 26 = .ok (.iconst 0, 1) := by decide +kernel
theorem dX6_barOf_27 : decode cX6_barOf 27 = .ok (.istore 4, 2) := by decide +kernel
theorem dX6_barOf_29 : decode cX6_barOf 29 = .ok (.iload 4, 2) := by decide +kernel
theorem dX6_barOf_31 : decode cX6_barOf 31 = .ok (.aload_n 0, 1) := by decide +kernel
theorem dX6_barOf_32 : decode cX6_barOf 32 = .ok (.getfield 31, 3) := by decide +kernel
theorem dX6_barOf_35 : decode cX6_barOf 35 = .ok (.if_icmp .ge 50, 3) := by decide +kernel
theorem dX6_barOf_38 : decode cX6_barOf 38 = .ok (.iload_n 1, 1) := by decide +kernel
theorem dX6_barOf_39 : decode cX6_barOf 39 = .ok (.iload 4, 2) := by decide +kernel
theorem dX6_barOf_41 : decode cX6_barOf 41 = .ok (.invokestatic 41, 3) := by decide +kernel
theorem dX6_barOf_44 : decode cX6_barOf 44 = .ok (.ifCond .eq 35, 3) := by decide +kernel
theorem dX6_barOf_47 : decode cX6_barOf 47 = .ok (.aload_n 0, 1) := by decide +kernel
theorem dX6_barOf_48 : decode cX6_barOf 48 = .ok (.getfield 25, 3) := by decide +kernel
theorem dX6_barOf_51 : decode cX6_barOf 51 = .ok (.iload 4, 2) := by decide +kernel
theorem dX6_barOf_53 : decode cX6_barOf 53 = .ok (.iaload, 1) := by decide +kernel
theorem dX6_barOf_54 : decode cX6_barOf 54 = .ok (.iload_n 1, 1) := by decide +kernel
theorem dX6_barOf_55 : decode cX6_barOf 55 = .ok (.iand, 1) := by decide +kernel
theorem dX6_barOf_56 : decode cX6_barOf 56 = .ok (.ifCond .eq 5, 3) := by decide +kernel
theorem dX6_barOf_59 : decode cX6_barOf 59 = .ok (.iconst 3, 1) := by decide +kernel
theorem dX6_barOf_60 : decode cX6_barOf 60 = .ok (.ireturn, 1) := by decide +kernel
theorem dX6_barOf_61 : decode cX6_barOf 61 = .ok (.aload_n 0, 1) := by decide +kernel
theorem dX6_barOf_62 : decode cX6_barOf 62 = .ok (.getfield 28, 3) := by decide +kernel
theorem dX6_barOf_65 : decode cX6_barOf 65 = .ok (.iload 4, 2) := by decide +kernel
theorem dX6_barOf_67 : decode cX6_barOf 67 = .ok (.iaload, 1) := by decide +kernel
theorem dX6_barOf_68 : decode cX6_barOf 68 = .ok (.iload_n 1, 1) := by decide +kernel
theorem dX6_barOf_69 : decode cX6_barOf 69 = .ok (.iload_n 2, 1) := by decide +kernel
theorem dX6_barOf_70 : decode cX6_barOf 70 = .ok (.ior, 1) := by decide +kernel
theorem dX6_barOf_71 : decode cX6_barOf 71 = .ok (.iconst (-1), 1) := by decide +kernel
theorem dX6_barOf_72 : decode cX6_barOf 72 = .ok (.ixor, 1) := by decide +kernel
theorem dX6_barOf_73 : decode cX6_barOf 73 = .ok (.iand, 1) := by decide +kernel
theorem dX6_barOf_74 : decode cX6_barOf 74 = .ok (.ifCond .eq 5, 3) := by decide +kernel
theorem dX6_barOf_77 : decode cX6_barOf 77 = .ok (.iconst 1, 1) := by decide +kernel
theorem dX6_barOf_78 : decode cX6_barOf 78 = .ok (.istore_n 3, 1) := by decide +kernel
theorem dX6_barOf_79 : decode cX6_barOf 79 = .ok (.iinc 4 1, 3) := by decide +kernel
theorem dX6_barOf_82 : decode cX6_barOf 82 = .ok (.goto (-53), 3) := by decide +kernel
theorem dX6_barOf_85 : decode cX6_barOf 85 = .ok (.iload_n 3, 1) := by decide +kernel
theorem dX6_barOf_86 : decode cX6_barOf 86 = .ok (.ifCond .eq 7, 3) := by decide +kernel
theorem dX6_barOf_89 : decode cX6_barOf 89 = .ok (.iconst 4, 1) := by decide +kernel
theorem dX6_barOf_90 : decode cX6_barOf 90 = .ok (.goto 4, 3) := by decide +kernel
theorem dX6_barOf_93 : decode cX6_barOf 93 = .ok (.iconst 0, 1) := by decide +kernel
theorem dX6_barOf_94 : decode cX6_barOf 94 = .ok (.ireturn, 1) := by decide +kernel
theorem dX7_init_0 : decode cX7_init 0 = .ok (.aload_n 0, 1) := by decide +kernel
theorem dX7_init_1 : decode cX7_init 1 = .ok (.invokespecial 3, 3) := by decide +kernel
theorem dX7_init_4 : decode cX7_init 4 = .ok (.aload_n 0, 1) := by decide +kernel
theorem dX7_init_5 : decode cX7_init 5 = .ok (.sipush 400, 3) := by decide +kernel
theorem dX7_init_8 : decode cX7_init 8 = .ok (.newarray .int, 2) := by decide +kernel
theorem dX7_init_10 : decode cX7_init 10 = .ok (.putfield 9, 3) := by decide +kernel
theorem dX7_init_13 : decode cX7_init 13 = .ok (.aload_n 0, 1) := by decide +kernel
theorem dX7_init_14 : decode cX7_init 14 = .ok (.iconst (-1), 1) := by decide +kernel
theorem dX7_init_15 : decode cX7_init 15 = .ok (.putfield 15, 3) := by decide +kernel
theorem dX7_init_18 : decode cX7_init 18 = .ok (.aload_n 0, 1) := by decide +kernel
theorem dX7_init_19 : decode cX7_init 19 = .ok (.aload_n 1, 1) := by decide +kernel
theorem dX7_init_20 : decode cX7_init 20 = .ok (.putfield 19, 3) := by decide +kernel
theorem dX7_init_23 : decode cX7_init 23 = .ok (.return_, 1) := by decide +kernel
theorem dX7_read_0 : decode cX7_read 0 = .ok (.aload_n 0, 1) := by decide +kernel
theorem dX7_read_1 : decode cX7_read 1 = .ok (.getfield 19, 3) := by decide +kernel
theorem dX7_read_4 : decode cX7_read 4 = .ok (.iload_n 1, 1) := by decide +kernel
theorem dX7_read_5 : decode cX7_read 5 = .ok (.invokevirtual 23, 3) := by decide +kernel
theorem dX7_read_8 : decode cX7_read 8 = .ok (.aload_n 0, 1) := by decide +kernel
theorem dX7_read_9 : decode cX7_read 9 = .ok (.iconst 0, 1) := by decide +kernel
theorem dX7_read_10 : decode cX7_read 10 = .ok (.putfield 29, 3) := by decide +kernel
theorem dX7_read_13 : decode cX7_read 13 = .ok (.aload_n 0, 1) := by decide +kernel
theorem dX7_read_14 : decode cX7_read 14 = .ok (.iconst 0, 1) := by decide +kernel
theorem dX7_read_15 : decode cX7_read 15 = .ok (.putfield 32, 3) := by decide +kernel
theorem dX7_read_18 : decode cX7_read 18 = .ok (.iconst 0, 1) := by decide +kernel
theorem dX7_read_19 : decode cX7_read 19 = .ok (.istore_n 2, 1) := by decide +kernel
theorem dX7_read_20 : decode cX7_read 20 = .ok (.iload_n 2, 1) := by decide +kernel
theorem dX7_read_21 : decode cX7_read 21 = .ok (.bipush 16, 2) := by decide +kernel
theorem dX7_read_23 : decode cX7_read 23 = .ok (.if_icmp .ge 31, 3) := by decide +kernel
theorem dX7_read_26 : decode cX7_read 26 = .ok (.aload_n 0, 1) := by decide +kernel
theorem dX7_read_27 : decode cX7_read 27 = .ok (.invokevirtual 35, 3) := by decide +kernel
theorem dX7_read_30 : decode cX7_read 30 = .ok (.sipush 258, 3) := by decide +kernel
theorem dX7_read_33 : decode cX7_read 33 = .ok (.if_icmp .eq 21, 3) := by decide +kernel
theorem dX7_read_36 : decode cX7_read 36 = .ok (.aload_n 0, 1) := by decide +kernel
theorem dX7_read_37 : decode cX7_read 37 = .ok (.invokevirtual 39, 3) := by decide +kernel
theorem dX7_read_40 : decode cX7_read 40 = .ok (.ifCond .ne 8, 3) := by decide +kernel
theorem dX7_read_43 : decode cX7_read 43 = .ok (.aload_n 0, 1) := by decide +kernel
theorem dX7_read_44 : decode cX7_read 44 = .ok (.invokevirtual 43, 3) := by decide +kernel
theorem dX7_read_47 : decode cX7_read 47 = .ok (.ireturn, 1) := by decide +kernel
theorem dX7_read_48 : decode cX7_read 48 = .ok (.iinc 2 1, 3) := by decide +kernel
theorem dX7_read_51 : decode cX7_read 51 = .ok (.goto (-31), 3) := by decide +kernel
theorem dX7_read_54 : decode cX7_read 54 = .ok (.aload_n 0, 1) := by decide +kernel
theorem dX7_read_55 : decode cX7_read 55 = .ok (.invokevirtual 35, 3) := by decide +kernel
theorem dX7_read_58 : decode cX7_read 58 = .ok (.sipush 258, 3) := by decide +kernel
theorem dX7_read_61 : decode cX7_read 61 = .ok (.if_icmp .eq 8, 3) := by decide +kernel
theorem dX7_read_64 : decode cX7_read 64 = .ok (.aload_n 0, 1) := by decide +kernel
theorem dX7_read_65 : decode cX7_read 65 = .ok (.invokevirtual 43, 3) := by decide +kernel
theorem dX7_read_68 : decode cX7_read 68 = .ok (.ireturn, 1) := by decide +kernel
theorem dX7_read_69 : decode cX7_read 69 = .ok (.aload_n 0, 1) := by decide +kernel
theorem dX7_read_70 : decode cX7_read 70 = .ok (.iconst (-1), 1) := by decide +kernel
theorem dX7_read_71 : decode cX7_read 71 = .ok (.putfield 15, 3) := by decide +kernel
theorem dX7_read_74 : decode cX7_read 74 = .ok (.iload_n 2, 1) := by decide +kernel
theorem dX7_read_75 : decode cX7_read 75 = .ok (.ireturn, 1) := by decide +kernel
theorem dX7_failed_0 : decode cX7_failed 0 = .ok (.aload_n 0, 1) := by decide +kernel
theorem dX7_failed_1 : decode cX7_failed 1 = .ok (.aload_n 0, 1) := by decide +kernel
theorem dX7_failed_2 : decode cX7_failed 2 = .ok (.getfield 19, 3) := by decide +kernel
theorem dX7_failed_5 : decode cX7_failed 5 = .ok (.getfield 46, 3) := by decide +kernel
theorem dX7_failed_8 : decode cX7_failed 8 = .ok (.aload_n 0, 1) := by decide +kernel
theorem dX7_failed_9 : decode cX7_failed 9 = .ok (.getfield 29, 3) := by decide +kernel
theorem dX7_failed_12 : decode cX7_failed 12 = .ok (.iaload, 1) := by decide +kernel
theorem dX7_failed_13 : decode cX7_failed 13 = .ok (.putfield 15, 3) := by decide +kernel
theorem dX7_failed_16 : decode cX7_failed 16 = .ok (.iconst (-1), 1) := by decide +kernel
theorem dX7_failed_17 : decode cX7_failed 17 = .ok (.ireturn, 1) := by decide +kernel
theorem dX7_kind_0 : decode cX7_kind 0 = .ok (.aload_n 0, 1) := by decide +kernel
theorem dX7_kind_1 : decode cX7_kind 1 = .ok (.getfield 19, 3) := by decide +kernel
theorem dX7_kind_4 : decode cX7_kind 4 = .ok (.getfield 49, 3) := by decide +kernel
theorem dX7_kind_7 : decode cX7_kind 7 = .ok (.aload_n 0, 1) := by decide +kernel
theorem dX7_kind_8 : decode cX7_kind 8 = .ok (.getfield 29, 3) := by decide +kernel
theorem dX7_kind_11 : decode cX7_kind 11 = .ok (.iaload, 1) := by decide +kernel
theorem dX7_kind_12 : decode cX7_kind 12 = .ok (.ireturn, 1) := by decide +kernel
theorem dX7_take_0 : decode cX7_take 0 = .ok (.aload_n 0, 1) := by decide +kernel
theorem dX7_take_1 : decode cX7_take 1 = .ok (.getfield 19, 3) := by decide +kernel
theorem dX7_take_4 : decode cX7_take 4 = .ok (.getfield 49, 3) := by decide +kernel
theorem dX7_take_7 : decode cX7_take 7 = .ok (.aload_n 0, 1) := by decide +kernel
theorem dX7_take_8 : decode cX7_take 8 = .ok (.getfield 29, 3) := by decide +kernel
theorem dX7_take_11 : decode cX7_take 11 = .ok (.iaload, 1) := by decide +kernel
theorem dX7_take_12 : decode cX7_take 12 = .ok (.iload_n 1, 1) := by decide +kernel
theorem dX7_take_13 : decode cX7_take 13 = .ok (.if_icmp .ne 13, 3) := by decide +kernel
theorem dX7_take_16 : decode cX7_take 16 = .ok (.aload_n 0, 1) := by decide +kernel
theorem dX7_take_17 : decode cX7_take 17 = .ok (.getfield 29, 3) := by decide +kernel
theorem dX7_take_20 : decode cX7_take 20 = .ok (.sipush 400, 3) := by decide +kernel
theorem dX7_take_23 : decode cX7_take 23 = .ok (.if_icmp .lt 5, 3) := by decide +kernel
theorem dX7_take_26 : decode cX7_take 26 = .ok (.iconst 0, 1) := by decide +kernel
theorem dX7_take_27 : decode cX7_take 27 = .ok (.ireturn, 1) := by decide +kernel
theorem dX7_take_28 : decode cX7_take 28 = .ok (.aload_n 0, 1) := by decide +kernel
theorem dX7_take_29 : decode cX7_take 29 = .ok (.dup, 1) := by decide +kernel
theorem dX7_take_30 : decode cX7_take 30 = .ok (.getfield 29, 3) := by decide +kernel
theorem dX7_take_33 : decode cX7_take 33 = .ok (.iconst 1, 1) := by decide +kernel
theorem dX7_take_34 : decode cX7_take 34 = .ok (.iadd, 1) := by decide +kernel
theorem dX7_take_35 : decode cX7_take 35 = .ok (.putfield 29, 3) := by decide +kernel
theorem dX7_take_38 : decode cX7_take 38 = .ok (.iconst 1, 1) := by decide +kernel
theorem dX7_take_39 : decode cX7_take 39 = .ok (.ireturn, 1) := by decide +kernel
theorem dX7_emit_0 : decode cX7_emit 0 = .ok (.aload_n 0, 1) := by decide +kernel
theorem dX7_emit_1 : decode cX7_emit 1 = .ok (.getfield 32, 3) := by decide +kernel
theorem dX7_emit_4 : decode cX7_emit 4 = .ok (.sipush 400, 3) := by decide +kernel
theorem dX7_emit_7 : decode cX7_emit 7 = .ok (.if_icmp .lt 4, 3) := by decide +kernel
theorem dX7_emit_10 : decode cX7_emit 10 = .ok (.return_, 1) := by decide +kernel
theorem dX7_emit_11 : decode cX7_emit 11 = .ok (.aload_n 0, 1) := by decide +kernel
theorem dX7_emit_12 : decode cX7_emit 12 = .ok (.getfield 9, 3) := by decide +kernel
theorem dX7_emit_15 : decode cX7_emit 15 = .ok (.aload_n 0, 1) := by decide +kernel
theorem dX7_emit_16 : decode cX7_emit 16 = .ok (.getfield 32, 3) := by decide +kernel
theorem dX7_emit_19 : decode cX7_emit 19 = .ok (.iload_n 1, 1) := by decide +kernel
theorem dX7_emit_20 : decode cX7_emit 20 = .ok (.iastore, 1) := by decide +kernel
theorem dX7_emit_21 : decode cX7_emit 21 = .ok (.aload_n 0, 1) := by decide +kernel
theorem dX7_emit_22 : decode cX7_emit 22 = .ok (.dup, 1) := by decide +kernel
theorem dX7_emit_23 : decode cX7_emit 23 = .ok (.getfield 32, 3) := by decide +kernel
theorem dX7_emit_26 : decode cX7_emit 26 = .ok (.iconst 1, 1) := by decide +kernel
theorem dX7_emit_27 : decode cX7_emit 27 = .ok (.iadd, 1) := by decide +kernel
theorem dX7_emit_28 : decode cX7_emit 28 = .ok (.putfield 32, 3) := by decide +kernel
theorem dX7_emit_31 : decode cX7_emit 31 = .ok (.return_, 1) := by decide +kernel
theorem dX7_statement_0 : decode cX7_statement 0 = .ok (.aload_n 0, 1) := by decide +kernel
theorem dX7_statement_1 : decode cX7_statement 1 = .ok (.invokevirtual 35, 3) := by decide +kernel
theorem dX7_statement_4 : decode cX7_statement 4 = .ok (.istore_n 1, 1) := by decide +kernel
theorem dX7_statement_5 : decode cX7_statement 5 = .ok (.iload_n 1, 1) := by decide +kernel
theorem dX7_statement_6 : decode cX7_statement 6 = .ok (.iconst 1, 1) := by decide +kernel
theorem dX7_statement_7 : decode cX7_statement 7 = .ok (.if_icmp .eq 10, 3) := by decide +kernel
theorem dX7_statement_10 : decode cX7_statement 10 = .ok (.iload_n 1, 1) := by decide +kernel
theorem dX7_statement_11 : decode cX7_statement 11 = .ok (.iconst 2, 1) := by decide +kernel
theorem dX7_statement_12 : decode cX7_statement 12 = .ok (.if_icmp .eq 5, 3) := by decide +kernel
theorem dX7_statement_15 : decode cX7_statement 15 = .ok (.iconst 0, 1) := by decide +kernel
theorem dX7_statement_16 : decode cX7_statement 16 = .ok (.ireturn, 1) := by decide +kernel
theorem dX7_statement_17 : decode cX7_statement 17 = .ok (.aload_n 0, 1) := by decide +kernel
theorem dX7_statement_18 : decode cX7_statement 18 = .ok (.iload_n 1, 1) := by decide +kernel
theorem dX7_statement_19 : decode cX7_statement 19 = .ok (.invokevirtual 52, 3) := by decide +kernel
theorem dX7_statement_22 : decode cX7_statement 22 = .ok (.pop, 1) := by decide +kernel
theorem dX7_statement_23 : decode cX7_statement 23 = .ok (.iload_n 1, 1) := by decide +kernel
theorem dX7_statement_24 : decode cX7_statement 24 = .ok (.iconst 1, 1) := by decide +kernel
theorem dX7_statement_25 : decode cX7_statement 25 = .ok (.if_icmp .ne 13, 3) := by decide +kernel
theorem dX7_statement_28 : decode cX7_statement 28 = .ok (.aload_n 0, 1) := by decide +kernel
theorem dX7_statement_29 : decode cX7_statement 29 = .ok (.iconst 0, 1) := by decide +kernel
theorem dX7_statement_30 : decode cX7_statement 30 = .ok (.invokevirtual 56, 3) := by decide +kernel
theorem dX7_statement_33 : decode cX7_statement 33 = .ok (.ifCond .ne 5, 3) := by decide +kernel
theorem dX7_statement_36 : decode cX7_statement 36 = .ok (.iconst 0, 1) := by decide +kernel
theorem dX7_statement_37 : decode cX7_statement 37 = .ok (.ireturn, 1) := by decide +kernel
theorem dX7_statement_38 : decode cX7_statement 38 = .ok (.aload_n 0, 1) := by decide +kernel
theorem dX7_statement_39 : decode cX7_statement 39 = .ok (.iconst 3, 1) := by decide +kernel
theorem dX7_statement_40 : decode cX7_statement 40 = .ok (.invokevirtual 52, 3) := by decide +kernel
theorem dX7_statement_43 : decode cX7_statement 43 = .ok (.ifCond .eq 13, 3) := by decide +kernel
theorem dX7_statement_46 : decode cX7_statement 46 = .ok (.aload_n 0, 1) := by decide +kernel
theorem dX7_statement_47 : decode cX7_statement 47 = .ok (.iconst 0, 1) := by decide +kernel
theorem dX7_statement_48 : decode cX7_statement 48 = .ok (.invokevirtual 59, 3) := by decide +kernel
theorem dX7_statement_51 : decode cX7_statement 51 = .ok (.ifCond .ne 10, 3) := by decide +kernel
theorem dX7_statement_54 : decode cX7_statement 54 = .ok (.iconst 0, 1) := by decide +kernel
theorem dX7_statement_55 : decode cX7_statement 55 = .ok (.ireturn, 1) := by decide +kernel
theorem dX7_statement_56 : decode cX7_statement 56 = .ok (.aload_n 0, 1) := by decide +kernel
theorem dX7_statement_57 : decode cX7_statement 57 = .ok (.iconst 1, 1) := by decide +kernel
theorem dX7_statement_58 : decode cX7_statement 58 = .ok (.invokevirtual 62, 3) := by decide +kernel
theorem dX7_statement_61 : decode cX7_statement 61 = .ok (.aload_n 0, 1) := by decide +kernel
theorem dX7_statement_62 : decode cX7_statement 62 = .ok (.bipush 59, 2) := by decide +kernel
theorem dX7_statement_64 : decode cX7_statement 64 = .ok (.invokevirtual 52, 3) := by decide +kernel
theorem dX7_statement_67 : decode cX7_statement 67 = .ok (.ifCond .ne 5, 3) := by decide +kernel
theorem dX7_statement_70 : decode cX7_statement 70 = .ok (.iconst 0, 1) := by decide +kernel
theorem dX7_statement_71 : decode cX7_statement 71 = .ok (.ireturn, 1) := by decide +kernel
theorem dX7_statement_72 : decode cX7_statement 72 = .ok (.aload_n 0, 1) := by decide +kernel
theorem dX7_statement_73 : decode cX7_statement 73 = .ok (.iload_n 1, 1) := by decide +kernel
theorem dX7_statement_74 : decode cX7_statement 74 = .ok (.ineg, 1) := by decide +kernel
theorem dX7_statement_75 : decode cX7_statement 75 = .ok (.invokevirtual 62, 3) := by decide +kernel
theorem dX7_statement_78 : decode cX7_statement 78 = .ok (.iconst 1, 1) := by decide +kernel
theorem dX7_statement_79 : decode cX7_statement 79 = .ok (.ireturn, 1) := by decide +kernel
theorem dX7_anyOf_0 : decode cX7_anyOf 0 = .ok (.iconst 0, 1) := by decide +kernel
theorem dX7_anyOf_1 : decode cX7_anyOf 1 = .ok (.istore_n 2, 1) := by decide +kernel
theorem dX7_anyOf_2 : decode cX7_anyOf 2 = .ok (.iconst 0, 1) := by decide +kernel
theorem dX7_anyOf_3 : decode cX7_anyOf 3 = .ok (.istore_n 3, 1) := by decide +kernel
theorem dX7_anyOf_4 : decode cX7_anyOf 4 = .ok (.iconst 0, 1) := by decide +kernel
theorem dX7_anyOf_5 : decode cX7_anyOf 5 = .ok (.istore 4, 2) := by decide +kernel
theorem dX7_anyOf_7 : decode cX7_anyOf 7 = .ok (.iload 4, 2) := by decide +kernel
theorem dX7_anyOf_9 : decode cX7_anyOf 9 = .ok (.sipush 400, 3) := by decide +kernel
theorem dX7_anyOf_12 : decode cX7_anyOf 12 = .ok (.if_icmp .ge 61, 3) := by decide +kernel
theorem dX7_anyOf_15 : decode cX7_anyOf 15 = .ok (.aload_n 0, 1) := by decide +kernel
theorem dX7_anyOf_16 : decode cX7_anyOf 16 = .ok (.iload_n 1, 1) := by decide +kernel
theorem dX7_anyOf_17 : decode cX7_anyOf 17 = .ok (.invokevirtual 65, 3) := by decide +kernel
theorem dX7_anyOf_20 : decode cX7_anyOf 20 = .ok (.ifCond .ne 5, 3) := by decide +kernel
theorem dX7_anyOf_23 : decode cX7_anyOf 23 = .ok (.iconst 0, 1) := by decide +kernel
theorem dX7_anyOf_24 : decode cX7_anyOf 24 = .ok (.ireturn, 1) := by decide +kernel
theorem dX7_anyOf_25 : decode cX7_anyOf 25 = .ok (.iload_n 2, 1) := by decide +kernel
theorem dX7_anyOf_26 : decode cX7_anyOf 26 = .ok (.ifCond .eq 9, 3) := by decide +kernel
theorem dX7_anyOf_29 : decode cX7_anyOf 29 = .ok (.aload_n 0, 1) := by decide +kernel
theorem dX7_anyOf_30 : decode cX7_anyOf 30 = .ok (.bipush (-5), 2) := by decide +kernel
theorem dX7_anyOf_32 : decode cX7_anyOf 32 = .ok (.invokevirtual 62, 3) := by decide +kernel
theorem dX7_anyOf_35 : decode cX7_anyOf 35 = .ok (.aload_n 0, 1) := by decide +kernel
theorem dX7_anyOf_36 : decode cX7_anyOf 36 = .ok (.iconst 5, 1) := by decide +kernel
theorem dX7_anyOf_37 : decode cX7_anyOf 37 = .ok (.invokevirtual 52, 3) := by decide +kernel
theorem dX7_anyOf_40 : decode cX7_anyOf 40 = .ok (.istore_n 2, 1) := by decide +kernel
theorem dX7_anyOf_41 : decode cX7_anyOf 41 = .ok (.iload_n 2, 1) := by decide +kernel
theorem dX7_anyOf_42 : decode cX7_anyOf 42 = .ok (.ifCond .ne 25, 3) := by decide +kernel
theorem dX7_anyOf_45 : decode cX7_anyOf 45 = .ok (.iload_n 3, 1) := by decide +kernel
theorem dX7_anyOf_46 : decode cX7_anyOf 46 = .ok (.ifCond .eq 9, 3) := by decide +kernel
theorem dX7_anyOf_49 : decode cX7_anyOf 49 = .ok (.aload_n 0, 1) := by decide +kernel
theorem dX7_anyOf_50 : decode cX7_anyOf 50 = .ok (.bipush (-4), 2) := by decide +kernel
theorem dX7_anyOf_52 : decode cX7_anyOf 52 = .ok (.invokevirtual 62, 3) := by decide +kernel
theorem dX7_anyOf_55 : decode cX7_anyOf 55 = .ok (.aload_n 0, 1) := by decide +kernel
theorem dX7_anyOf_56 : decode cX7_anyOf 56 = .ok (.iconst 4, 1) := by decide +kernel
theorem dX7_anyOf_57 : decode cX7_anyOf 57 = .ok (.invokevirtual 52, 3) := by decide +kernel
theorem dX7_anyOf_60 : decode cX7_anyOf 60 = .ok (.istore_n 3, 1) := by decide +kernel
theorem dX7_anyOf_61 : decode cX7_anyOf 61 = .ok (.iload_n 3, 1) := by decide +kernel
theorem dX7_anyOf_62 : decode cX7_anyOf 62 = .ok (.ifCond .ne 5, 3) := by decide +kernel
theorem dX7_anyOf_65 : decode cX7_anyOf 65 = .ok (.iconst 1, 1) := by decide +kernel
theorem dX7_anyOf_66 : decode cX7_anyOf 66 = .ok (.ireturn, 1) := by decide +kernel
theorem dX7_anyOf_67 : decode cX7_anyOf 67 = .ok (.iinc 4 1, 3) := by decide +kernel
theorem dX7_anyOf_70 : decode cX7_anyOf 70 = .ok (.goto (-63), 3) := by decide +kernel
theorem dX7_anyOf_73 : decode cX7_anyOf 73 = .ok (.iconst 0, 1) := by decide +kernel
theorem dX7_anyOf_74 : decode cX7_anyOf 74 = .ok (.ireturn, 1) := by decide +kernel
theorem dX7_oneOf_0 : decode cX7_oneOf 0 = .ok (.aload_n 0, 1) := by decide +kernel
theorem dX7_oneOf_1 : decode cX7_oneOf 1 = .ok (.invokevirtual 35, 3) := by decide +kernel
theorem dX7_oneOf_4 : decode cX7_oneOf 4 = .ok (.istore_n 2, 1) := by decide +kernel
theorem dX7_oneOf_5 : decode cX7_oneOf 5 = .ok (.iload_n 2, 1) := by decide +kernel
theorem dX7_oneOf_6 : decode cX7_oneOf 6 = .ok (.bipush 6, 2) := by decide +kernel
theorem dX7_oneOf_8 : decode cX7_oneOf 8 = .ok (.if_icmp .eq 9, 3) := by decide +kernel
theorem dX7_oneOf_11 : decode cX7_oneOf 11 = .ok (.iload_n 2, 1) := by decide +kernel
theorem dX7_oneOf_12 : decode cX7_oneOf 12 = .ok (.bipush 91, 2) := by decide +kernel
theorem dX7_oneOf_14 : decode cX7_oneOf 14 = .ok (.if_icmp .ne 68, 3) := by decide +kernel
theorem dX7_oneOf_17 : decode cX7_oneOf 17 = .ok (.iload_n 1, 1) := by decide +kernel
theorem dX7_oneOf_18 : decode cX7_oneOf 18 = .ok (.bipush 9, 2) := by decide +kernel
theorem dX7_oneOf_20 : decode cX7_oneOf 20 = .ok (.if_icmp .lt 5, 3) := by decide +kernel
theorem dX7_oneOf_23 : decode cX7_oneOf 23 = .ok (.iconst 0, 1) := by decide +kernel
theorem dX7_oneOf_24 : decode cX7_oneOf 24 = .ok (.ireturn, 1) := by decide +kernel
theorem dX7_oneOf_25 : decode cX7_oneOf 25 = .ok (.aload_n 0, 1) := by decide +kernel
theorem dX7_oneOf_26 : decode cX7_oneOf 26 = .ok (.iload_n 2, 1) := by decide +kernel
theorem dX7_oneOf_27 : decode cX7_oneOf 27 = .ok (.invokevirtual 52, 3) := by decide +kernel
theorem dX7_oneOf_30 : decode cX7_oneOf 30 = .ok (.pop, 1) := by decide +kernel
theorem dX7_oneOf_31 : decode cX7_oneOf 31 = .ok (.iload_n 2, 1) := by decide +kernel
theorem dX7_oneOf_32 : decode cX7_oneOf 32 = .ok (.bipush 91, 2) := by decide +kernel
theorem dX7_oneOf_34 : decode cX7_oneOf 34 = .ok (.if_icmp .ne 28, 3) := by decide +kernel
theorem dX7_oneOf_37 : decode cX7_oneOf 37 = .ok (.aload_n 0, 1) := by decide +kernel
theorem dX7_oneOf_38 : decode cX7_oneOf 38 = .ok (.iload_n 1, 1) := by decide +kernel
theorem dX7_oneOf_39 : decode cX7_oneOf 39 = .ok (.iconst 1, 1) := by decide +kernel
theorem dX7_oneOf_40 : decode cX7_oneOf 40 = .ok (.iadd, 1) := by decide +kernel
theorem dX7_oneOf_41 : decode cX7_oneOf 41 = .ok (.invokevirtual 59, 3) := by decide +kernel
theorem dX7_oneOf_44 : decode cX7_oneOf 44 = .ok (.ifCond .eq 16, 3) := by decide +kernel
theorem dX7_oneOf_47 : decode cX7_oneOf 47 = .ok (.aload_n 0, 1) := by decide +kernel
theorem dX7_oneOf_48 : decode cX7_oneOf 48 = .ok (.bipush 93, 2) := by decide +kernel
theorem dX7_oneOf_50 : decode cX7_oneOf 50 = .ok (.invokevirtual 52, 3) := by decide +kernel
theorem dX7_oneOf_53 : decode cX7_oneOf 53 = .ok (.ifCond .eq 7, 3) := by decide +kernel
theorem dX7_oneOf_56 : decode cX7_oneOf 56 = .ok (.iconst 1, 1) := by decide +kernel
theorem dX7_oneOf_57 : decode cX7_oneOf 57 = .ok (.goto 4, 3) := by decide +kernel
theorem dX7_oneOf_60 : decode cX7_oneOf 60 = .ok (.iconst 0, 1) := by decide +kernel
theorem dX7_oneOf_61 : decode cX7_oneOf 61 = .ok (.ireturn, 1) := by decide +kernel
theorem dX7_oneOf_62 : decode cX7_oneOf 62 = .ok (.aload_n 0, 1) := by decide +kernel
theorem dX7_oneOf_63 : decode cX7_oneOf 63 = .ok (.iload_n 1, 1) := by decide +kernel
theorem dX7_oneOf_64 : decode cX7_oneOf 64 = .ok (.iconst 1, 1) := by decide +kernel
theorem dX7_oneOf_65 : decode cX7_oneOf 65 = .ok (.iadd, 1) := by decide +kernel
theorem dX7_oneOf_66 : decode cX7_oneOf 66 = .ok (.invokevirtual 65, 3) := by decide +kernel
theorem dX7_oneOf_69 : decode cX7_oneOf 69 = .ok (.ifCond .ne 5, 3) := by decide +kernel
theorem dX7_oneOf_72 : decode cX7_oneOf 72 = .ok (.iconst 0, 1) := by decide +kernel
theorem dX7_oneOf_73 : decode cX7_oneOf 73 = .ok (.ireturn, 1) := by decide +kernel
theorem dX7_oneOf_74 : decode cX7_oneOf 74 = .ok (.aload_n 0, 1) := by decide +kernel
theorem dX7_oneOf_75 : decode cX7_oneOf 75 = .ok (.bipush (-6), 2) := by decide +kernel
theorem dX7_oneOf_77 : decode cX7_oneOf 77 = .ok (.invokevirtual 62, 3) := by decide +kernel
theorem dX7_oneOf_80 : decode cX7_oneOf 80 = .ok (.iconst 1, 1) := by decide +kernel
theorem dX7_oneOf_81 : decode cX7_oneOf 81 = .ok (.ireturn, 1) := by decide +kernel
theorem dX7_oneOf_82 : decode cX7_oneOf 82 = .ok (.aload_n 0, 1) := by decide +kernel
theorem dX7_oneOf_83 : decode cX7_oneOf 83 = .ok (.iload_n 1, 1) := by decide +kernel
theorem dX7_oneOf_84 : decode cX7_oneOf 84 = .ok (.invokevirtual 56, 3) := by decide +kernel
theorem dX7_oneOf_87 : decode cX7_oneOf 87 = .ok (.ifCond .ne 5, 3) := by decide +kernel
theorem dX7_oneOf_90 : decode cX7_oneOf 90 = .ok (.iconst 0, 1) := by decide +kernel
theorem dX7_oneOf_91 : decode cX7_oneOf 91 = .ok (.ireturn, 1) := by decide +kernel
theorem dX7_oneOf_92 : decode cX7_oneOf 92 = .ok (.aload_n 0, 1) := by decide +kernel
theorem dX7_oneOf_93 : decode cX7_oneOf 93 = .ok (.invokevirtual 35, 3) := by decide +kernel
theorem dX7_oneOf_96 : decode cX7_oneOf 96 = .ok (.istore_n 3, 1) := by decide +kernel
theorem dX7_oneOf_97 : decode cX7_oneOf 97 = .ok (.iload_n 3, 1) := by decide +kernel
theorem dX7_oneOf_98 : decode cX7_oneOf 98 = .ok (.bipush 60, 2) := by decide +kernel
theorem dX7_oneOf_100 : decode cX7_oneOf 100 = .ok (.if_icmp .eq 17, 3) := by decide +kernel
theorem dX7_oneOf_103 : decode cX7_oneOf 103 = .ok (.iload_n 3, 1) := by decide +kernel
theorem dX7_oneOf_104 : decode cX7_oneOf 104 = .ok (.bipush 62, 2) := by decide +kernel
theorem dX7_oneOf_106 : decode cX7_oneOf 106 = .ok (.if_icmp .eq 11, 3) := by decide +kernel
theorem dX7_oneOf_109 : decode cX7_oneOf 109 = .ok (.iload_n 3, 1) := by decide +kernel
theorem dX7_oneOf_110 : decode cX7_oneOf 110 = .ok (.bipush 61, 2) := by decide +kernel
theorem dX7_oneOf_112 : decode cX7_oneOf 112 = .ok (.if_icmp .eq 5, 3) := by decide +kernel
theorem dX7_oneOf_115 : decode cX7_oneOf 115 = .ok (.iconst 0, 1) := by decide +kernel
theorem dX7_oneOf_116 : decode cX7_oneOf 116 = .ok (.ireturn, 1) := by decide +kernel
theorem dX7_oneOf_117 : decode cX7_oneOf 117 = .ok (.aload_n 0, 1) := by decide +kernel
theorem dX7_oneOf_118 : decode cX7_oneOf 118 = .ok (.iload_n 3, 1) := by decide +kernel
theorem dX7_oneOf_119 : decode cX7_oneOf 119 = .ok (.invokevirtual 52, 3) := by decide +kernel
theorem dX7_oneOf_122 : decode cX7_oneOf 122 = .ok (.pop, 1) := by decide +kernel
theorem dX7_oneOf_123 : decode cX7_oneOf 123 = .ok (.aload_n 0, 1) := by decide +kernel
theorem dX7_oneOf_124 : decode cX7_oneOf 124 = .ok (.iload_n 1, 1) := by decide +kernel
theorem dX7_oneOf_125 : decode cX7_oneOf 125 = .ok (.invokevirtual 56, 3) := by decide +kernel
theorem dX7_oneOf_128 : decode cX7_oneOf 128 = .ok (.ifCond .ne 5, 3) := by decide +kernel
theorem dX7_oneOf_131 : decode cX7_oneOf 131 = .ok (.iconst 0, 1) := by decide +kernel
theorem dX7_oneOf_132 : decode cX7_oneOf 132 = .ok (.ireturn, 1) := by decide +kernel
theorem dX7_oneOf_133 : decode cX7_oneOf 133 = .ok (.aload_n 0, 1) := by decide +kernel
theorem dX7_oneOf_134 : decode cX7_oneOf 134 = .ok (.iload_n 3, 1) := by decide +kernel
theorem dX7_oneOf_135 : decode cX7_oneOf 135 = .ok (.ineg, 1) := by decide +kernel
theorem dX7_oneOf_136 : decode cX7_oneOf 136 = .ok (.invokevirtual 62, 3) := by decide +kernel
theorem dX7_oneOf_139 : decode cX7_oneOf 139 = .ok (.iconst 1, 1) := by decide +kernel
theorem dX7_oneOf_140 : decode cX7_oneOf 140 = .ok (.ireturn, 1) := by decide +kernel
theorem dX7_expression_0 : decode cX7_expression 0 = .ok (.iconst 0, 1) := by decide +kernel
theorem dX7_expression_1 : decode cX7_expression 1 = .ok (.istore_n 2, 1) := by decide +kernel
theorem dX7_expression_2 : decode cX7_expression 2 = .ok (.iconst 0, 1) := by decide +kernel
theorem dX7_expression_3 : decode cX7_expression 3 = .ok (.istore_n 3, 1) := by decide +kernel
theorem dX7_expression_4 : decode cX7_expression 4 = .ok (.iconst 0, 1) := by decide +kernel
theorem dX7_expression_5 : decode cX7_expression 5 = .ok (.istore 4, 2) := by decide +kernel
theorem dX7_expression_7 : decode cX7_expression 7 = .ok (.iload 4, 2) := by decide +kernel
theorem dX7_expression_9 : decode cX7_expression 9 = .ok (.sipush 400, 3) := by decide +kernel
theorem dX7_expression_12 : decode cX7_expression 12 = .ok (.if_icmp .ge 67, 3) := by decide +kernel
theorem dX7_expression_15 : decode cX7_expression 15 = .ok (.aload_n 0, 1) := by decide +kernel
theorem dX7_expression_16 : decode cX7_expression 16 = .ok (.iload_n 1, 1) := by decide +kernel
theorem dX7_expression_17 : decode cX7_expression 17 = .ok (.invokevirtual 68, 3) := by decide +kernel
theorem dX7_expression_20 : decode cX7_expression 20 = .ok (.ifCond .ne 5, 3) := by decide +kernel
theorem dX7_expression_23 : decode cX7_expression 23 = .ok (.iconst 0, 1) := by decide +kernel
theorem dX7_expression_24 : decode cX7_expression 24 = .ok (.ireturn, 1) := by decide +kernel
theorem dX7_expression_25 : decode cX7_expression 25 = .ok (.iload_n 2, 1) := by decide +kernel
theorem dX7_expression_26 : decode cX7_expression 26 = .ok (.ifCond .eq 9, 3) := by decide +kernel
theorem dX7_expression_29 : decode cX7_expression 29 = .ok (.aload_n 0, 1) := by decide +kernel
theorem dX7_expression_30 : decode cX7_expression 30 = .ok (.iload_n 2, 1) := by decide +kernel
theorem dX7_expression_31 : decode cX7_expression 31 = .ok (.ineg, 1) := by decide +kernel
theorem dX7_expression_32 : decode cX7_expression 32 = .ok (.invokevirtual 62, 3) := by decide +kernel
theorem dX7_expression_35 : decode cX7_expression 35 = .ok (.aload_n 0, 1) := by decide +kernel
theorem dX7_expression_36 : decode cX7_expression 36 = .ok (.bipush 42, 2) := by decide +kernel
theorem dX7_expression_38 : decode cX7_expression 38 = .ok (.bipush 47, 2) := by decide +kernel
theorem dX7_expression_40 : decode cX7_expression 40 = .ok (.invokevirtual 71, 3) := by decide +kernel
theorem dX7_expression_43 : decode cX7_expression 43 = .ok (.istore_n 2, 1) := by decide +kernel
theorem dX7_expression_44 : decode cX7_expression 44 = .ok (.iload_n 2, 1) := by decide +kernel
theorem dX7_expression_45 : decode cX7_expression 45 = .ok (.ifCond .ne 28, 3) := by decide +kernel
theorem dX7_expression_48 : decode cX7_expression 48 = .ok (.iload_n 3, 1) := by decide +kernel
theorem dX7_expression_49 : decode cX7_expression 49 = .ok (.ifCond .eq 9, 3) := by decide +kernel
theorem dX7_expression_52 : decode cX7_expression 52 = .ok (.aload_n 0, 1) := by decide +kernel
theorem dX7_expression_53 : decode cX7_expression 53 = .ok (.iload_n 3, 1) := by decide +kernel
theorem dX7_expression_54 : decode cX7_expression 54 = .ok (.ineg, 1) := by decide +kernel
theorem dX7_expression_55 : decode cX7_expression 55 = .ok (.invokevirtual 62, 3) := by decide +kernel
theorem dX7_expression_58 : decode cX7_expression 58 = .ok (.aload_n 0, 1) := by decide +kernel
theorem dX7_expression_59 : decode cX7_expression 59 = .ok (.bipush 43, 2) := by decide +kernel
theorem dX7_expression_61 : decode cX7_expression 61 = .ok (.bipush 45, 2) := by decide +kernel
theorem dX7_expression_63 : decode cX7_expression 63 = .ok (.invokevirtual 71, 3) := by decide +kernel
theorem dX7_expression_66 : decode cX7_expression 66 = .ok (.istore_n 3, 1) := by decide +kernel
theorem dX7_expression_67 : decode cX7_expression 67 = .ok (.iload_n 3, 1) := by decide +kernel
theorem dX7_expression_68 : decode cX7_expression 68 = .ok (.ifCond .ne 5, 3) := by decide +kernel
theorem dX7_expression_71 : decode cX7_expression 71 = .ok (.iconst 1, 1) := by decide +kernel
theorem dX7_expression_72 : decode cX7_expression 72 = .ok (.ireturn, 1) := by decide +kernel
theorem dX7_expression_73 : decode cX7_expression 73 = .ok (.iinc 4 1, 3) := by decide +kernel
theorem dX7_expression_76 : decode cX7_expression 76 = .ok (.goto (-69), 3) := by decide +kernel
theorem dX7_expression_79 : decode cX7_expression 79 = .ok (.iconst 0, 1) := by decide +kernel
theorem dX7_expression_80 : decode cX7_expression 80 = .ok (.ireturn, 1) := by decide +kernel
theorem dX7_takeEither_0 : decode cX7_takeEither 0 = .ok (.aload_n 0, 1) := by decide +kernel
theorem dX7_takeEither_1 : decode cX7_takeEither 1 = .ok (.invokevirtual 35, 3) := by decide +kernel
theorem dX7_takeEither_4 : decode cX7_takeEither 4 = .ok (.istore_n 3, 1) := by decide +kernel
theorem dX7_takeEither_5 : decode cX7_takeEither 5 = .ok (.iload_n 3, 1) := by decide +kernel
theorem dX7_takeEither_6 : decode cX7_takeEither 6 = .ok (.iload_n 1, 1) := by decide +kernel
theorem dX7_takeEither_7 : decode cX7_takeEither 7 = .ok (.if_icmp .eq 10, 3) := by decide +kernel
theorem dX7_takeEither_10 : decode cX7_takeEither 10 = .ok (.iload_n 3, 1) := by decide +kernel
theorem dX7_takeEither_11 : decode cX7_takeEither 11 = .ok (.iload_n 2, 1) := by decide +kernel
theorem dX7_takeEither_12 : decode cX7_takeEither 12 = .ok (.if_icmp .eq 5, 3) := by decide +kernel
theorem dX7_takeEither_15 : decode cX7_takeEither 15 = .ok (.iconst 0, 1) := by decide +kernel
theorem dX7_takeEither_16 : decode cX7_takeEither 16 = .ok (.ireturn, 1) := by decide +kernel
theorem dX7_takeEither_17 : decode cX7_takeEither 17 = .ok (.aload_n 0, 1) := by decide +kernel
theorem dX7_takeEither_18 : decode cX7_takeEither 18 = .ok (.iload_n 3, 1) := by decide +kernel
theorem dX7_takeEither_19 : decode cX7_takeEither 19 = .ok (.invokevirtual 52, 3) := by decide +kernel
theorem dX7_takeEither_22 : decode cX7_takeEither 22 = .ok (.ifCond .eq 7, 3) := by decide +kernel
theorem dX7_takeEither_25 : decode cX7_takeEither 25 = .ok (.iload_n 3, 1) := by decide +kernel
theorem dX7_takeEither_26 : decode cX7_takeEither 26 = .ok (.goto 4, 3) := by decide +kernel
theorem dX7_takeEither_29 : decode cX7_takeEither 29 = .ok (.iconst 0, 1) := by decide +kernel
theorem dX7_takeEither_30 : decode cX7_takeEither 30 = .ok (.ireturn, 1) := by decide +kernel
theorem dX7_atom_0 : decode cX7_atom 0 = .ok (.aload_n 0, 1) := by decide +kernel
theorem dX7_atom_1 : decode cX7_atom 1 = .ok (.invokevirtual 35, 3) := by decide +kernel
theorem dX7_atom_4 : decode cX7_atom 4 = .ok (.istore_n 2, 1) := by decide +kernel
theorem dX7_atom_5 : decode cX7_atom 5 = .ok (.iload_n 2, 1) := by decide +kernel
theorem dX7_atom_6 : decode cX7_atom 6 = .ok (.sipush 256, 3) := by decide +kernel
theorem dX7_atom_9 : decode cX7_atom 9 = .ok (.if_icmp .ne 25, 3) := by decide +kernel
theorem dX7_atom_12 : decode cX7_atom 12 = .ok (.aload_n 0, 1) := by decide +kernel
theorem dX7_atom_13 : decode cX7_atom 13 = .ok (.aload_n 0, 1) := by decide +kernel
theorem dX7_atom_14 : decode cX7_atom 14 = .ok (.getfield 19, 3) := by decide +kernel
theorem dX7_atom_17 : decode cX7_atom 17 = .ok (.getfield 75, 3) := by decide +kernel
theorem dX7_atom_20 : decode cX7_atom 20 = .ok (.aload_n 0, 1) := by decide +kernel
theorem dX7_atom_21 : decode cX7_atom 21 = .ok (.getfield 29, 3) := by decide +kernel
theorem dX7_atom_24 : decode cX7_atom 24 = .ok (.iaload, 1) := by decide +kernel
theorem dX7_atom_25 : decode cX7_atom 25 = .ok (.invokevirtual 62, 3) := by decide +kernel
theorem dX7_atom_28 : decode cX7_atom 28 = .ok (.aload_n 0, 1) := by decide +kernel
theorem dX7_atom_29 : decode cX7_atom 29 = .ok (.iload_n 2, 1) := by decide +kernel
theorem dX7_atom_30 : decode cX7_atom 30 = .ok (.invokevirtual 52, 3) := by decide +kernel
theorem dX7_atom_33 : decode cX7_atom 33 = .ok (.ireturn, 1) := by decide +kernel
theorem dX7_atom_34 : decode cX7_atom 34 = .ok (.iload_n 2, 1) := by decide +kernel
theorem dX7_atom_35 : decode cX7_atom 35 = .ok (.bipush 8, 2) := by decide +kernel
theorem dX7_atom_37 : decode cX7_atom 37 = .ok (.if_icmp .lt 21, 3) := by decide +kernel
theorem dX7_atom_40 : decode cX7_atom 40 = .ok (.iload_n 2, 1) := by decide +kernel
theorem dX7_atom_41 : decode cX7_atom 41 = .ok (.bipush 13, 2) := by decide +kernel
theorem dX7_atom_43 : decode cX7_atom 43 = .ok (.if_icmp .gt 15, 3) := by decide +kernel
theorem dX7_atom_46 : decode cX7_atom 46 = .ok (.aload_n 0, 1) := by decide +kernel
theorem dX7_atom_47 : decode cX7_atom 47 = .ok (.iload_n 2, 1) := by decide +kernel
theorem dX7_atom_48 : decode cX7_atom 48 = .ok (.ineg, 1) := by decide +kernel
theorem dX7_atom_49 : decode cX7_atom 49 = .ok (.invokevirtual 62, 3) := by decide +kernel
theorem dX7_atom_52 : decode cX7_atom 52 = .ok (.aload_n 0, 1) := by decide +kernel
theorem dX7_atom_53 : decode cX7_atom 53 = .ok (.iload_n 2, 1) := by decide +kernel
theorem dX7_atom_54 : decode cX7_atom 54 = .ok (.invokevirtual 52, 3) := by decide +kernel
theorem dX7_atom_57 : decode cX7_atom 57 = .ok (.ireturn, 1) := by decide +kernel
theorem dX7_atom_58 : decode cX7_atom 58 = .ok (.iload_n 2, 1) := by decide +kernel
theorem dX7_atom_59 : decode cX7_atom 59 = .ok (.bipush 7, 2) := by decide +kernel
theorem dX7_atom_61 : decode cX7_atom 61 = .ok (.if_icmp .ne 68, 3) := by decide +kernel
theorem dX7_atom_64 : decode cX7_atom 64 = .ok (.aload_n 0, 1) := by decide +kernel
theorem dX7_atom_65 : decode cX7_atom 65 = .ok (.iload_n 2, 1) := by decide +kernel
theorem dX7_atom_66 : decode cX7_atom 66 = .ok (.invokevirtual 52, 3) := by decide +kernel
theorem dX7_atom_69 : decode cX7_atom 69 = .ok (.pop, 1) := by decide +kernel
theorem dX7_atom_70 : decode cX7_atom 70 = .ok (.aload_n 0, 1) := by decide +kernel
theorem dX7_atom_71 : decode cX7_atom 71 = .ok (.invokevirtual 35, 3) := by decide +kernel
theorem dX7_atom_74 : decode cX7_atom 74 = .ok (.sipush 256, 3) := by decide +kernel
theorem dX7_atom_77 : decode cX7_atom 77 = .ok (.if_icmp .ne 20, 3) := by decide +kernel
theorem dX7_atom_80 : decode cX7_atom 80 = .ok (.aload_n 0, 1) := by decide +kernel
theorem dX7_atom_81 : decode cX7_atom 81 = .ok (.getfield 19, 3) := by decide +kernel
theorem dX7_atom_84 : decode cX7_atom 84 = .ok (.getfield 75, 3) := by decide +kernel
theorem dX7_atom_87 : decode cX7_atom 87 = .ok (.aload_n 0, 1) := by decide +kernel
theorem dX7_atom_88 : decode cX7_atom 88 = .ok (.getfield 29, 3) := by decide +kernel
theorem dX7_atom_91 : decode cX7_atom 91 = .ok (.iaload, 1) := by decide +kernel
theorem dX7_atom_92 : decode cX7_atom 92 = .ok (.bipush 10, 2) := by decide +kernel
theorem dX7_atom_94 : decode cX7_atom 94 = .ok (.if_icmp .lt 5, 3) := by decide +kernel
theorem dX7_atom_97 : decode cX7_atom 97 = .ok (.iconst 0, 1) := by decide +kernel
theorem dX7_atom_98 : decode cX7_atom 98 = .ok (.ireturn, 1) := by decide +kernel
theorem dX7_atom_99 : decode cX7_atom 99 = .ok (.aload_n 0, 1) := by decide +kernel
theorem dX7_atom_100 : decode cX7_atom 100 = .ok (.aload_n 0, 1) := by decide +kernel
theorem dX7_atom_101 : decode cX7_atom 101 = .ok (.getfield 19, 3) := by decide +kernel
theorem dX7_atom_104 : decode cX7_atom 104 = .ok (.getfield 75, 3) := by decide +kernel
theorem dX7_atom_107 : decode cX7_atom 107 = .ok (.aload_n 0, 1) := by decide +kernel
theorem dX7_atom_108 : decode cX7_atom 108 = .ok (.getfield 29, 3) := by decide +kernel
theorem dX7_atom_111 : decode cX7_atom 111 = .ok (.iaload, 1) := by decide +kernel
theorem dX7_atom_112 : decode cX7_atom 112 = .ok (.invokevirtual 62, 3) := by decide +kernel
theorem dX7_atom_115 : decode cX7_atom 115 = .ok (.aload_n 0, 1) := by decide +kernel
theorem dX7_atom_116 : decode cX7_atom 116 = .ok (.bipush (-7), 2) := by decide +kernel
theorem dX7_atom_118 : decode cX7_atom 118 = .ok (.invokevirtual 62, 3) := by decide +kernel
theorem dX7_atom_121 : decode cX7_atom 121 = .ok (.aload_n 0, 1) := by decide +kernel
theorem dX7_atom_122 : decode cX7_atom 122 = .ok (.sipush 256, 3) := by decide +kernel
theorem dX7_atom_125 : decode cX7_atom 125 = .ok (.invokevirtual 52, 3) := by decide +kernel
theorem dX7_atom_128 : decode cX7_atom 128 = .ok (.ireturn, 1) := by decide +kernel
theorem dX7_atom_129 : decode cX7_atom 129 = .ok (.iload_n 2, 1) := by decide +kernel
theorem dX7_atom_130 : decode cX7_atom 130 = .ok (.bipush 40, 2) := by decide +kernel
theorem dX7_atom_132 : decode cX7_atom 132 = .ok (.if_icmp .ne 9, 3) := by decide +kernel
theorem dX7_atom_135 : decode cX7_atom 135 = .ok (.iload_n 1, 1) := by decide +kernel
theorem dX7_atom_136 : decode cX7_atom 136 = .ok (.bipush 9, 2) := by decide +kernel
theorem dX7_atom_138 : decode cX7_atom 138 = .ok (.if_icmp .lt 5, 3) := by decide +kernel
theorem dX7_atom_141 : decode cX7_atom 141 = .ok (.iconst 0, 1) := by decide +kernel
theorem dX7_atom_142 : decode cX7_atom 142 = .ok (.ireturn, 1) := by decide +kernel
theorem dX7_atom_143 : decode cX7_atom 143 = .ok (.aload_n 0, 1) := by decide +kernel
theorem dX7_atom_144 : decode cX7_atom 144 = .ok (.iload_n 2, 1) := by decide +kernel
theorem dX7_atom_145 : decode cX7_atom 145 = .ok (.invokevirtual 52, 3) := by decide +kernel
theorem dX7_atom_148 : decode cX7_atom 148 = .ok (.pop, 1) := by decide +kernel
theorem dX7_atom_149 : decode cX7_atom 149 = .ok (.aload_n 0, 1) := by decide +kernel
theorem dX7_atom_150 : decode cX7_atom 150 = .ok (.iload_n 1, 1) := by decide +kernel
theorem dX7_atom_151 : decode cX7_atom 151 = .ok (.iconst 1, 1) := by decide +kernel
theorem dX7_atom_152 : decode cX7_atom 152 = .ok (.iadd, 1) := by decide +kernel
theorem dX7_atom_153 : decode cX7_atom 153 = .ok (.invokevirtual 56, 3) := by decide +kernel
theorem dX7_atom_156 : decode cX7_atom 156 = .ok (.ifCond .eq 16, 3) := by decide +kernel
theorem dX7_atom_159 : decode cX7_atom 159 = .ok (.aload_n 0, 1) := by decide +kernel
theorem dX7_atom_160 : decode cX7_atom 160 = .ok (.bipush 41, 2) := by decide +kernel
theorem dX7_atom_162 : decode cX7_atom 162 = .ok (.invokevirtual 52, 3) := by decide +kernel
theorem dX7_atom_165 : decode cX7_atom 165 = .ok (.ifCond .eq 7, 3) := by decide +kernel
theorem dX7_atom_168 : decode cX7_atom 168 = .ok (.iconst 1, 1) := by decide +kernel
theorem dX7_atom_169 : decode cX7_atom 169 = .ok (.goto 4, 3) := by decide +kernel
theorem dX7_atom_172 : decode cX7_atom 172 = .ok (.iconst 0, 1) := by decide +kernel
theorem dX7_atom_173 : decode cX7_atom 173 = .ok (.ireturn, 1) := by decide +kernel
theorem dX8_init_0 : decode cX8_init 0 = .ok (.aload_n 0, 1) := by decide +kernel
theorem dX8_init_1 : decode cX8_init 1 = .ok (.invokespecial 3, 3) := by decide +kernel
theorem dX8_init_4 : decode cX8_init 4 = .ok (.aload_n 0, 1) := by decide +kernel
theorem dX8_init_5 : decode cX8_init 5 = .ok (.bipush 10, 2) := by decide +kernel
theorem dX8_init_7 : decode cX8_init 7 = .ok (.newarray .int, 2) := by decide +kernel
theorem dX8_init_9 : decode cX8_init 9 = .ok (.putfield 9, 3) := by decide +kernel
theorem dX8_init_12 : decode cX8_init 12 = .ok (.aload_n 0, 1) := by decide +kernel
theorem dX8_init_13 : decode cX8_init 13 = .ok (.bipush 10, 2) := by decide +kernel
theorem dX8_init_15 : decode cX8_init 15 = .ok (.newarray .int, 2) := by decide +kernel
theorem dX8_init_17 : decode cX8_init 17 = .ok (.putfield 15, 3) := by decide +kernel
theorem dX8_init_20 : decode cX8_init 20 = .ok (.aload_n 0, 1) := by decide +kernel
theorem dX8_init_21 : decode cX8_init 21 = .ok (.bipush 10, 2) := by decide +kernel
theorem dX8_init_23 : decode cX8_init 23 = .ok (.newarray .int, 2) := by decide +kernel
theorem dX8_init_25 : decode cX8_init 25 = .ok (.putfield 18, 3) := by decide +kernel
theorem dX8_init_28 : decode cX8_init 28 = .ok (.aload_n 0, 1) := by decide +kernel
theorem dX8_init_29 : decode cX8_init 29 = .ok (.bipush 10, 2) := by decide +kernel
theorem dX8_init_31 : decode cX8_init 31 = .ok (.newarray .int, 2) := by decide +kernel
theorem dX8_init_33 : decode cX8_init 33 = .ok (.putfield 21, 3) := by decide +kernel
theorem dX8_init_36 : decode cX8_init 36 = .ok (.aload_n 0, 1) := by decide +kernel
theorem dX8_init_37 : decode cX8_init 37 = .ok (.bipush 10, 2) := by decide +kernel
theorem dX8_init_39 : decode cX8_init 39 = .ok (.newarray .int, 2) := by decide +kernel
theorem dX8_init_41 : decode cX8_init 41 = .ok (.putfield 24, 3) := by decide +kernel
theorem dX8_init_44 : decode cX8_init 44 = .ok (.aload_n 0, 1) := by decide +kernel
theorem dX8_init_45 : decode cX8_init 45 = .ok (.bipush 8, 2) := by decide +kernel
theorem dX8_init_47 : decode cX8_init 47 = .ok (.bipush 10, 2) := by decide +kernel
theorem dX8_init_49 : decode cX8_init 49 = .ok (.multianewarray 27 2, 4) := by decide +kernel
theorem dX8_init_53 : decode cX8_init 53 = .ok (.putfield 29, 3) := by decide +kernel
theorem dX8_init_56 : decode cX8_init 56 = .ok (.aload_n 0, 1) := by decide +kernel
theorem dX8_init_57 : decode cX8_init 57 = .ok (.aload_n 1, 1) := by decide +kernel
theorem dX8_init_58 : decode cX8_init 58 = .ok (.putfield 32, 3) := by decide +kernel
theorem dX8_init_61 : decode cX8_init 61 = .ok (.aload_n 0, 1) := by decide +kernel
theorem dX8_init_62 : decode cX8_init 62 = .ok (.aload_n 2, 1) := by decide +kernel
theorem dX8_init_63 : decode cX8_init 63 = .ok (.putfield 36, 3) := by decide +kernel
theorem dX8_init_66 : decode cX8_init 66 = .ok (.return_, 1) := by decide +kernel
theorem dX8_run_0 : decode cX8_run 0 = .ok (.aload_n 0, 1) := by decide +kernel
theorem dX8_run_1 : decode cX8_run 1 = .ok (.iconst 0, 1) := by decide +kernel
theorem dX8_run_2 : decode cX8_run 2 = .ok (.putfield 40, 3) := by decide +kernel
theorem dX8_run_5 : decode cX8_run 5 = .ok (.aload_n 0, 1) := by decide +kernel
theorem dX8_run_6 : decode cX8_run 6 = .ok (.getfield 36, 3) := by decide +kernel
theorem dX8_run_9 : decode cX8_run 9 = .ok (.getfield 44, 3) := by decide +kernel
theorem dX8_run_12 : decode cX8_run 12 = .ok (.aload_n 0, 1) := by decide +kernel
theorem dX8_run_13 : decode cX8_run 13 = .ok (.getfield 15, 3) := by decide +kernel
theorem dX8_run_16 : decode cX8_run 16 = .ok (.invokestatic 49, 3) := by decide +kernel
theorem dX8_run_19 : decode cX8_run 19 = .ok (.aload_n 0, 1) := by decide +kernel
theorem dX8_run_20 : decode cX8_run 20 = .ok (.getfield 15, 3) := by decide +kernel
theorem dX8_run_23 : decode cX8_run 23 = .ok (.aload_n 0, 1) := by decide +kernel
theorem dX8_run_24 : decode cX8_run 24 = .ok (.getfield 29, 3) := by decide +kernel
theorem dX8_run_27 : decode cX8_run 27 = .ok (.iconst 0, 1) := by decide +kernel
theorem dX8_run_28 : decode cX8_run 28 = .ok (.aaload, 1) := by decide +kernel
theorem dX8_run_29 : decode cX8_run 29 = .ok (.invokestatic 49, 3) := by decide +kernel
theorem dX8_run_32 : decode cX8_run 32 = .ok (.aload_n 0, 1) := by decide +kernel
theorem dX8_run_33 : decode cX8_run 33 = .ok (.getfield 15, 3) := by decide +kernel
theorem dX8_run_36 : decode cX8_run 36 = .ok (.aload_n 0, 1) := by decide +kernel
theorem dX8_run_37 : decode cX8_run 37 = .ok (.getfield 9, 3) := by decide +kernel
theorem dX8_run_40 : decode cX8_run 40 = .ok (.invokestatic 49, 3) := by decide +kernel
theorem dX8_run_43 : decode cX8_run 43 = .ok (.aload_n 0, 1) := by decide +kernel
theorem dX8_run_44 : decode cX8_run 44 = .ok (.aload_n 0, 1) := by decide +kernel
theorem dX8_run_45 : decode cX8_run 45 = .ok (.getfield 36, 3) := by decide +kernel
theorem dX8_run_48 : decode cX8_run 48 = .ok (.aload_n 0, 1) := by decide +kernel
theorem dX8_run_49 : decode cX8_run 49 = .ok (.getfield 15, 3) := by decide +kernel
theorem dX8_run_52 : decode cX8_run 52 = .ok (.invokevirtual 53, 3) := by decide +kernel
theorem dX8_run_55 : decode cX8_run 55 = .ok (.putfield 57, 3) := by decide +kernel
theorem dX8_run_58 : decode cX8_run 58 = .ok (.iconst 0, 1) := by decide +kernel
theorem dX8_run_59 : decode cX8_run 59 = .ok (.istore_n 2, 1) := by decide +kernel
theorem dX8_run_60 : decode cX8_run 60 = .ok (.iload_n 2, 1) := by decide +kernel
theorem dX8_run_61 : decode cX8_run 61 = .ok (.iload_n 1, 1) := by decide +kernel
theorem dX8_run_62 : decode cX8_run 62 = .ok (.if_icmp .ge 17, 3) := by decide +kernel
theorem dX8_run_65 : decode cX8_run 65 = .ok (.aload_n 0, 1) := by decide +kernel
theorem dX8_run_66 : decode cX8_run 66 = .ok (.invokevirtual 60, 3) := by decide +kernel
theorem dX8_run_69 : decode cX8_run 69 = .ok (.ifCond .ne 4, 3) := by decide +kernel
theorem dX8_run_72 : decode cX8_run 72 = .ok (.return_, 1) := by decide +kernel
theorem dX8_run_73 : decode cX8_run 73 = .ok (.iinc 2 1, 3) := by decide +kernel
theorem dX8_run_76 : decode cX8_run 76 = .ok (.goto (-16), 3) := by decide +kernel
theorem dX8_run_79 : decode cX8_run 79 = .ok (.return_, 1) := by decide +kernel
theorem dX8_goOn_0 : decode cX8_goOn 0 = .ok (.aload_n 0, 1) := by decide +kernel
theorem dX8_goOn_1 : decode cX8_goOn 1 = .ok (.getfield 36, 3) := by decide +kernel
theorem dX8_goOn_4 : decode cX8_goOn 4 = .ok (.aload_n 0, 1) := by decide +kernel
theorem dX8_goOn_5 : decode cX8_goOn 5 = .ok (.getfield 15, 3) := by decide +kernel
theorem dX8_goOn_8 : decode cX8_goOn 8 = .ok (.invokevirtual 53, 3) := by decide +kernel
theorem dX8_goOn_11 : decode cX8_goOn 11 = .ok (.pop, 1) := by decide +kernel
theorem dX8_goOn_12 : decode cX8_goOn 12 = .ok (.aload_n 0, 1) := by decide +kernel
theorem dX8_goOn_13 : decode cX8_goOn 13 = .ok (.getfield 36, 3) := by decide +kernel
theorem dX8_goOn_16 : decode cX8_goOn 16 = .ok (.getfield 64, 3) := by decide +kernel
theorem dX8_goOn_19 : decode cX8_goOn 19 = .ok (.aload_n 0, 1) := by decide +kernel
theorem dX8_goOn_20 : decode cX8_goOn 20 = .ok (.getfield 18, 3) := by decide +kernel
theorem dX8_goOn_23 : decode cX8_goOn 23 = .ok (.invokestatic 49, 3) := by decide +kernel
theorem dX8_goOn_26 : decode cX8_goOn 26 = .ok (.aload_n 0, 1) := by decide +kernel
theorem dX8_goOn_27 : decode cX8_goOn 27 = .ok (.iconst (-1), 1) := by decide +kernel
theorem dX8_goOn_28 : decode cX8_goOn 28 = .ok (.putfield 67, 3) := by decide +kernel
theorem dX8_goOn_31 : decode cX8_goOn 31 = .ok (.iconst 0, 1) := by decide +kernel
theorem dX8_goOn_32 : decode cX8_goOn 32 = .ok (.istore_n 1, 1) := by decide +kernel
theorem dX8_goOn_33 : decode cX8_goOn 33 = .ok (.iload_n 1, 1) := by decide +kernel
theorem dX8_goOn_34 : decode cX8_goOn 34 = .ok (.aload_n 0, 1) := by decide +kernel
theorem dX8_goOn_35 : decode cX8_goOn 35 = .ok (.getfield 32, 3) := by decide +kernel
theorem dX8_goOn_38 : decode cX8_goOn 38 = .ok (.getfield 70, 3) := by decide +kernel
theorem dX8_goOn_41 : decode cX8_goOn 41 = .ok (.if_icmp .ge 52, 3) := by decide +kernel
theorem dX8_goOn_44 : decode cX8_goOn 44 = .ok (.aload_n 0, 1) := by decide +kernel
theorem dX8_goOn_45 : decode cX8_goOn 45 = .ok (.getfield 18, 3) := by decide +kernel
theorem dX8_goOn_48 : decode cX8_goOn 48 = .ok (.iload_n 1, 1) := by decide +kernel
theorem dX8_goOn_49 : decode cX8_goOn 49 = .ok (.iaload, 1) := by decide +kernel
theorem dX8_goOn_50 : decode cX8_goOn 50 = .ok (.ifCond .eq 37, 3) := by decide +kernel
theorem dX8_goOn_53 : decode cX8_goOn 53 = .ok (.aload_n 0, 1) := by decide +kernel
theorem dX8_goOn_54 : decode cX8_goOn 54 = .ok (.getfield 15, 3) := by decide +kernel
theorem dX8_goOn_57 : decode cX8_goOn 57 = .ok (.aload_n 0, 1) := by decide +kernel
theorem dX8_goOn_58 : decode cX8_goOn 58 = .ok (.getfield 21, 3) := by decide +kernel
theorem dX8_goOn_61 : decode cX8_goOn 61 = .ok (.invokestatic 49, 3) := by decide +kernel
theorem dX8_goOn_64 : decode cX8_goOn 64 = .ok (.aload_n 0, 1) := by decide +kernel
theorem dX8_goOn_65 : decode cX8_goOn 65 = .ok (.iload_n 1, 1) := by decide +kernel
theorem dX8_goOn_66 : decode cX8_goOn 66 = .ok (.aload_n 0, 1) := by decide +kernel
theorem dX8_goOn_67 : decode cX8_goOn 67 = .ok (.getfield 18, 3) := by decide +kernel
theorem dX8_goOn_70 : decode cX8_goOn 70 = .ok (.iload_n 1, 1) := by decide +kernel
theorem dX8_goOn_71 : decode cX8_goOn 71 = .ok (.iaload, 1) := by decide +kernel
theorem dX8_goOn_72 : decode cX8_goOn 72 = .ok (.ifCond .le 7, 3) := by decide +kernel
theorem dX8_goOn_75 : decode cX8_goOn 75 = .ok (.iconst 1, 1) := by decide +kernel
theorem dX8_goOn_76 : decode cX8_goOn 76 = .ok (.goto 4, 3) := by decide +kernel
theorem dX8_goOn_79 : decode cX8_goOn 79 = .ok (.iconst (-1), 1) := by decide +kernel
theorem dX8_goOn_80 : decode cX8_goOn 80 = .ok (.invokevirtual 75, 3) := by decide +kernel
theorem dX8_goOn_83 : decode cX8_goOn 83 = .ok (.aload_n 0, 1) := by decide +kernel
theorem dX8_goOn_84 : decode cX8_goOn 84 = .ok (.invokevirtual 79, 3) := by decide +kernel
theorem dX8_goOn_87 : decode cX8_goOn 87 = .ok (.iinc 1 1, 3) := by decide +kernel
theorem dX8_goOn_90 : decode cX8_goOn 90 = .ok (.goto (-57), 3) := by decide +kernel
theorem dX8_goOn_93 : decode cX8_goOn 93 = .ok (.aload_n 0, 1) := by decide +kernel
theorem dX8_goOn_94 : decode cX8_goOn 94 = .ok (.getfield 15, 3) := by decide +kernel
theorem dX8_goOn_97 : decode cX8_goOn 97 = .ok (.aload_n 0, 1) := by decide +kernel
theorem dX8_goOn_98 : decode cX8_goOn 98 = .ok (.getfield 21, 3) := by decide +kernel
theorem dX8_goOn_101 : decode cX8_goOn 101 = .ok (.invokestatic 49, 3) := by decide +kernel
theorem dX8_goOn_104 : decode cX8_goOn 104 = .ok (.iconst 0, 1) := by decide +kernel
theorem dX8_goOn_105 : decode cX8_goOn 105 = .ok (.istore_n 1, 1) := by decide +kernel
theorem dX8_goOn_106 : decode cX8_goOn 106 = .ok (.iload_n 1, 1) := by decide +kernel
theorem dX8_goOn_107 : decode cX8_goOn 107 = .ok (.aload_n 0, 1) := by decide +kernel
theorem dX8_goOn_108 : decode cX8_goOn 108 = .ok (.getfield 32, 3) := by decide +kernel
theorem dX8_goOn_111 : decode cX8_goOn 111 = .ok (.getfield 70, 3) := by decide +kernel
theorem dX8_goOn_114 : decode cX8_goOn 114 = .ok (.if_icmp .ge 20, 3) := by decide +kernel
theorem dX8_goOn_117 : decode cX8_goOn 117 = .ok (.aload_n 0, 1) := by decide +kernel
theorem dX8_goOn_118 : decode cX8_goOn 118 = .ok (.iload_n 1, 1) := by decide +kernel
theorem dX8_goOn_119 : decode cX8_goOn 119 = .ok (.aload_n 0, 1) := by decide +kernel
theorem dX8_goOn_120 : decode cX8_goOn 120 = .ok (.getfield 18, 3) := by decide +kernel
theorem dX8_goOn_123 : decode cX8_goOn 123 = .ok (.iload_n 1, 1) := by decide +kernel
theorem dX8_goOn_124 : decode cX8_goOn 124 = .ok (.iaload, 1) := by decide +kernel
theorem dX8_goOn_125 : decode cX8_goOn 125 = .ok (.invokevirtual 75, 3) := by decide +kernel
theorem dX8_goOn_128 : decode cX8_goOn 128 = .ok (.iinc 1 1, 3) := by decide +kernel
theorem dX8_goOn_131 : decode cX8_goOn 131 = .ok (.goto (-25), 3) := by decide +kernel
theorem dX8_goOn_134 : decode cX8_goOn 134 = .ok (.aload_n 0, 1) := by decide +kernel
theorem dX8_goOn_135 : decode cX8_goOn 135 = .ok (.invokevirtual 79, 3) := by decide +kernel
theorem dX8_goOn_138 : decode cX8_goOn 138 = .ok (.aload_n 0, 1) := by decide +kernel
theorem dX8_goOn_139 : decode cX8_goOn 139 = .ok (.getfield 67, 3) := by decide +kernel
theorem dX8_goOn_142 : decode cX8_goOn 142 = .ok (.iconst (-1), 1) := by decide +kernel
theorem dX8_goOn_143 : decode cX8_goOn 143 = .ok (.if_icmp .ne 5, 3) := by decide +kernel
theorem dX8_goOn_146 : decode cX8_goOn 146 = .ok (.iconst 0, 1) := by decide +kernel
theorem dX8_goOn_147 : decode cX8_goOn 147 = .ok (.ireturn, 1) := by decide +kernel
theorem dX8_goOn_148 : decode cX8_goOn 148 = .ok (.aload_n 0, 1) := by decide +kernel
theorem dX8_goOn_149 : decode cX8_goOn 149 = .ok (.invokevirtual 82, 3) := by decide +kernel
theorem dX8_goOn_152 : decode cX8_goOn 152 = .ok (.iconst 1, 1) := by decide +kernel
theorem dX8_goOn_153 : decode cX8_goOn 153 = .ok (.ireturn, 1) := by decide +kernel
theorem dX8_change_0 : decode cX8_change 0 = .ok (.aload_n 0, 1) := by decide +kernel
theorem dX8_change_1 : decode cX8_change 1 = .ok (.getfield 15, 3) := by decide +kernel
theorem dX8_change_4 : decode cX8_change 4 = .ok (.iload_n 1, 1) := by decide +kernel
theorem dX8_change_5 : decode cX8_change 5 = .ok (.iaload, 1) := by decide +kernel
theorem dX8_change_6 : decode cX8_change 6 = .ok (.iload_n 2, 1) := by decide +kernel
theorem dX8_change_7 : decode cX8_change 7 = .ok (.aload_n 0, 1) := by decide +kernel
theorem dX8_change_8 : decode cX8_change 8 = .ok (.getfield 36, 3) := by decide +kernel
theorem dX8_change_11 : decode cX8_change 11 = .ok (.getfield 85, 3) := by decide +kernel
theorem dX8_change_14 : decode cX8_change 14 = .ok (.imul, 1) := by decide +kernel
theorem dX8_change_15 : decode cX8_change 15 = .ok (.iadd, 1) := by decide +kernel
theorem dX8_change_16 : decode cX8_change 16 = .ok (.istore_n 3, 1) := by decide +kernel
theorem dX8_change_17 : decode cX8_change 17 = .ok (.aload_n 0, 1) := by decide +kernel
theorem dX8_change_18 : decode cX8_change 18 = .ok (.getfield 21, 3) := by decide +kernel
theorem dX8_change_21 : decode cX8_change 21 = .ok (.iload_n 1, 1) := by decide +kernel
theorem dX8_change_22 : decode cX8_change 22 = .ok (.iconst 0, 1) := by decide +kernel
theorem dX8_change_23 : decode cX8_change 23 = .ok (.sipush 250, 3) := by decide +kernel
theorem dX8_change_26 : decode cX8_change 26 = .ok (.iload_n 3, 1) := by decide +kernel
theorem dX8_change_27 : decode cX8_change 27 = .ok (.invokestatic 88, 3) := by decide +kernel
theorem dX8_change_30 : decode cX8_change 30 = .ok (.invokestatic 94, 3) := by decide +kernel
theorem dX8_change_33 : decode cX8_change 33 = .ok (.iastore, 1) := by decide +kernel
theorem dX8_change_34 : decode cX8_change 34 = .ok (.return_, 1) := by decide +kernel
theorem dX8_consider_0 : decode cX8_consider 0 = .ok (.aload_n 0, 1) := by decide +kernel
theorem dX8_consider_1 : decode cX8_consider 1 = .ok (.invokevirtual 97, 3) := by decide +kernel
theorem dX8_consider_4 : decode cX8_consider 4 = .ok (.ifCond .eq 4, 3) := by decide +kernel
theorem dX8_consider_7 : decode cX8_consider 7 = .ok (.return_, 1) := by decide +kernel
theorem dX8_consider_8 : decode cX8_consider 8 = .ok (.aload_n 0, 1) := by decide +kernel
theorem dX8_consider_9 : decode cX8_consider 9 = .ok (.getfield 36, 3) := by decide +kernel
theorem dX8_consider_12 : decode cX8_consider 12 = .ok (.aload_n 0, 1) := by decide +kernel
theorem dX8_consider_13 : decode cX8_consider 13 = .ok (.getfield 21, 3) := by decide +kernel
theorem dX8_consider_16 : decode cX8_consider 16 = .ok (.invokevirtual 53, 3) := by decide +kernel
theorem dX8_consider_19 : decode cX8_consider 19 = .ok (.istore_n 1, 1) := by decide +kernel
theorem dX8_consider_20 : decode cX8_consider 20 = .ok (.aload_n 0, 1) := by decide +kernel
theorem dX8_consider_21 : decode cX8_consider 21 = .ok (.getfield 67, 3) := by decide +kernel
theorem dX8_consider_24 : decode cX8_consider 24 = .ok (.iconst (-1), 1) := by decide +kernel
theorem dX8_consider_25 : decode cX8_consider 25 = .ok (.if_icmp .eq 11, 3) := by decide +kernel
theorem dX8_consider_28 : decode cX8_consider 28 = .ok (.iload_n 1, 1) := by decide +kernel
theorem dX8_consider_29 : decode cX8_consider 29 = .ok (.aload_n 0, 1) := by decide +kernel
theorem dX8_consider_30 : decode cX8_consider 30 = .ok (.getfield 67, 3) := by decide +kernel
theorem dX8_consider_33 : decode cX8_consider 33 = .ok (.if_icmp .ge 19, 3) := by decide +kernel
theorem dX8_consider_36 : decode cX8_consider 36 = .ok (.aload_n 0, 1) := by decide +kernel
theorem dX8_consider_37 : decode cX8_consider 37 = .ok (.iload_n 1, 1) := by decide +kernel
theorem dX8_consider_38 : decode cX8_consider 38 = .ok (.putfield 67, 3) := by decide +kernel
theorem dX8_consider_41 : decode cX8_consider 41 = .ok (.aload_n 0, 1) := by decide +kernel
theorem dX8_consider_42 : decode cX8_consider 42 = .ok (.getfield 21, 3) := by decide +kernel
theorem dX8_consider_45 : decode cX8_consider 45 = .ok (.aload_n 0, 1) := by decide +kernel
theorem dX8_consider_46 : decode cX8_consider 46 = .ok (.getfield 24, 3) := by decide +kernel
theorem dX8_consider_49 : decode cX8_consider 49 = .ok (.invokestatic 49, 3) := by decide +kernel
theorem dX8_consider_52 : decode cX8_consider 52 = .ok (.return_, 1) := by decide +kernel
theorem dX8_isGone_0 : decode cX8_isGone 0 = .ok (.iconst 0, 1) := by decide +kernel
theorem dX8_isGone_1 : decode cX8_isGone 1 = .ok (.istore_n 1, 1) := by decide +kernel
theorem dX8_isGone_2 : decode cX8_isGone 2 = .ok (.iload_n 1, 1) := by decide +kernel
theorem dX8_isGone_3 : decode cX8_isGone 3 = .ok (.bipush 8, 2) := by decide +kernel
theorem dX8_isGone_5 : decode cX8_isGone 5 = .ok (.if_icmp .ge 32, 3) := by decide +kernel
theorem dX8_isGone_8 : decode cX8_isGone 8 = .ok (.iload_n 1, 1) := by decide +kernel
theorem dX8_isGone_9 : decode cX8_isGone 9 = .ok (.aload_n 0, 1) := by decide +kernel
theorem dX8_isGone_10 : decode cX8_isGone 10 = .ok (.getfield 40, 3) := by decide +kernel
theorem dX8_isGone_13 : decode cX8_isGone 13 = .ok (.if_icmp .gt 24, 3) := by decide +kernel
theorem dX8_isGone_16 : decode cX8_isGone 16 = .ok (.aload_n 0, 1) := by decide +kernel
theorem dX8_isGone_17 : decode cX8_isGone 17 = .ok (.aload_n 0, 1) := by decide +kernel
theorem dX8_isGone_18 : decode cX8_isGone 18 = .ok (.getfield 29, 3) := by decide +kernel
theorem dX8_isGone_21 : decode cX8_isGone 21 = .ok (.iload_n 1, 1) := by decide +kernel
theorem dX8_isGone_22 : decode cX8_isGone 22 = .ok (.aaload, 1) := by decide +kernel
theorem dX8_isGone_23 : decode cX8_isGone 23 = .ok (.invokevirtual 100, 3) := by decide +kernel
theorem dX8_isGone_26 : decode cX8_isGone 26 = .ok (.ifCond .eq 5, 3) := by decide +kernel
theorem dX8_isGone_29 : decode cX8_isGone 29 = .ok (.iconst 1, 1) := by decide +kernel
theorem dX8_isGone_30 : decode cX8_isGone 30 = .ok (.ireturn, 1) := by decide +kernel
theorem dX8_isGone_31 : decode cX8_isGone 31 = .ok (.iinc 1 1, 3) := by decide +kernel
theorem dX8_isGone_34 : decode cX8_isGone 34 = .ok (.goto (-32), 3) := by decide +kernel
theorem dX8_isGone_37 : decode cX8_isGone 37 = .ok (.iconst 0, 1) := by decide +kernel
theorem dX8_isGone_38 : decode cX8_isGone 38 = .ok (.ireturn, 1) := by decide +kernel
theorem dX8_isTrial_0 : decode cX8_isTrial 0 = .ok (.iconst 0, 1) := by decide +kernel
theorem dX8_isTrial_1 : decode cX8_isTrial 1 = .ok (.istore_n 2, 1) := by decide +kernel
theorem dX8_isTrial_2 : decode cX8_isTrial 2 = .ok (.iload_n 2, 1) := by decide +kernel
theorem dX8_isTrial_3 : decode cX8_isTrial 3 = .ok (.aload_n 0, 1) := by decide +kernel
theorem dX8_isTrial_4 : decode cX8_isTrial 4 = .ok (.getfield 32, 3) := by decide +kernel
theorem dX8_isTrial_7 : decode cX8_isTrial 7 = .ok (.getfield 70, 3) := by decide +kernel
theorem dX8_isTrial_10 : decode cX8_isTrial 10 = .ok (.if_icmp .ge 23, 3) := by decide +kernel
theorem dX8_isTrial_13 : decode cX8_isTrial 13 = .ok (.aload_n 1, 1) := by decide +kernel
theorem dX8_isTrial_14 : decode cX8_isTrial 14 = .ok (.iload_n 2, 1) := by decide +kernel
theorem dX8_isTrial_15 : decode cX8_isTrial 15 = .ok (.iaload, 1) := by decide +kernel
theorem dX8_isTrial_16 : decode cX8_isTrial 16 = .ok (.aload_n 0, 1) := by decide +kernel
theorem dX8_isTrial_17 : decode cX8_isTrial 17 = .ok (.getfield 21, 3) := by decide +kernel
theorem dX8_isTrial_20 : decode cX8_isTrial 20 = .ok (.iload_n 2, 1) := by decide +kernel
theorem dX8_isTrial_21 : decode cX8_isTrial 21 = .ok (.iaload, 1) := by decide +kernel
theorem dX8_isTrial_22 : decode cX8_isTrial 22 = .ok (.if_icmp .eq 5, 3) := by decide +kernel
theorem dX8_isTrial_25 : decode cX8_isTrial 25 = .ok (.iconst 0, 1) := by decide +kernel
theorem dX8_isTrial_26 : decode cX8_isTrial 26 = .ok (.ireturn, 1) := by decide +kernel
theorem dX8_isTrial_27 : decode cX8_isTrial 27 = .ok (.iinc 2 1, 3) := by decide +kernel
theorem dX8_isTrial_30 : decode cX8_isTrial 30 = .ok (.goto (-28), 3) := by decide +kernel
theorem dX8_isTrial_33 : decode cX8_isTrial 33 = .ok (.iconst 1, 1) := by decide +kernel
theorem dX8_isTrial_34 : decode cX8_isTrial 34 = .ok (.ireturn, 1) := by decide +kernel
theorem dX8_goToChosen_0 : decode cX8_goToChosen 0 = .ok (.aload_n 0, 1) := by decide +kernel
theorem dX8_goToChosen_1 : decode cX8_goToChosen 1 = .ok (.dup, 1) := by decide +kernel
theorem dX8_goToChosen_2 : decode cX8_goToChosen 2 = .ok (.getfield 40, 3) := by decide +kernel
theorem dX8_goToChosen_5 : decode cX8_goToChosen 5 = .ok (.iconst 1, 1) := by decide +kernel
theorem dX8_goToChosen_6 : decode cX8_goToChosen 6 = .ok (.iadd, 1) := by decide +kernel
theorem dX8_goToChosen_7 : decode cX8_goToChosen 7 = .ok (.putfield 40, 3) := by decide +kernel
theorem dX8_goToChosen_10 : decode cX8_goToChosen 10 = .ok (.aload_n 0, 1) := by decide +kernel
theorem dX8_goToChosen_11 : decode cX8_goToChosen 11 = .ok (.getfield 24, 3) := by decide +kernel
theorem dX8_goToChosen_14 : decode cX8_goToChosen 14 = .ok (.aload_n 0, 1) := by decide +kernel
theorem dX8_goToChosen_15 : decode cX8_goToChosen 15 = .ok (.getfield 15, 3) := by decide +kernel
theorem dX8_goToChosen_18 : decode cX8_goToChosen 18 = .ok (.invokestatic 49, 3) := by decide +kernel
theorem dX8_goToChosen_21 : decode cX8_goToChosen 21 = .ok (.aload_n 0, 1) := by decide +kernel
theorem dX8_goToChosen_22 : decode cX8_goToChosen 22 = .ok (.getfield 24, 3) := by decide +kernel
theorem dX8_goToChosen_25 : decode cX8_goToChosen 25 = .ok (.aload_n 0, 1) := by decide +kernel
theorem dX8_goToChosen_26 : decode cX8_goToChosen 26 = .ok (.getfield 29, 3) := by decide +kernel
theorem dX8_goToChosen_29 : decode cX8_goToChosen 29 = .ok (.aload_n 0, 1) := by decide +kernel
theorem dX8_goToChosen_30 : decode cX8_goToChosen 30 = .ok (.getfield 40, 3) := by decide +kernel
theorem dX8_goToChosen_33 : decode cX8_goToChosen 33 = .ok (.bipush 8, 2) := by decide +kernel
theorem dX8_goToChosen_35 : decode cX8_goToChosen 35 = .ok (.irem, 1) := by decide +kernel
theorem dX8_goToChosen_36 : decode cX8_goToChosen 36 = .ok (.aaload, 1) := by decide +kernel
theorem dX8_goToChosen_37 : decode cX8_goToChosen 37 = .ok (.invokestatic 49, 3) := by decide +kernel
theorem dX8_goToChosen_40 : decode cX8_goToChosen 40 = .ok (.aload_n 0, 1) := by decide +kernel
theorem dX8_goToChosen_41 : decode cX8_goToChosen 41 = .ok (.getfield 67, 3) := by decide +kernel
theorem dX8_goToChosen_44 : decode cX8_goToChosen 44 = .ok (.aload_n 0, 1) := by decide +kernel
theorem dX8_goToChosen_45 : decode cX8_goToChosen 45 = .ok (.getfield 57, 3) := by decide +kernel
theorem dX8_goToChosen_48 : decode cX8_goToChosen 48 = .ok (.if_icmp .ge 22, 3) := by decide +kernel
theorem dX8_goToChosen_51 : decode cX8_goToChosen 51 = .ok (.aload_n 0, 1) := by decide +kernel
theorem dX8_goToChosen_52 : decode cX8_goToChosen 52 = .ok (.aload_n 0, 1) := by decide +kernel
theorem dX8_goToChosen_53 : decode cX8_goToChosen 53 = .ok (.getfield 67, 3) := by decide +kernel
theorem dX8_goToChosen_56 : decode cX8_goToChosen 56 = .ok (.putfield 57, 3) := by decide +kernel
theorem dX8_goToChosen_59 : decode cX8_goToChosen 59 = .ok (.aload_n 0, 1) := by decide +kernel
theorem dX8_goToChosen_60 : decode cX8_goToChosen 60 = .ok (.getfield 24, 3) := by decide +kernel
theorem dX8_goToChosen_63 : decode cX8_goToChosen 63 = .ok (.aload_n 0, 1) := by decide +kernel
theorem dX8_goToChosen_64 : decode cX8_goToChosen 64 = .ok (.getfield 9, 3) := by decide +kernel
theorem dX8_goToChosen_67 : decode cX8_goToChosen 67 = .ok (.invokestatic 49, 3) := by decide +kernel
theorem dX8_goToChosen_70 : decode cX8_goToChosen 70 = .ok (.return_, 1) := by decide +kernel
theorem dX8_leastSquare_0 : decode cX8_leastSquare 0 = .ok (.bipush 20, 2) := by decide +kernel
theorem dX8_leastSquare_2 : decode cX8_leastSquare 2 = .ok (.sipush 250, 3) := by decide +kernel
theorem dX8_leastSquare_5 : decode cX8_leastSquare 5 = .ok (.iconst 1, 1) := by decide +kernel
theorem dX8_leastSquare_6 : decode cX8_leastSquare 6 = .ok (.iload_n 1, 1) := by decide +kernel
theorem dX8_leastSquare_7 : decode cX8_leastSquare 7 = .ok (.invokestatic 94, 3) := by decide +kernel
theorem dX8_leastSquare_10 : decode cX8_leastSquare 10 = .ok (.idiv, 1) := by decide +kernel
theorem dX8_leastSquare_11 : decode cX8_leastSquare 11 = .ok (.iconst 1, 1) := by decide +kernel
theorem dX8_leastSquare_12 : decode cX8_leastSquare 12 = .ok (.iadd, 1) := by decide +kernel
theorem dX8_leastSquare_13 : decode cX8_leastSquare 13 = .ok (.invokestatic 88, 3) := by decide +kernel
theorem dX8_leastSquare_16 : decode cX8_leastSquare 16 = .ok (.istore_n 2, 1) := by decide +kernel
theorem dX8_leastSquare_17 : decode cX8_leastSquare 17 = .ok (.iconst 1, 1) := by decide +kernel
theorem dX8_leastSquare_18 : decode cX8_leastSquare 18 = .ok (.istore_n 3, 1) := by decide +kernel
theorem dX8_leastSquare_19 : decode cX8_leastSquare 19 = .ok (.iconst 0, 1) := by decide +kernel
theorem dX8_leastSquare_20 : decode cX8_leastSquare 20 = .ok (.istore 4, 2) := by decide +kernel
theorem dX8_leastSquare_22 : decode cX8_leastSquare 22 = .ok (.iload 4, 2) := by decide +kernel
theorem dX8_leastSquare_24 : decode cX8_leastSquare 24 = .ok (.aload_n 0, 1) := by decide +kernel
theorem dX8_leastSquare_25 : decode cX8_leastSquare 25 = .ok (.getfield 32, 3) := by decide +kernel
theorem dX8_leastSquare_28 : decode cX8_leastSquare 28 = .ok (.getfield 70, 3) := by decide +kernel
theorem dX8_leastSquare_31 : decode cX8_leastSquare 31 = .ok (.if_icmp .ge 13, 3) := by decide +kernel
theorem dX8_leastSquare_34 : decode cX8_leastSquare 34 = .ok (.iload_n 3, 1) := by decide +kernel
theorem dX8_leastSquare_35 : decode cX8_leastSquare 35 = .ok (.iload_n 2, 1) := by decide +kernel
theorem dX8_leastSquare_36 : decode cX8_leastSquare 36 = .ok (.imul, 1) := by decide +kernel
theorem dX8_leastSquare_37 : decode cX8_leastSquare 37 = .ok (.istore_n 3, 1) := by decide +kernel
theorem dX8_leastSquare_38 : decode cX8_leastSquare 38 = .ok (.iinc 4 1, 3) := by decide +kernel
theorem dX8_leastSquare_41 : decode cX8_leastSquare 41 = .ok (.goto (-19), 3) := by decide +kernel
theorem dX8_leastSquare_44 : decode cX8_leastSquare 44 = .ok (.iconst (-1), 1) := by decide +kernel
theorem dX8_leastSquare_45 : decode cX8_leastSquare 45 = .ok (.istore 4, 2) := by decide +kernel
theorem dX8_leastSquare_47 : decode cX8_leastSquare 47 = .ok (.iconst 0, 1) := by decide +kernel
theorem dX8_leastSquare_48 : decode cX8_leastSquare 48 = .ok (.istore 5, 2) := by decide +kernel
theorem dX8_leastSquare_50 : decode cX8_leastSquare 50 = .ok (.iload 5, 2) := by decide +kernel
theorem dX8_leastSquare_52 : decode cX8_leastSquare 52 = .ok (.iload_n 3, 1) := by decide +kernel
theorem dX8_leastSquare_53 : decode cX8_leastSquare 53 = .ok (.if_icmp .ge 83, 3) := by decide +kernel
theorem dX8_leastSquare_56 : decode cX8_leastSquare 56 = .ok (.iload 5, 2) := by decide +kernel
theorem dX8_leastSquare_58 : decode cX8_leastSquare 58 = .ok (.istore 6, 2) := by decide +kernel
theorem dX8_leastSquare_60 : decode cX8_leastSquare 60 = .ok (.iconst 0, 1) := by decide +kernel
theorem dX8_leastSquare_61 : decode cX8_leastSquare 61 = .ok (.istore 7, 2) := by decide +kernel
theorem dX8_leastSquare_63 : decode cX8_leastSquare 63 = .ok (.iload 7, 2) := by decide +kernel
theorem dX8_leastSquare_65 : decode cX8_leastSquare 65 = .ok (.aload_n 0, 1) := by decide +kernel
theorem dX8_leastSquare_66 : decode cX8_leastSquare 66 = .ok (.getfield 32, 3) := by decide +kernel
theorem dX8_leastSquare_69 : decode cX8_leastSquare 69 = .ok (.getfield 70, 3) := by decide +kernel
theorem dX8_leastSquare_72 : decode cX8_leastSquare 72 = .ok (.if_icmp .ge 28, 3) := by decide +kernel
theorem dX8_leastSquare_75 : decode cX8_leastSquare 75 = .ok (.aload_n 0, 1) := by decide +kernel
theorem dX8_leastSquare_76 : decode cX8_leastSquare 76 = .ok (.getfield 21, 3) := by decide +kernel
theorem dX8_leastSquare_79 : decode cX8_leastSquare 79 = .ok (.iload 7, 2) := by decide +kernel
theorem dX8_leastSquare_81 : decode cX8_leastSquare 81 = .ok (.iload 6, 2) := by decide +kernel
theorem dX8_leastSquare_83 : decode cX8_leastSquare 83 = .ok (.iload_n 2, 1) := by decide +kernel
theorem dX8_leastSquare_84 : decode cX8_leastSquare 84 = .ok (.irem, 1) := by decide +kernel
theorem dX8_leastSquare_85 : decode cX8_leastSquare 85 = .ok (.iload_n 1, 1) := by decide +kernel
theorem dX8_leastSquare_86 : decode cX8_leastSquare 86 = .ok (.imul, 1) := by decide +kernel
theorem dX8_leastSquare_87 : decode cX8_leastSquare 87 = .ok (.iastore, 1) := by decide +kernel
theorem dX8_leastSquare_88 : decode cX8_leastSquare 88 = .ok (.iload 6, 2) := by decide +kernel
theorem dX8_leastSquare_90 : decode cX8_leastSquare 90 = .ok (.iload_n 2, 1) := by decide +kernel
theorem dX8_leastSquare_91 : decode cX8_leastSquare 91 = .ok (.idiv, 1) := by decide +kernel
theorem dX8_leastSquare_92 : decode cX8_leastSquare 92 = .ok (.istore 6, 2) := by decide +kernel
theorem dX8_leastSquare_94 : decode cX8_leastSquare 94 = .ok (.iinc 7 1, 3) := by decide +kernel
theorem dX8_leastSquare_97 : decode cX8_leastSquare 97 = .ok (.goto (-34), 3) := by decide +kernel
theorem dX8_leastSquare_100 : decode cX8_leastSquare 100 = .ok (.aload_n 0, 1) := by decide +kernel
theorem dX8_leastSquare_101 : decode cX8_leastSquare 101 = .ok (.getfield 36, 3) := by decide +kernel
theorem dX8_leastSquare_104 : decode cX8_leastSquare 104 = .ok (.aload_n 0, 1) := by decide +kernel
theorem dX8_leastSquare_105 : decode cX8_leastSquare 105 = .ok (.getfield 21, 3) := by decide +kernel
theorem dX8_leastSquare_108 : decode cX8_leastSquare 108 = .ok (.invokevirtual 53, 3) := by decide +kernel
theorem dX8_leastSquare_111 : decode cX8_leastSquare 111 = .ok (.istore 7, 2) := by decide +kernel
theorem dX8_leastSquare_113 : decode cX8_leastSquare 113 = .ok (.iload 4, 2) := by decide +kernel
theorem dX8_leastSquare_115 : decode cX8_leastSquare 115 = .ok (.iconst (-1), 1) := by decide +kernel
theorem dX8_leastSquare_116 : decode cX8_leastSquare 116 = .ok (.if_icmp .eq 10, 3) := by decide +kernel
theorem dX8_leastSquare_119 : decode cX8_leastSquare 119 = .ok (.iload 7, 2) := by decide +kernel
theorem dX8_leastSquare_121 : decode cX8_leastSquare 121 = .ok (.iload 4, 2) := by decide +kernel
theorem dX8_leastSquare_123 : decode cX8_leastSquare 123 = .ok (.if_icmp .ge 7, 3) := by decide +kernel
theorem dX8_leastSquare_126 : decode cX8_leastSquare 126 = .ok (.iload 7, 2) := by decide +kernel
theorem dX8_leastSquare_128 : decode cX8_leastSquare 128 = .ok (.istore 4, 2) := by decide +kernel
theorem dX8_leastSquare_130 : decode cX8_leastSquare 130 = .ok (.iinc 5 1, 3) := by decide +kernel
theorem dX8_leastSquare_133 : decode cX8_leastSquare 133 = .ok (.goto (-83), 3) := by decide +kernel
theorem dX8_leastSquare_136 : decode cX8_leastSquare 136 = .ok (.iload 4, 2) := by decide +kernel
theorem dX8_leastSquare_138 : decode cX8_leastSquare 138 = .ok (.ireturn, 1) := by decide +kernel
theorem dX8_edgeOf_0 : decode cX8_edgeOf 0 = .ok (.aload_n 0, 1) := by decide +kernel
theorem dX8_edgeOf_1 : decode cX8_edgeOf 1 = .ok (.getfield 36, 3) := by decide +kernel
theorem dX8_edgeOf_4 : decode cX8_edgeOf 4 = .ok (.getfield 44, 3) := by decide +kernel
theorem dX8_edgeOf_7 : decode cX8_edgeOf 7 = .ok (.aload_n 0, 1) := by decide +kernel
theorem dX8_edgeOf_8 : decode cX8_edgeOf 8 = .ok (.getfield 21, 3) := by decide +kernel
theorem dX8_edgeOf_11 : decode cX8_edgeOf 11 = .ok (.invokestatic 49, 3) := by decide +kernel
theorem dX8_edgeOf_14 : decode cX8_edgeOf 14 = .ok (.iconst 0, 1) := by decide +kernel
theorem dX8_edgeOf_15 : decode cX8_edgeOf 15 = .ok (.istore_n 3, 1) := by decide +kernel
theorem dX8_edgeOf_16 : decode cX8_edgeOf 16 = .ok (.iload_n 3, 1) := by decide +kernel
theorem dX8_edgeOf_17 : decode cX8_edgeOf 17 = .ok (.sipush 250, 3) := by decide +kernel
theorem dX8_edgeOf_20 : decode cX8_edgeOf 20 = .ok (.if_icmp .gt 49, 3) := by decide +kernel
theorem dX8_edgeOf_23 : decode cX8_edgeOf 23 = .ok (.aload_n 0, 1) := by decide +kernel
theorem dX8_edgeOf_24 : decode cX8_edgeOf 24 = .ok (.getfield 21, 3) := by decide +kernel
theorem dX8_edgeOf_27 : decode cX8_edgeOf 27 = .ok (.iload_n 2, 1) := by decide +kernel
theorem dX8_edgeOf_28 : decode cX8_edgeOf 28 = .ok (.iload_n 3, 1) := by decide +kernel
theorem dX8_edgeOf_29 : decode cX8_edgeOf 29 = .ok (.iastore, 1) := by decide +kernel
theorem dX8_edgeOf_30 : decode cX8_edgeOf 30 = .ok (.aload_n 0, 1) := by decide +kernel
theorem dX8_edgeOf_31 : decode cX8_edgeOf 31 = .ok (.getfield 36, 3) := by decide +kernel
theorem dX8_edgeOf_34 : decode cX8_edgeOf 34 = .ok (.aload_n 0, 1) := by decide +kernel
theorem dX8_edgeOf_35 : decode cX8_edgeOf 35 = .ok (.getfield 21, 3) := by decide +kernel
theorem dX8_edgeOf_38 : decode cX8_edgeOf 38 = .ok (.invokevirtual 104, 3) := by decide +kernel
theorem dX8_edgeOf_41 : decode cX8_edgeOf 41 = .ok (.aload_n 1, 1) := by decide +kernel
theorem dX8_edgeOf_42 : decode cX8_edgeOf 42 = .ok (.aload_n 0, 1) := by decide +kernel
theorem dX8_edgeOf_43 : decode cX8_edgeOf 43 = .ok (.getfield 36, 3) := by decide +kernel
theorem dX8_edgeOf_46 : decode cX8_edgeOf 46 = .ok (.aload_n 1, 1) := by decide +kernel
theorem dX8_edgeOf_47 : decode cX8_edgeOf 47 = .ok (.iconst 0, 1) := by decide +kernel
theorem dX8_edgeOf_48 : decode cX8_edgeOf 48 = .ok (.invokevirtual 108, 3) := by decide +kernel
theorem dX8_edgeOf_51 : decode cX8_edgeOf 51 = .ok (.invokevirtual 112, 3) := by decide +kernel
theorem dX8_edgeOf_54 : decode cX8_edgeOf 54 = .ok (.iload_n 2, 1) := by decide +kernel
theorem dX8_edgeOf_55 : decode cX8_edgeOf 55 = .ok (.invokestatic 118, 3) := by decide +kernel
theorem dX8_edgeOf_58 : decode cX8_edgeOf 58 = .ok (.ifCond .ne 5, 3) := by decide +kernel
theorem dX8_edgeOf_61 : decode cX8_edgeOf 61 = .ok (.iload_n 3, 1) := by decide +kernel
theorem dX8_edgeOf_62 : decode cX8_edgeOf 62 = .ok (.ireturn, 1) := by decide +kernel
theorem dX8_edgeOf_63 : decode cX8_edgeOf 63 = .ok (.iinc 3 1, 3) := by decide +kernel
theorem dX8_edgeOf_66 : decode cX8_edgeOf 66 = .ok (.goto (-50), 3) := by decide +kernel
theorem dX8_edgeOf_69 : decode cX8_edgeOf 69 = .ok (.iconst (-1), 1) := by decide +kernel
theorem dX8_edgeOf_70 : decode cX8_edgeOf 70 = .ok (.ireturn, 1) := by decide +kernel
theorem dX8_copy_0 : decode cX8_copy 0 = .ok (.aload_n 0, 1) := by decide +kernel
theorem dX8_copy_1 : decode cX8_copy 1 = .ok (.iconst 0, 1) := by decide +kernel
theorem dX8_copy_2 : decode cX8_copy 2 = .ok (.aload_n 1, 1) := by decide +kernel
theorem dX8_copy_3 : decode cX8_copy 3 = .ok (.iconst 0, 1) := by decide +kernel
theorem dX8_copy_4 : decode cX8_copy 4 = .ok (.bipush 10, 2) := by decide +kernel
theorem dX8_copy_6 : decode cX8_copy 6 = .ok (.invokestatic 122, 3) := by decide +kernel
theorem dX8_copy_9 : decode cX8_copy 9 = .ok (.return_, 1) := by decide +kernel
theorem dX9_init_0 : decode cX9_init 0 = .ok (.aload_n 0, 1) := by decide +kernel
theorem dX9_init_1 : decode cX9_init 1 = .ok (.invokespecial 3, 3) := by decide +kernel
theorem dX9_init_4 : decode cX9_init 4 = .ok (.aload_n 0, 1) := by decide +kernel
theorem dX9_init_5 : decode cX9_init 5 = .ok (.sipush 400, 3) := by decide +kernel
theorem dX9_init_8 : decode cX9_init 8 = .ok (.newarray .int, 2) := by decide +kernel
theorem dX9_init_10 : decode cX9_init 10 = .ok (.putfield 9, 3) := by decide +kernel
theorem dX9_init_13 : decode cX9_init 13 = .ok (.aload_n 0, 1) := by decide +kernel
theorem dX9_init_14 : decode cX9_init 14 = .ok (.sipush 401, 3) := by decide +kernel
theorem dX9_init_17 : decode cX9_init 17 = .ok (.newarray .int, 2) := by decide +kernel
theorem dX9_init_19 : decode cX9_init 19 = .ok (.putfield 15, 3) := by decide +kernel
theorem dX9_init_22 : decode cX9_init 22 = .ok (.aload_n 0, 1) := by decide +kernel
theorem dX9_init_23 : decode cX9_init 23 = .ok (.sipush 401, 3) := by decide +kernel
theorem dX9_init_26 : decode cX9_init 26 = .ok (.newarray .int, 2) := by decide +kernel
theorem dX9_init_28 : decode cX9_init 28 = .ok (.putfield 18, 3) := by decide +kernel
theorem dX9_init_31 : decode cX9_init 31 = .ok (.aload_n 0, 1) := by decide +kernel
theorem dX9_init_32 : decode cX9_init 32 = .ok (.sipush 401, 3) := by decide +kernel
theorem dX9_init_35 : decode cX9_init 35 = .ok (.newarray .int, 2) := by decide +kernel
theorem dX9_init_37 : decode cX9_init 37 = .ok (.putfield 21, 3) := by decide +kernel
theorem dX9_init_40 : decode cX9_init 40 = .ok (.return_, 1) := by decide +kernel
theorem dX9_put_0 : decode cX9_put 0 = .ok (.bipush 24, 2) := by decide +kernel
theorem dX9_put_2 : decode cX9_put 2 = .ok (.istore_n 2, 1) := by decide +kernel
theorem dX9_put_3 : decode cX9_put 3 = .ok (.iload_n 2, 1) := by decide +kernel
theorem dX9_put_4 : decode cX9_put 4 = .ok (.ifCond .lt 45, 3) := by decide +kernel
theorem dX9_put_7 : decode cX9_put 7 = .ok (.aload_n 0, 1) := by decide +kernel
theorem dX9_put_8 : decode cX9_put 8 = .ok (.getfield 24, 3) := by decide +kernel
theorem dX9_put_11 : decode cX9_put 11 = .ok (.sipush 400, 3) := by decide +kernel
theorem dX9_put_14 : decode cX9_put 14 = .ok (.if_icmp .ge 29, 3) := by decide +kernel
theorem dX9_put_17 : decode cX9_put 17 = .ok (.aload_n 0, 1) := by decide +kernel
theorem dX9_put_18 : decode cX9_put 18 = .ok (.getfield 9, 3) := by decide +kernel
theorem dX9_put_21 : decode cX9_put 21 = .ok (.aload_n 0, 1) := by decide +kernel
theorem dX9_put_22 : decode cX9_put 22 = .ok (.getfield 24, 3) := by decide +kernel
theorem dX9_put_25 : decode cX9_put 25 = .ok (.iload_n 1, 1) := by decide +kernel
theorem dX9_put_26 : decode cX9_put 26 = .ok (.iload_n 2, 1) := by decide +kernel
theorem dX9_put_27 : decode cX9_put 27 = .ok (.ishr, 1) := by decide +kernel
theorem dX9_put_28 : decode cX9_put 28 = .ok (.sipush 255, 3) := by decide +kernel
theorem dX9_put_31 : decode cX9_put 31 = .ok (.iand, 1) := by decide +kernel
theorem dX9_put_32 : decode cX9_put 32 = .ok (.iastore, 1) := by decide +kernel
theorem dX9_put_33 : decode cX9_put 33 = .ok (.aload_n 0, 1) := by decide +kernel
theorem dX9_put_34 : decode cX9_put 34 = .ok (.dup, 1) := by decide +kernel
theorem dX9_put_35 : decode cX9_put 35 = .ok (.getfield 24, 3) := by decide +kernel
theorem dX9_put_38 : decode cX9_put 38 = .ok (.iconst 1, 1) := by decide +kernel
theorem dX9_put_39 : decode cX9_put 39 = .ok (.iadd, 1) := by decide +kernel
theorem dX9_put_40 : decode cX9_put 40 = .ok (.putfield 24, 3) := by decide +kernel
theorem dX9_put_43 : decode cX9_put 43 = .ok (.iinc 2 (-8), 3) := by decide +kernel
theorem dX9_put_46 : decode cX9_put 46 = .ok (.goto (-43), 3) := by decide +kernel
theorem dX9_put_49 : decode cX9_put 49 = .ok (.return_, 1) := by decide +kernel
theorem dX9_cut_0 : decode cX9_cut 0 = .ok (.aload_n 0, 1) := by decide +kernel
theorem dX9_cut_1 : decode cX9_cut 1 = .ok (.iconst 0, 1) := by decide +kernel
theorem dX9_cut_2 : decode cX9_cut 2 = .ok (.putfield 28, 3) := by decide +kernel
theorem dX9_cut_5 : decode cX9_cut 5 = .ok (.iload_n 1, 1) := by decide +kernel
theorem dX9_cut_6 : decode cX9_cut 6 = .ok (.aload_n 0, 1) := by decide +kernel
theorem dX9_cut_7 : decode cX9_cut 7 = .ok (.getfield 24, 3) := by decide +kernel
theorem dX9_cut_10 : decode cX9_cut 10 = .ok (.invokestatic 31, 3) := by decide +kernel
theorem dX9_cut_13 : decode cX9_cut 13 = .ok (.istore_n 2, 1) := by decide +kernel
theorem dX9_cut_14 : decode cX9_cut 14 = .ok (.iconst 0, 1) := by decide +kernel
theorem dX9_cut_15 : decode cX9_cut 15 = .ok (.istore_n 3, 1) := by decide +kernel
theorem dX9_cut_16 : decode cX9_cut 16 = .ok (.iload_n 3, 1) := by decide +kernel
theorem dX9_cut_17 : decode cX9_cut 17 = .ok (.iload_n 2, 1) := by decide +kernel
theorem dX9_cut_18 : decode cX9_cut 18 = .ok (.if_icmp .ge 191, 3) := by decide +kernel
theorem dX9_cut_21 : decode cX9_cut 21 = .ok (.iload_n 3, 1) := by decide +kernel
theorem dX9_cut_22 : decode cX9_cut 22 = .ok (.iconst 1, 1) := by decide +kernel
theorem dX9_cut_23 : decode cX9_cut 23 = .ok (.iadd, 1) := by decide +kernel
theorem dX9_cut_24 : decode cX9_cut 24 = .ok (.istore 4, 2) := by decide +kernel
theorem dX9_cut_26 : decode cX9_cut 26 = .ok (.aload_n 0, 1) := by decide +kernel
theorem dX9_cut_27 : decode cX9_cut 27 = .ok (.getfield 9, 3) := by decide +kernel
theorem dX9_cut_30 : decode cX9_cut 30 = .ok (.iload_n 3, 1) := by decide +kernel
theorem dX9_cut_31 : decode cX9_cut 31 = .ok (.iaload, 1) := by decide +kernel
theorem dX9_cut_32 : decode cX9_cut 32 = .ok (.invokestatic 37, 3) := by decide +kernel
theorem dX9_cut_35 : decode cX9_cut 35 = .ok (.ifCond .eq 44, 3) := by decide +kernel
theorem dX9_cut_38 : decode cX9_cut 38 = .ok (.iload 4, 2) := by decide +kernel
theorem dX9_cut_40 : decode cX9_cut 40 = .ok (.iload_n 2, 1) := by decide +kernel
theorem dX9_cut_41 : decode cX9_cut 41 = .ok (.if_icmp .ge 22, 3) := by decide +kernel
theorem dX9_cut_44 : decode cX9_cut 44 = .ok (.aload_n 0, 1) := by decide +kernel
theorem dX9_cut_45 : decode cX9_cut 45 = .ok (.getfield 9, 3) := by decide +kernel
theorem dX9_cut_48 : decode cX9_cut 48 = .ok (.iload 4, 2) := by decide +kernel
theorem dX9_cut_50 : decode cX9_cut 50 = .ok (.iaload, 1) := by decide +kernel
theorem dX9_cut_51 : decode cX9_cut 51 = .ok (.invokestatic 37, 3) := by decide +kernel
theorem dX9_cut_54 : decode cX9_cut 54 = .ok (.ifCond .eq 9, 3) := by decide +kernel
theorem dX9_cut_57 : decode cX9_cut 57 = .ok (.iinc 4 1, 3) := by decide +kernel
theorem dX9_cut_60 : decode cX9_cut 60 = .ok (.goto (-22), 3) := by decide +kernel
theorem dX9_cut_63 : decode cX9_cut 63 = .ok (.aload_n 0, 1) := by decide +kernel
theorem dX9_cut_64 : decode cX9_cut 64 = .ok (.aload_n 0, 1) := by decide +kernel
theorem dX9_cut_65 : decode cX9_cut 65 = .ok (.iload_n 3, 1) := by decide +kernel
theorem dX9_cut_66 : decode cX9_cut 66 = .ok (.iload 4, 2) := by decide +kernel
theorem dX9_cut_68 : decode cX9_cut 68 = .ok (.invokevirtual 41, 3) := by decide +kernel
theorem dX9_cut_71 : decode cX9_cut 71 = .ok (.iload_n 3, 1) := by decide +kernel
theorem dX9_cut_72 : decode cX9_cut 72 = .ok (.iconst 0, 1) := by decide +kernel
theorem dX9_cut_73 : decode cX9_cut 73 = .ok (.invokevirtual 44, 3) := by decide +kernel
theorem dX9_cut_76 : decode cX9_cut 76 = .ok (.goto 127, 3) := by decide +kernel
theorem dX9_cut_79 : decode cX9_cut 79 = .ok (.aload_n 0, 1) := by decide +kernel
theorem dX9_cut_80 : decode cX9_cut 80 = .ok (.getfield 9, 3) := by decide +kernel
theorem dX9_cut_83 : decode cX9_cut 83 = .ok (.iload_n 3, 1) := by decide +kernel
theorem dX9_cut_84 : decode cX9_cut 84 = .ok (.iaload, 1) := by decide +kernel
theorem dX9_cut_85 : decode cX9_cut 85 = .ok (.invokestatic 48, 3) := by decide +kernel
theorem dX9_cut_88 : decode cX9_cut 88 = .ok (.ifCond .eq 60, 3) := by decide +kernel
theorem dX9_cut_91 : decode cX9_cut 91 = .ok (.iload 4, 2) := by decide +kernel
theorem dX9_cut_93 : decode cX9_cut 93 = .ok (.iload_n 2, 1) := by decide +kernel
theorem dX9_cut_94 : decode cX9_cut 94 = .ok (.if_icmp .ge 22, 3) := by decide +kernel
theorem dX9_cut_97 : decode cX9_cut 97 = .ok (.aload_n 0, 1) := by decide +kernel
theorem dX9_cut_98 : decode cX9_cut 98 = .ok (.getfield 9, 3) := by decide +kernel
theorem dX9_cut_101 : decode cX9_cut 101 = .ok (.iload 4, 2) := by decide +kernel
theorem dX9_cut_103 : decode cX9_cut 103 = .ok (.iaload, 1) := by decide +kernel
theorem dX9_cut_104 : decode cX9_cut 104 = .ok (.invokestatic 48, 3) := by decide +kernel
theorem dX9_cut_107 : decode cX9_cut 107 = .ok (.ifCond .eq 9, 3) := by decide +kernel
theorem dX9_cut_110 : decode cX9_cut 110 = .ok (.iinc 4 1, 3) := by decide +kernel
theorem dX9_cut_113 : decode cX9_cut 113 = .ok (.goto (-22), 3) := by decide +kernel
theorem dX9_cut_116 : decode cX9_cut 116 = .ok (.aload_n 0, 1) := by decide +kernel
theorem dX9_cut_117 : decode cX9_cut 117 = .ok (.iload 4, 2) := by decide +kernel
theorem dX9_cut_119 : decode cX9_cut 119 = .ok (.iload_n 3, 1) := by decide +kernel
theorem dX9_cut_120 : decode cX9_cut 120 = .ok (.isub, 1) := by decide +kernel
theorem dX9_cut_121 : decode cX9_cut 121 = .ok (.iconst 5, 1) := by decide +kernel
theorem dX9_cut_122 : decode cX9_cut 122 = .ok (.if_icmp .le 9, 3) := by decide +kernel
theorem dX9_cut_125 : decode cX9_cut 125 = .ok (.sipush 257, 3) := by decide +kernel
theorem dX9_cut_128 : decode cX9_cut 128 = .ok (.goto 6, 3) := by decide +kernel
theorem dX9_cut_131 : decode cX9_cut 131 = .ok (.sipush 256, 3) := by decide +kernel
theorem dX9_cut_134 : decode cX9_cut 134 = .ok (.iload_n 3, 1) := by decide +kernel
theorem dX9_cut_135 : decode cX9_cut 135 = .ok (.aload_n 0, 1) := by decide +kernel
theorem dX9_cut_136 : decode cX9_cut 136 = .ok (.iload_n 3, 1) := by decide +kernel
theorem dX9_cut_137 : decode cX9_cut 137 = .ok (.iload 4, 2) := by decide +kernel
theorem dX9_cut_139 : decode cX9_cut 139 = .ok (.invokevirtual 51, 3) := by decide +kernel
theorem dX9_cut_142 : decode cX9_cut 142 = .ok (.invokevirtual 44, 3) := by decide +kernel
theorem dX9_cut_145 : decode cX9_cut 145 = .ok (.goto 58, 3) := by decide +kernel
theorem dX9_cut_148 : decode cX9_cut 148 = .ok (.aload_n 0, 1) := by decide +kernel
theorem dX9_cut_149 : decode cX9_cut 149 = .ok (.getfield 9, 3) := by decide +kernel
theorem dX9_cut_152 : decode cX9_cut 152 = .ok (.iload_n 3, 1) := by decide +kernel
theorem dX9_cut_153 : decode cX9_cut 153 = .ok (.iaload, 1) := by decide +kernel
theorem dX9_cut_154 : decode cX9_cut 154 = .ok (.bipush 32, 2) := by decide +kernel
theorem dX9_cut_156 : decode cX9_cut 156 = .ok (.if_icmp .eq 47, 3) := by decide +kernel
theorem dX9_cut_159 : decode cX9_cut 159 = .ok (.aload_n 0, 1) := by decide +kernel
theorem dX9_cut_160 : decode cX9_cut 160 = .ok (.getfield 9, 3) := by decide +kernel
theorem dX9_cut_163 : decode cX9_cut 163 = .ok (.iload_n 3, 1) := by decide +kernel
theorem dX9_cut_164 : decode cX9_cut 164 = .ok (.iaload, 1) := by decide +kernel
theorem dX9_cut_165 : decode cX9_cut 165 = .ok (.bipush 10, 2) := by decide +kernel
theorem dX9_cut_167 : decode cX9_cut 167 = .ok (.if_icmp .eq 36, 3) := by decide +kernel
theorem dX9_cut_170 : decode cX9_cut 170 = .ok (.aload_n 0, 1) := by decide +kernel
theorem dX9_cut_171 : decode cX9_cut 171 = .ok (.ldc 54, 2) := by decide +kernel
theorem dX9_cut_173 : decode cX9_cut 173 = .ok (.aload_n 0, 1) := by decide +kernel
theorem dX9_cut_174 : decode cX9_cut 174 = .ok (.getfield 9, 3) := by decide +kernel
theorem dX9_cut_177 : decode cX9_cut 177 = .ok (.iload_n 3, 1) := by decide +kernel
theorem dX9_cut_178 : decode cX9_cut 178 = .ok (.iaload, 1) := by decide +kernel
theorem dX9_cut_179 : decode cX9_cut 179 = .ok (.i2c, 1) := by decide +kernel
theorem dX9_cut_180 : decode cX9_cut 180 = .ok (.invokevirtual 56, 3) := by decide +kernel
theorem dX9_cut_183 : decode cX9_cut 183 = .ok (.ifCond .lt 12, 3) := by decide +kernel
theorem dX9_cut_186 : decode cX9_cut 186 = .ok (.aload_n 0, 1) := by decide +kernel
theorem dX9_cut_187 : decode cX9_cut 187 = .ok (.getfield 9, 3) := by decide +kernel
theorem dX9_cut_190 : decode cX9_cut 190 = .ok (.iload_n 3, 1) := by decide +kernel
theorem dX9_cut_191 : decode cX9_cut 191 = .ok (.iaload, 1) := by decide +kernel
theorem dX9_cut_192 : decode cX9_cut 192 = .ok (.goto 6, 3) := by decide +kernel
theorem dX9_cut_195 : decode cX9_cut 195 = .ok (.sipush 257, 3) := by decide +kernel
theorem dX9_cut_198 : decode cX9_cut 198 = .ok (.iload_n 3, 1) := by decide +kernel
theorem dX9_cut_199 : decode cX9_cut 199 = .ok (.iconst 0, 1) := by decide +kernel
theorem dX9_cut_200 : decode cX9_cut 200 = .ok (.invokevirtual 44, 3) := by decide +kernel
theorem dX9_cut_203 : decode cX9_cut 203 = .ok (.iload 4, 2) := by decide +kernel
theorem dX9_cut_205 : decode cX9_cut 205 = .ok (.istore_n 3, 1) := by decide +kernel
theorem dX9_cut_206 : decode cX9_cut 206 = .ok (.goto (-190), 3) := by decide +kernel
theorem dX9_cut_209 : decode cX9_cut 209 = .ok (.aload_n 0, 1) := by decide +kernel
theorem dX9_cut_210 : decode cX9_cut 210 = .ok (.sipush 258, 3) := by decide +kernel
theorem dX9_cut_213 : decode cX9_cut 213 = .ok (.iload_n 2, 1) := by decide +kernel
theorem dX9_cut_214 : decode cX9_cut 214 = .ok (.iconst 0, 1) := by decide +kernel
theorem dX9_cut_215 : decode cX9_cut 215 = .ok (.invokevirtual 44, 3) := by decide +kernel
theorem dX9_cut_218 : decode cX9_cut 218 = .ok (.aload_n 0, 1) := by decide +kernel
theorem dX9_cut_219 : decode cX9_cut 219 = .ok (.iconst 0, 1) := by decide +kernel
theorem dX9_cut_220 : decode cX9_cut 220 = .ok (.putfield 24, 3) := by decide +kernel
theorem dX9_cut_223 : decode cX9_cut 223 = .ok (.return_, 1) := by decide +kernel
theorem dX9_token_0 : decode cX9_token 0 = .ok (.aload_n 0, 1) := by decide +kernel
theorem dX9_token_1 : decode cX9_token 1 = .ok (.getfield 28, 3) := by decide +kernel
theorem dX9_token_4 : decode cX9_token 4 = .ok (.sipush 400, 3) := by decide +kernel
theorem dX9_token_7 : decode cX9_token 7 = .ok (.if_icmp .le 4, 3) := by decide +kernel
theorem dX9_token_10 : decode cX9_token 10 = .ok (.return_, 1) := by decide +kernel
theorem dX9_token_11 : decode cX9_token 11 = .ok (.aload_n 0, 1) := by decide +kernel
theorem dX9_token_12 : decode cX9_token 12 = .ok (.getfield 15, 3) := by decide +kernel
theorem dX9_token_15 : decode cX9_token 15 = .ok (.aload_n 0, 1) := by decide +kernel
theorem dX9_token_16 : decode cX9_token 16 = .ok (.getfield 28, 3) := by decide +kernel
theorem dX9_token_19 : decode cX9_token 19 = .ok (.iload_n 1, 1) := by decide +kernel
theorem dX9_token_20 : decode cX9_token 20 = .ok (.iastore, 1) := by decide +kernel
theorem dX9_token_21 : decode cX9_token 21 = .ok (.aload_n 0, 1) := by decide +kernel
theorem dX9_token_22 : decode cX9_token 22 = .ok (.getfield 18, 3) := by decide +kernel
theorem dX9_token_25 : decode cX9_token 25 = .ok (.aload_n 0, 1) := by decide +kernel
theorem dX9_token_26 : decode cX9_token 26 = .ok (.getfield 28, 3) := by decide +kernel
theorem dX9_token_29 : decode cX9_token 29 = .ok (.iload_n 2, 1) := by decide +kernel
theorem dX9_token_30 : decode cX9_token 30 = .ok (.iastore, 1) := by decide +kernel
theorem dX9_token_31 : decode cX9_token 31 = .ok (.aload_n 0, 1) := by decide +kernel
theorem dX9_token_32 : decode cX9_token 32 = .ok (.getfield 21, 3) := by decide +kernel
theorem dX9_token_35 : decode cX9_token 35 = .ok (.aload_n 0, 1) := by decide +kernel
theorem dX9_token_36 : decode cX9_token 36 = .ok (.getfield 28, 3) := by decide +kernel
theorem dX9_token_39 : decode cX9_token 39 = .ok (.iload_n 3, 1) := by decide +kernel
theorem dX9_token_40 : decode cX9_token 40 = .ok (.iastore, 1) := by decide +kernel
theorem dX9_token_41 : decode cX9_token 41 = .ok (.aload_n 0, 1) := by decide +kernel
theorem dX9_token_42 : decode cX9_token 42 = .ok (.dup, 1) := by decide +kernel
theorem dX9_token_43 : decode cX9_token 43 = .ok (.getfield 28, 3) := by decide +kernel
theorem dX9_token_46 : decode cX9_token 46 = .ok (.iconst 1, 1) := by decide +kernel
theorem dX9_token_47 : decode cX9_token 47 = .ok (.iadd, 1) := by decide +kernel
theorem dX9_token_48 : decode cX9_token 48 = .ok (.putfield 28, 3) := by decide +kernel
theorem dX9_token_51 : decode cX9_token 51 = .ok (.return_, 1) := by decide +kernel
theorem dX9_wordKind_0 : decode cX9_wordKind 0 = .ok (.iload_n 2, 1) := by decide +kernel
theorem dX9_wordKind_1 : decode cX9_wordKind 1 = .ok (.iload_n 1, 1) := by decide +kernel
theorem dX9_wordKind_2 : decode cX9_wordKind 2 = .ok (.isub, 1) := by decide +kernel
theorem dX9_wordKind_3 : decode cX9_wordKind 3 = .ok (.iconst 5, 1) := by decide +kernel
theorem dX9_wordKind_4 : decode cX9_wordKind 4 = .ok (.if_icmp .le 7, 3) := by decide +kernel
theorem dX9_wordKind_7 : decode cX9_wordKind 7 = .ok (.sipush 257, 3) := by decide +kernel
theorem dX9_wordKind_10 : decode cX9_wordKind 10 = .ok (.ireturn, 1) := by decide +kernel
theorem dX9_wordKind_11 : decode cX9_wordKind 11 = .ok (.iconst 1, 1) := by decide +kernel
theorem dX9_wordKind_12 : decode cX9_wordKind 12 = .ok (.istore_n 3, 1) := by decide +kernel
theorem dX9_wordKind_13 : decode cX9_wordKind 13 = .ok (.iload_n 3, 1) := by decide +kernel
theorem dX9_wordKind_14 : decode cX9_wordKind 14 = .ok (.bipush 13, 2) := by decide +kernel
theorem dX9_wordKind_16 : decode cX9_wordKind 16 = .ok (.if_icmp .gt 21, 3) := by decide +kernel
theorem dX9_wordKind_19 : decode cX9_wordKind 19 = .ok (.aload_n 0, 1) := by decide +kernel
theorem dX9_wordKind_20 : decode cX9_wordKind 20 = .ok (.iload_n 3, 1) := by decide +kernel
theorem dX9_wordKind_21 : decode cX9_wordKind 21 = .ok (.iload_n 1, 1) := by decide +kernel
theorem dX9_wordKind_22 : decode cX9_wordKind 22 = .ok (.iload_n 2, 1) := by decide +kernel
theorem dX9_wordKind_23 : decode cX9_wordKind 23 = .ok (.invokevirtual 62, 3) := by decide +kernel
theorem dX9_wordKind_26 : decode cX9_wordKind 26 = .ok (.ifCond .eq 5, 3) := by decide +kernel
theorem dX9_wordKind_29 : decode cX9_wordKind 29 = .ok (.iload_n 3, 1) := by decide +kernel
theorem dX9_wordKind_30 : decode cX9_wordKind 30 = .ok (.ireturn, 1) := by decide +kernel
theorem dX9_wordKind_31 : decode cX9_wordKind 31 = .ok (.iinc 3 1, 3) := by decide +kernel
theorem dX9_wordKind_34 : decode cX9_wordKind 34 = .ok (.goto (-21), 3) := by decide +kernel
theorem dX9_wordKind_37 : decode cX9_wordKind 37 = .ok (.sipush 257, 3) := by decide +kernel
theorem dX9_wordKind_40 : decode cX9_wordKind 40 = .ok (.ireturn, 1) := by decide +kernel
theorem dX9_isWord_0 : decode cX9_isWord 0 = .ok (.iconst 0, 1) := by decide +kernel
theorem dX9_isWord_1 : decode cX9_isWord 1 = .ok (.istore 4, 2) := by decide +kernel
theorem dX9_isWord_3 : decode cX9_isWord 3 = .ok (.iload 4, 2) := by decide +kernel
theorem dX9_isWord_5 : decode cX9_isWord 5 = .ok (.iconst 5, 1) := by decide +kernel
theorem dX9_isWord_6 : decode cX9_isWord 6 = .ok (.if_icmp .ge 53, 3) := by decide +kernel
theorem dX9_isWord_9 : decode cX9_isWord 9 = .ok (.iload_n 2, 1) := by decide +kernel
theorem dX9_isWord_10 : decode cX9_isWord 10 = .ok (.iload 4, 2) := by decide +kernel
theorem dX9_isWord_12 : decode cX9_isWord 12 = .ok (.iadd, 1) := by decide +kernel
theorem dX9_isWord_13 : decode cX9_isWord 13 = .ok (.iload_n 3, 1) := by decide +kernel
theorem dX9_isWord_14 : decode cX9_isWord 14 = .ok (.if_icmp .ge 15, 3) := by decide +kernel
theorem dX9_isWord_17 : decode cX9_isWord 17 = .ok (.aload_n 0, 1) := by decide +kernel
theorem dX9_isWord_18 : decode cX9_isWord 18 = .ok (.getfield 9, 3) := by decide +kernel
theorem dX9_isWord_21 : decode cX9_isWord 21 = .ok (.iload_n 2, 1) := by decide +kernel
theorem dX9_isWord_22 : decode cX9_isWord 22 = .ok (.iload 4, 2) := by decide +kernel
theorem dX9_isWord_24 : decode cX9_isWord 24 = .ok (.iadd, 1) := by decide +kernel
theorem dX9_isWord_25 : decode cX9_isWord 25 = .ok (.iaload, 1) := by decide +kernel
theorem dX9_isWord_26 : decode cX9_isWord 26 = .ok (.goto 5, 3) := by decide +kernel
theorem dX9_isWord_29 : decode cX9_isWord 29 = .ok (.bipush 32, 2) := by decide +kernel
theorem dX9_isWord_31 : decode cX9_isWord 31 = .ok (.istore 5, 2) := by decide +kernel
theorem dX9_isWord_33 : decode cX9_isWord 33 = .ok (.iload 5, 2) := by decide +kernel
theorem dX9_isWord_35 : decode cX9_isWord 35 = .ok (.ldc 66, 2) := by decide +kernel
theorem dX9_isWord_37 : decode cX9_isWord 37 = .ok (.iload_n 1, 1) := by decide +kernel
theorem dX9_isWord_38 : decode cX9_isWord 38 = .ok (.iconst 1, 1) := by decide +kernel
theorem dX9_isWord_39 : decode cX9_isWord 39 = .ok (.isub, 1) := by decide +kernel
theorem dX9_isWord_40 : decode cX9_isWord 40 = .ok (.iconst 5, 1) := by decide +kernel
theorem dX9_isWord_41 : decode cX9_isWord 41 = .ok (.imul, 1) := by decide +kernel
theorem dX9_isWord_42 : decode cX9_isWord 42 = .ok (.iload 4, 2) := by decide +kernel
theorem dX9_isWord_44 : decode cX9_isWord 44 = .ok (.iadd, 1) := by decide +kernel
theorem dX9_isWord_45 : decode cX9_isWord 45 = .ok (.invokevirtual 68, 3) := by decide +kernel
theorem dX9_isWord_48 : decode cX9_isWord 48 = .ok (.if_icmp .eq 5, 3) := by decide +kernel
theorem dX9_isWord_51 : decode cX9_isWord 51 = .ok (.iconst 0, 1) := by decide +kernel
theorem dX9_isWord_52 : decode cX9_isWord 52 = .ok (.ireturn, 1) := by decide +kernel
theorem dX9_isWord_53 : decode cX9_isWord 53 = .ok (.iinc 4 1, 3) := by decide +kernel
theorem dX9_isWord_56 : decode cX9_isWord 56 = .ok (.goto (-53), 3) := by decide +kernel
theorem dX9_isWord_59 : decode cX9_isWord 59 = .ok (.iconst 1, 1) := by decide +kernel
theorem dX9_isWord_60 : decode cX9_isWord 60 = .ok (.ireturn, 1) := by decide +kernel
theorem dX9_numberOf_0 : decode cX9_numberOf 0 = .ok (.iconst 0, 1) := by decide +kernel
theorem dX9_numberOf_1 : decode cX9_numberOf 1 = .ok (.istore_n 3, 1) := by decide +kernel
theorem dX9_numberOf_2 : decode cX9_numberOf 2 = .ok (.iload_n 1, 1) := by decide +kernel
theorem dX9_numberOf_3 : decode cX9_numberOf 3 = .ok (.istore 4, 2) := by decide +kernel
theorem dX9_numberOf_5 : decode cX9_numberOf 5 = .ok (.iload 4, 2) := by decide +kernel
theorem dX9_numberOf_7 : decode cX9_numberOf 7 = .ok (.iload_n 2, 1) := by decide +kernel
theorem dX9_numberOf_8 : decode cX9_numberOf 8 = .ok (.if_icmp .ge 33, 3) := by decide +kernel
theorem dX9_numberOf_11 : decode cX9_numberOf 11 = .ok (.iload 4, 2) := by decide +kernel
theorem dX9_numberOf_13 : decode cX9_numberOf 13 = .ok (.iload_n 1, 1) := by decide +kernel
theorem dX9_numberOf_14 : decode cX9_numberOf 14 = .ok (.iconst 5, 1) := by decide +kernel
theorem dX9_numberOf_15 : decode cX9_numberOf 15 = .ok (.iadd, 1) := by decide +kernel
theorem dX9_numberOf_16 : decode cX9_numberOf 16 = .ok (.if_icmp .ge 25, 3) := by decide +kernel
theorem dX9_numberOf_19 : decode cX9_numberOf 19 = .ok (.iload_n 3, 1) := by decide +kernel
theorem dX9_numberOf_20 : decode cX9_numberOf 20 = .ok (.bipush 10, 2) := by decide +kernel
theorem dX9_numberOf_22 : decode cX9_numberOf 22 = .ok (.imul, 1) := by decide +kernel
theorem dX9_numberOf_23 : decode cX9_numberOf 23 = .ok (.aload_n 0, 1) := by decide +kernel
theorem dX9_numberOf_24 : decode cX9_numberOf 24 = .ok (.getfield 9, 3) := by decide +kernel
theorem dX9_numberOf_27 : decode cX9_numberOf 27 = .ok (.iload 4, 2) := by decide +kernel
theorem dX9_numberOf_29 : decode cX9_numberOf 29 = .ok (.iaload, 1) := by decide +kernel
theorem dX9_numberOf_30 : decode cX9_numberOf 30 = .ok (.iadd, 1) := by decide +kernel
theorem dX9_numberOf_31 : decode cX9_numberOf 31 = .ok (.bipush 48, 2) := by decide +kernel
theorem dX9_numberOf_33 : decode cX9_numberOf 33 = .ok (.isub, 1) := by decide +kernel
theorem dX9_numberOf_34 : decode cX9_numberOf 34 = .ok (.istore_n 3, 1) := by decide +kernel
theorem dX9_numberOf_35 : decode cX9_numberOf 35 = .ok (.iinc 4 1, 3) := by decide +kernel
theorem dX9_numberOf_38 : decode cX9_numberOf 38 = .ok (.goto (-33), 3) := by decide +kernel
theorem dX9_numberOf_41 : decode cX9_numberOf 41 = .ok (.iload_n 3, 1) := by decide +kernel
theorem dX9_numberOf_42 : decode cX9_numberOf 42 = .ok (.ireturn, 1) := by decide +kernel
theorem dX9_isLetter_0 : decode cX9_isLetter 0 = .ok (.iload_n 0, 1) := by decide +kernel
theorem dX9_isLetter_1 : decode cX9_isLetter 1 = .ok (.bipush 97, 2) := by decide +kernel
theorem dX9_isLetter_3 : decode cX9_isLetter 3 = .ok (.if_icmp .lt 13, 3) := by decide +kernel
theorem dX9_isLetter_6 : decode cX9_isLetter 6 = .ok (.iload_n 0, 1) := by decide +kernel
theorem dX9_isLetter_7 : decode cX9_isLetter 7 = .ok (.bipush 122, 2) := by decide +kernel
theorem dX9_isLetter_9 : decode cX9_isLetter 9 = .ok (.if_icmp .gt 7, 3) := by decide +kernel
theorem dX9_isLetter_12 : decode cX9_isLetter 12 = .ok (.iconst 1, 1) := by decide +kernel
theorem dX9_isLetter_13 : decode cX9_isLetter 13 = .ok (.goto 4, 3) := by decide +kernel
theorem dX9_isLetter_16 : decode cX9_isLetter 16 = .ok (.iconst 0, 1) := by decide +kernel
theorem dX9_isLetter_17 : decode cX9_isLetter 17 = .ok (.ireturn, 1) := by decide +kernel
theorem dX9_isDigit_0 : decode cX9_isDigit 0 = .ok (.iload_n 0, 1) := by decide +kernel
theorem dX9_isDigit_1 : decode cX9_isDigit 1 = .ok (.bipush 48, 2) := by decide +kernel
theorem dX9_isDigit_3 : decode cX9_isDigit 3 = .ok (.if_icmp .lt 13, 3) := by decide +kernel
theorem dX9_isDigit_6 : decode cX9_isDigit 6 = .ok (.iload_n 0, 1) := by decide +kernel
theorem dX9_isDigit_7 : decode cX9_isDigit 7 = .ok (.bipush 57, 2) := by decide +kernel
theorem dX9_isDigit_9 : decode cX9_isDigit 9 = .ok (.if_icmp .gt 7, 3) := by decide +kernel
theorem dX9_isDigit_12 : decode cX9_isDigit 12 = .ok (.iconst 1, 1) := by decide +kernel
theorem dX9_isDigit_13 : decode cX9_isDigit 13 = .ok (.goto 4, 3) := by decide +kernel
theorem dX9_isDigit_16 : decode cX9_isDigit 16 = .ok (.iconst 0, 1) := by decide +kernel
theorem dX9_isDigit_17 : decode cX9_isDigit 17 = .ok (.ireturn, 1) := by decide +kernel
theorem dX10_init_0 : decode cX10_init 0 = .ok (.aload_n 0, 1) := by decide +kernel
theorem dX10_init_1 : decode cX10_init 1 = .ok (.invokespecial 3, 3) := by decide +kernel
theorem dX10_init_4 : decode cX10_init 4 = .ok (.aload_n 0, 1) := by decide +kernel
theorem dX10_init_5 : decode cX10_init 5 = .ok (.bipush 8, 2) := by decide +kernel
theorem dX10_init_7 : decode cX10_init 7 = .ok (.newarray .int, 2) := by decide +kernel
theorem dX10_init_9 : decode cX10_init 9 = .ok (.putfield 9, 3) := by decide +kernel
theorem dX10_init_12 : decode cX10_init 12 = .ok (.aload_n 0, 1) := by decide +kernel
theorem dX10_init_13 : decode cX10_init 13 = .ok (.bipush 10, 2) := by decide +kernel
theorem dX10_init_15 : decode cX10_init 15 = .ok (.newarray .int, 2) := by decide +kernel
theorem dX10_init_17 : decode cX10_init 17 = .ok (.putfield 15, 3) := by decide +kernel
theorem dX10_init_20 : decode cX10_init 20 = .ok (.aload_n 0, 1) := by decide +kernel
theorem dX10_init_21 : decode cX10_init 21 = .ok (.bipush 10, 2) := by decide +kernel
theorem dX10_init_23 : decode cX10_init 23 = .ok (.newarray .int, 2) := by decide +kernel
theorem dX10_init_25 : decode cX10_init 25 = .ok (.putfield 18, 3) := by decide +kernel
theorem dX10_init_28 : decode cX10_init 28 = .ok (.aload_n 0, 1) := by decide +kernel
theorem dX10_init_29 : decode cX10_init 29 = .ok (.bipush 8, 2) := by decide +kernel
theorem dX10_init_31 : decode cX10_init 31 = .ok (.newarray .int, 2) := by decide +kernel
theorem dX10_init_33 : decode cX10_init 33 = .ok (.putfield 21, 3) := by decide +kernel
theorem dX10_init_36 : decode cX10_init 36 = .ok (.aload_n 0, 1) := by decide +kernel
theorem dX10_init_37 : decode cX10_init 37 = .ok (.bipush 80, 2) := by decide +kernel
theorem dX10_init_39 : decode cX10_init 39 = .ok (.newarray .int, 2) := by decide +kernel
theorem dX10_init_41 : decode cX10_init 41 = .ok (.putfield 24, 3) := by decide +kernel
theorem dX10_init_44 : decode cX10_init 44 = .ok (.aload_n 0, 1) := by decide +kernel
theorem dX10_init_45 : decode cX10_init 45 = .ok (.aload_n 1, 1) := by decide +kernel
theorem dX10_init_46 : decode cX10_init 46 = .ok (.putfield 27, 3) := by decide +kernel
theorem dX10_init_49 : decode cX10_init 49 = .ok (.aload_n 0, 1) := by decide +kernel
theorem dX10_init_50 : decode cX10_init 50 = .ok (.aload_n 2, 1) := by decide +kernel
theorem dX10_init_51 : decode cX10_init 51 = .ok (.putfield 31, 3) := by decide +kernel
theorem dX10_init_54 : decode cX10_init 54 = .ok (.aload_n 0, 1) := by decide +kernel
theorem dX10_init_55 : decode cX10_init 55 = .ok (.aload_n 3, 1) := by decide +kernel
theorem dX10_init_56 : decode cX10_init 56 = .ok (.putfield 35, 3) := by decide +kernel
theorem dX10_init_59 : decode cX10_init 59 = .ok (.return_, 1) := by decide +kernel
theorem dX10_run_0 : decode cX10_run 0 = .ok (.aload_n 0, 1) := by decide +kernel
theorem dX10_run_1 : decode cX10_run 1 = .ok (.getfield 31, 3) := by decide +kernel
theorem dX10_run_4 : decode cX10_run 4 = .ok (.invokevirtual 39, 3) := by decide +kernel
theorem dX10_run_7 : decode cX10_run 7 = .ok (.aload_n 0, 1) := by decide +kernel
theorem dX10_run_8 : decode cX10_run 8 = .ok (.getfield 9, 3) := by decide +kernel
theorem dX10_run_11 : decode cX10_run 11 = .ok (.iconst 0, 1) := by decide +kernel
theorem dX10_run_12 : decode cX10_run 12 = .ok (.invokestatic 44, 3) := by decide +kernel
theorem dX10_run_15 : decode cX10_run 15 = .ok (.aload_n 0, 1) := by decide +kernel
theorem dX10_run_16 : decode cX10_run 16 = .ok (.invokevirtual 50, 3) := by decide +kernel
theorem dX10_run_19 : decode cX10_run 19 = .ok (.iload_n 1, 1) := by decide +kernel
theorem dX10_run_20 : decode cX10_run 20 = .ok (.tableswitch 71 0 4 #[36, 43, 50, 57, 64], 36) := by decide +kernel
theorem dX10_run_56 : decode cX10_run 56 = .ok (.aload_n 0, 1) := by decide +kernel
theorem dX10_run_57 : decode cX10_run 57 = .ok (.invokevirtual 53, 3) := by decide +kernel
theorem dX10_run_60 : decode cX10_run 60 = .ok (.goto 35, 3) := by decide +kernel
theorem dX10_run_63 : decode cX10_run 63 = .ok (.aload_n 0, 1) := by decide +kernel
theorem dX10_run_64 : decode cX10_run 64 = .ok (.invokevirtual 56, 3) := by decide +kernel
theorem dX10_run_67 : decode cX10_run 67 = .ok (.goto 28, 3) := by decide +kernel
theorem dX10_run_70 : decode cX10_run 70 = .ok (.aload_n 0, 1) := by decide +kernel
theorem dX10_run_71 : decode cX10_run 71 = .ok (.invokevirtual 59, 3) := by decide +kernel
theorem dX10_run_74 : decode cX10_run 74 = .ok (.goto 21, 3) := by decide +kernel
theorem dX10_run_77 : decode cX10_run 77 = .ok (.aload_n 0, 1) := by decide +kernel
theorem dX10_run_78 : decode cX10_run 78 = .ok (.invokevirtual 62, 3) := by decide +kernel
theorem dX10_run_81 : decode cX10_run 81 = .ok (.goto 14, 3) := by decide +kernel
theorem dX10_run_84 : decode cX10_run 84 = .ok (.aload_n 0, 1) := by decide +kernel
theorem dX10_run_85 : decode cX10_run 85 = .ok (.invokevirtual 65, 3) := by decide +kernel
theorem dX10_run_88 : decode cX10_run 88 = .ok (.goto 7, 3) := by decide +kernel
theorem dX10_run_91 : decode cX10_run 91 = .ok (.aload_n 0, 1) := by decide +kernel
theorem dX10_run_92 : decode cX10_run 92 = .ok (.invokevirtual 68, 3) := by decide +kernel
theorem dX10_run_95 : decode cX10_run 95 = .ok (.return_, 1) := by decide +kernel
theorem dX10_countSpare_0 : decode cX10_countSpare 0 = .ok (.iconst 0, 1) := by decide +kernel
theorem dX10_countSpare_1 : decode cX10_countSpare 1 = .ok (.istore_n 1, 1) := by decide +kernel
theorem dX10_countSpare_2 : decode cX10_countSpare 2 = .ok (.iload_n 1, 1) := by decide +kernel
theorem dX10_countSpare_3 : decode cX10_countSpare 3 = .ok (.aload_n 0, 1) := by decide +kernel
theorem dX10_countSpare_4 : decode cX10_countSpare 4 = .ok (.getfield 27, 3) := by decide +kernel
theorem dX10_countSpare_7 : decode cX10_countSpare 7 = .ok (.getfield 71, 3) := by decide +kernel
theorem dX10_countSpare_10 : decode cX10_countSpare 10 = .ok (.if_icmp .ge 66, 3) := by decide +kernel
theorem dX10_countSpare_13 : decode cX10_countSpare 13 = .ok (.aload_n 0, 1) := by decide +kernel
theorem dX10_countSpare_14 : decode cX10_countSpare 14 = .ok (.getfield 15, 3) := by decide +kernel
theorem dX10_countSpare_17 : decode cX10_countSpare 17 = .ok (.iload_n 1, 1) := by decide +kernel
theorem dX10_countSpare_18 : decode cX10_countSpare 18 = .ok (.aload_n 0, 1) := by decide +kernel
theorem dX10_countSpare_19 : decode cX10_countSpare 19 = .ok (.getfield 27, 3) := by decide +kernel
theorem dX10_countSpare_22 : decode cX10_countSpare 22 = .ok (.getfield 77, 3) := by decide +kernel
theorem dX10_countSpare_25 : decode cX10_countSpare 25 = .ok (.iload_n 1, 1) := by decide +kernel
theorem dX10_countSpare_26 : decode cX10_countSpare 26 = .ok (.iaload, 1) := by decide +kernel
theorem dX10_countSpare_27 : decode cX10_countSpare 27 = .ok (.iastore, 1) := by decide +kernel
theorem dX10_countSpare_28 : decode cX10_countSpare 28 = .ok (.iconst 0, 1) := by decide +kernel
theorem dX10_countSpare_29 : decode cX10_countSpare 29 = .ok (.istore_n 2, 1) := by decide +kernel
theorem dX10_countSpare_30 : decode cX10_countSpare 30 = .ok (.iload_n 2, 1) := by decide +kernel
theorem dX10_countSpare_31 : decode cX10_countSpare 31 = .ok (.aload_n 0, 1) := by decide +kernel
theorem dX10_countSpare_32 : decode cX10_countSpare 32 = .ok (.getfield 31, 3) := by decide +kernel
theorem dX10_countSpare_35 : decode cX10_countSpare 35 = .ok (.getfield 80, 3) := by decide +kernel
theorem dX10_countSpare_38 : decode cX10_countSpare 38 = .ok (.if_icmp .ge 32, 3) := by decide +kernel
theorem dX10_countSpare_41 : decode cX10_countSpare 41 = .ok (.aload_n 0, 1) := by decide +kernel
theorem dX10_countSpare_42 : decode cX10_countSpare 42 = .ok (.getfield 9, 3) := by decide +kernel
theorem dX10_countSpare_45 : decode cX10_countSpare 45 = .ok (.iload_n 2, 1) := by decide +kernel
theorem dX10_countSpare_46 : decode cX10_countSpare 46 = .ok (.iaload, 1) := by decide +kernel
theorem dX10_countSpare_47 : decode cX10_countSpare 47 = .ok (.iload_n 1, 1) := by decide +kernel
theorem dX10_countSpare_48 : decode cX10_countSpare 48 = .ok (.invokestatic 81, 3) := by decide +kernel
theorem dX10_countSpare_51 : decode cX10_countSpare 51 = .ok (.ifCond .eq 13, 3) := by decide +kernel
theorem dX10_countSpare_54 : decode cX10_countSpare 54 = .ok (.aload_n 0, 1) := by decide +kernel
theorem dX10_countSpare_55 : decode cX10_countSpare 55 = .ok (.getfield 15, 3) := by decide +kernel
theorem dX10_countSpare_58 : decode cX10_countSpare 58 = .ok (.iload_n 1, 1) := by decide +kernel
theorem dX10_countSpare_59 : decode cX10_countSpare 59 = .ok (.dup2, 1) := by decide +kernel
theorem dX10_countSpare_60 : decode cX10_countSpare 60 = .ok (.iaload, 1) := by decide +kernel
theorem dX10_countSpare_61 : decode cX10_countSpare 61 = .ok (.iconst 1, 1) := by decide +kernel
theorem dX10_countSpare_62 : decode cX10_countSpare 62 = .ok (.isub, 1) := by decide +kernel
theorem dX10_countSpare_63 : decode cX10_countSpare 63 = .ok (.iastore, 1) := by decide +kernel
theorem dX10_countSpare_64 : decode cX10_countSpare 64 = .ok (.iinc 2 1, 3) := by decide +kernel
theorem dX10_countSpare_67 : decode cX10_countSpare 67 = .ok (.goto (-37), 3) := by decide +kernel
theorem dX10_countSpare_70 : decode cX10_countSpare 70 = .ok (.iinc 1 1, 3) := by decide +kernel
theorem dX10_countSpare_73 : decode cX10_countSpare 73 = .ok (.goto (-71), 3) := by decide +kernel
theorem dX10_countSpare_76 : decode cX10_countSpare 76 = .ok (.return_, 1) := by decide +kernel
theorem dX10_byPrices_0 : decode cX10_byPrices 0 = .ok (.aload_n 0, 1) := by decide +kernel
theorem dX10_byPrices_1 : decode cX10_byPrices 1 = .ok (.getfield 35, 3) := by decide +kernel
theorem dX10_byPrices_4 : decode cX10_byPrices 4 = .ok (.aload_n 0, 1) := by decide +kernel
theorem dX10_byPrices_5 : decode cX10_byPrices 5 = .ok (.getfield 35, 3) := by decide +kernel
theorem dX10_byPrices_8 : decode cX10_byPrices 8 = .ok (.getfield 85, 3) := by decide +kernel
theorem dX10_byPrices_11 : decode cX10_byPrices 11 = .ok (.invokevirtual 90, 3) := by decide +kernel
theorem dX10_byPrices_14 : decode cX10_byPrices 14 = .ok (.aload_n 0, 1) := by decide +kernel
theorem dX10_byPrices_15 : decode cX10_byPrices 15 = .ok (.getfield 21, 3) := by decide +kernel
theorem dX10_byPrices_18 : decode cX10_byPrices 18 = .ok (.iconst 0, 1) := by decide +kernel
theorem dX10_byPrices_19 : decode cX10_byPrices 19 = .ok (.invokestatic 44, 3) := by decide +kernel
theorem dX10_byPrices_22 : decode cX10_byPrices 22 = .ok (.iconst 0, 1) := by decide +kernel
theorem dX10_byPrices_23 : decode cX10_byPrices 23 = .ok (.istore_n 1, 1) := by decide +kernel
theorem dX10_byPrices_24 : decode cX10_byPrices 24 = .ok (.iload_n 1, 1) := by decide +kernel
theorem dX10_byPrices_25 : decode cX10_byPrices 25 = .ok (.aload_n 0, 1) := by decide +kernel
theorem dX10_byPrices_26 : decode cX10_byPrices 26 = .ok (.getfield 31, 3) := by decide +kernel
theorem dX10_byPrices_29 : decode cX10_byPrices 29 = .ok (.getfield 80, 3) := by decide +kernel
theorem dX10_byPrices_32 : decode cX10_byPrices 32 = .ok (.if_icmp .ge 14, 3) := by decide +kernel
theorem dX10_byPrices_35 : decode cX10_byPrices 35 = .ok (.aload_n 0, 1) := by decide +kernel
theorem dX10_byPrices_36 : decode cX10_byPrices 36 = .ok (.iload_n 1, 1) := by decide +kernel
theorem dX10_byPrices_37 : decode cX10_byPrices 37 = .ok (.invokevirtual 94, 3) := by decide +kernel
theorem dX10_byPrices_40 : decode cX10_byPrices 40 = .ok (.iinc 1 1, 3) := by decide +kernel
theorem dX10_byPrices_43 : decode cX10_byPrices 43 = .ok (.goto (-19), 3) := by decide +kernel
theorem dX10_byPrices_46 : decode cX10_byPrices 46 = .ok (.aload_n 0, 1) := by decide +kernel
theorem dX10_byPrices_47 : decode cX10_byPrices 47 = .ok (.invokevirtual 50, 3) := by decide +kernel
theorem dX10_byPrices_50 : decode cX10_byPrices 50 = .ok (.return_, 1) := by decide +kernel
theorem dX10_buyFor_0 : decode cX10_buyFor 0 = .ok (.aload_n 0, 1) := by decide +kernel
theorem dX10_buyFor_1 : decode cX10_buyFor 1 = .ok (.getfield 31, 3) := by decide +kernel
theorem dX10_buyFor_4 : decode cX10_buyFor 4 = .ok (.getfield 98, 3) := by decide +kernel
theorem dX10_buyFor_7 : decode cX10_buyFor 7 = .ok (.iload_n 1, 1) := by decide +kernel
theorem dX10_buyFor_8 : decode cX10_buyFor 8 = .ok (.aaload, 1) := by decide +kernel
theorem dX10_buyFor_9 : decode cX10_buyFor 9 = .ok (.astore_n 2, 1) := by decide +kernel
theorem dX10_buyFor_10 : decode cX10_buyFor 10 = .ok (.aload_n 0, 1) := by decide +kernel
theorem dX10_buyFor_11 : decode cX10_buyFor 11 = .ok (.getfield 9, 3) := by decide +kernel
theorem dX10_buyFor_14 : decode cX10_buyFor 14 = .ok (.iload_n 1, 1) := by decide +kernel
theorem dX10_buyFor_15 : decode cX10_buyFor 15 = .ok (.aload_n 2, 1) := by decide +kernel
theorem dX10_buyFor_16 : decode cX10_buyFor 16 = .ok (.aload_n 0, 1) := by decide +kernel
theorem dX10_buyFor_17 : decode cX10_buyFor 17 = .ok (.getfield 35, 3) := by decide +kernel
theorem dX10_buyFor_20 : decode cX10_buyFor 20 = .ok (.aload_n 2, 1) := by decide +kernel
theorem dX10_buyFor_21 : decode cX10_buyFor 21 = .ok (.aload_n 0, 1) := by decide +kernel
theorem dX10_buyFor_22 : decode cX10_buyFor 22 = .ok (.getfield 21, 3) := by decide +kernel
theorem dX10_buyFor_25 : decode cX10_buyFor 25 = .ok (.iload_n 1, 1) := by decide +kernel
theorem dX10_buyFor_26 : decode cX10_buyFor 26 = .ok (.iaload, 1) := by decide +kernel
theorem dX10_buyFor_27 : decode cX10_buyFor 27 = .ok (.invokevirtual 102, 3) := by decide +kernel
theorem dX10_buyFor_30 : decode cX10_buyFor 30 = .ok (.invokevirtual 106, 3) := by decide +kernel
theorem dX10_buyFor_33 : decode cX10_buyFor 33 = .ok (.iastore, 1) := by decide +kernel
theorem dX10_buyFor_34 : decode cX10_buyFor 34 = .ok (.aload_n 0, 1) := by decide +kernel
theorem dX10_buyFor_35 : decode cX10_buyFor 35 = .ok (.getfield 21, 3) := by decide +kernel
theorem dX10_buyFor_38 : decode cX10_buyFor 38 = .ok (.iload_n 1, 1) := by decide +kernel
theorem dX10_buyFor_39 : decode cX10_buyFor 39 = .ok (.aload_n 0, 1) := by decide +kernel
theorem dX10_buyFor_40 : decode cX10_buyFor 40 = .ok (.getfield 35, 3) := by decide +kernel
theorem dX10_buyFor_43 : decode cX10_buyFor 43 = .ok (.getfield 112, 3) := by decide +kernel
theorem dX10_buyFor_46 : decode cX10_buyFor 46 = .ok (.iastore, 1) := by decide +kernel
theorem dX10_buyFor_47 : decode cX10_buyFor 47 = .ok (.return_, 1) := by decide +kernel
theorem dX10_mended_0 : decode cX10_mended 0 = .ok (.aload_n 0, 1) := by decide +kernel
theorem dX10_mended_1 : decode cX10_mended 1 = .ok (.invokevirtual 53, 3) := by decide +kernel
theorem dX10_mended_4 : decode cX10_mended 4 = .ok (.aload_n 0, 1) := by decide +kernel
theorem dX10_mended_5 : decode cX10_mended 5 = .ok (.getfield 35, 3) := by decide +kernel
theorem dX10_mended_8 : decode cX10_mended 8 = .ok (.getfield 85, 3) := by decide +kernel
theorem dX10_mended_11 : decode cX10_mended 11 = .ok (.iconst 0, 1) := by decide +kernel
theorem dX10_mended_12 : decode cX10_mended 12 = .ok (.aload_n 0, 1) := by decide +kernel
theorem dX10_mended_13 : decode cX10_mended 13 = .ok (.getfield 18, 3) := by decide +kernel
theorem dX10_mended_16 : decode cX10_mended 16 = .ok (.iconst 0, 1) := by decide +kernel
theorem dX10_mended_17 : decode cX10_mended 17 = .ok (.bipush 10, 2) := by decide +kernel
theorem dX10_mended_19 : decode cX10_mended 19 = .ok (.invokestatic 115, 3) := by decide +kernel
theorem dX10_mended_22 : decode cX10_mended 22 = .ok (.iconst 0, 1) := by decide +kernel
theorem dX10_mended_23 : decode cX10_mended 23 = .ok (.istore_n 1, 1) := by decide +kernel
theorem dX10_mended_24 : decode cX10_mended 24 = .ok (.iload_n 1, 1) := by decide +kernel
theorem dX10_mended_25 : decode cX10_mended 25 = .ok (.sipush 2010, 3) := by decide +kernel
theorem dX10_mended_28 : decode cX10_mended 28 = .ok (.if_icmp .ge 27, 3) := by decide +kernel
theorem dX10_mended_31 : decode cX10_mended 31 = .ok (.aload_n 0, 1) := by decide +kernel
theorem dX10_mended_32 : decode cX10_mended 32 = .ok (.invokevirtual 121, 3) := by decide +kernel
theorem dX10_mended_35 : decode cX10_mended 35 = .ok (.istore_n 2, 1) := by decide +kernel
theorem dX10_mended_36 : decode cX10_mended 36 = .ok (.iload_n 2, 1) := by decide +kernel
theorem dX10_mended_37 : decode cX10_mended 37 = .ok (.iconst (-1), 1) := by decide +kernel
theorem dX10_mended_38 : decode cX10_mended 38 = .ok (.if_icmp .ne 6, 3) := by decide +kernel
theorem dX10_mended_41 : decode cX10_mended 41 = .ok (.goto 14, 3) := by decide +kernel
theorem dX10_mended_44 : decode cX10_mended 44 = .ok (.aload_n 0, 1) := by decide +kernel
theorem dX10_mended_45 : decode cX10_mended 45 = .ok (.iload_n 2, 1) := by decide +kernel
theorem dX10_mended_46 : decode cX10_mended 46 = .ok (.invokevirtual 125, 3) := by decide +kernel
theorem dX10_mended_49 : decode cX10_mended 49 = .ok (.iinc 1 1, 3) := by decide +kernel
theorem dX10_mended_52 : decode cX10_mended 52 = .ok (.goto (-28), 3) := by decide +kernel
theorem dX10_mended_55 : decode cX10_mended 55 = .ok (.iconst 0, 1) := by decide +kernel
theorem dX10_mended_56 : decode cX10_mended 56 = .ok (.istore_n 1, 1) := by decide +kernel
theorem dX10_mended_57 : decode cX10_mended 57 = .ok (.iload_n 1, 1) := by decide +kernel
theorem dX10_mended_58 : decode cX10_mended 58 = .ok (.bipush 80, 2) := by decide +kernel
theorem dX10_mended_60 : decode cX10_mended 60 = .ok (.if_icmp .gt 18, 3) := by decide +kernel
theorem dX10_mended_63 : decode cX10_mended 63 = .ok (.aload_n 0, 1) := by decide +kernel
theorem dX10_mended_64 : decode cX10_mended 64 = .ok (.iconst 1, 1) := by decide +kernel
theorem dX10_mended_65 : decode cX10_mended 65 = .ok (.invokevirtual 128, 3) := by decide +kernel
theorem dX10_mended_68 : decode cX10_mended 68 = .ok (.ifCond .ne 4, 3) := by decide +kernel
theorem dX10_mended_71 : decode cX10_mended 71 = .ok (.return_, 1) := by decide +kernel
theorem dX10_mended_72 : decode cX10_mended 72 = .ok (.iinc 1 1, 3) := by decide +kernel
theorem dX10_mended_75 : decode cX10_mended 75 = .ok (.goto (-18), 3) := by decide +kernel
theorem dX10_mended_78 : decode cX10_mended 78 = .ok (.return_, 1) := by decide +kernel
theorem dX10_fullest_0 : decode cX10_fullest 0 = .ok (.iconst (-1), 1) := by decide +kernel
theorem dX10_fullest_1 : decode cX10_fullest 1 = .ok (.istore_n 1, 1) := by decide +kernel
theorem dX10_fullest_2 : decode cX10_fullest 2 = .ok (.iconst 0, 1) := by decide +kernel
theorem dX10_fullest_3 : decode cX10_fullest 3 = .ok (.istore_n 2, 1) := by decide +kernel
theorem dX10_fullest_4 : decode cX10_fullest 4 = .ok (.iload_n 2, 1) := by decide +kernel
theorem dX10_fullest_5 : decode cX10_fullest 5 = .ok (.aload_n 0, 1) := by decide +kernel
theorem dX10_fullest_6 : decode cX10_fullest 6 = .ok (.getfield 27, 3) := by decide +kernel
theorem dX10_fullest_9 : decode cX10_fullest 9 = .ok (.getfield 71, 3) := by decide +kernel
theorem dX10_fullest_12 : decode cX10_fullest 12 = .ok (.if_icmp .ge 40, 3) := by decide +kernel
theorem dX10_fullest_15 : decode cX10_fullest 15 = .ok (.aload_n 0, 1) := by decide +kernel
theorem dX10_fullest_16 : decode cX10_fullest 16 = .ok (.getfield 15, 3) := by decide +kernel
theorem dX10_fullest_19 : decode cX10_fullest 19 = .ok (.iload_n 2, 1) := by decide +kernel
theorem dX10_fullest_20 : decode cX10_fullest 20 = .ok (.iaload, 1) := by decide +kernel
theorem dX10_fullest_21 : decode cX10_fullest 21 = .ok (.ifCond .ge 25, 3) := by decide +kernel
theorem dX10_fullest_24 : decode cX10_fullest 24 = .ok (.iload_n 1, 1) := by decide +kernel
theorem dX10_fullest_25 : decode cX10_fullest 25 = .ok (.iconst (-1), 1) := by decide +kernel
theorem dX10_fullest_26 : decode cX10_fullest 26 = .ok (.if_icmp .eq 18, 3) := by decide +kernel
theorem dX10_fullest_29 : decode cX10_fullest 29 = .ok (.aload_n 0, 1) := by decide +kernel
theorem dX10_fullest_30 : decode cX10_fullest 30 = .ok (.getfield 15, 3) := by decide +kernel
theorem dX10_fullest_33 : decode cX10_fullest 33 = .ok (.iload_n 2, 1) := by decide +kernel
theorem dX10_fullest_34 : decode cX10_fullest 34 = .ok (.iaload, 1) := by decide +kernel
theorem dX10_fullest_35 : decode cX10_fullest 35 = .ok (.aload_n 0, 1) := by decide +kernel
theorem dX10_fullest_36 : decode cX10_fullest 36 = .ok (.getfield 15, 3) := by decide +kernel
theorem dX10_fullest_39 : decode cX10_fullest 39 = .ok (.iload_n 1, 1) := by decide +kernel
theorem dX10_fullest_40 : decode cX10_fullest 40 = .ok (.iaload, 1) := by decide +kernel
theorem dX10_fullest_41 : decode cX10_fullest 41 = .ok (.if_icmp .ge 5, 3) := by decide +kernel
theorem dX10_fullest_44 : decode cX10_fullest 44 = .ok (.iload_n 2, 1) := by decide +kernel
theorem dX10_fullest_45 : decode cX10_fullest 45 = .ok (.istore_n 1, 1) := by decide +kernel
theorem dX10_fullest_46 : decode cX10_fullest 46 = .ok (.iinc 2 1, 3) := by decide +kernel
theorem dX10_fullest_49 : decode cX10_fullest 49 = .ok (.goto (-45), 3) := by decide +kernel
theorem dX10_fullest_52 : decode cX10_fullest 52 = .ok (.iload_n 1, 1) := by decide +kernel
theorem dX10_fullest_53 : decode cX10_fullest 53 = .ok (.ireturn, 1) := by decide +kernel
theorem dX10_raise_0 : decode cX10_raise 0 = .ok (.aload_n 0, 1) := by decide +kernel
theorem dX10_raise_1 : decode cX10_raise 1 = .ok (.getfield 18, 3) := by decide +kernel
theorem dX10_raise_4 : decode cX10_raise 4 = .ok (.iload_n 1, 1) := by decide +kernel
theorem dX10_raise_5 : decode cX10_raise 5 = .ok (.dup2, 1) := by decide +kernel
theorem dX10_raise_6 : decode cX10_raise 6 = .ok (.iaload, 1) := by decide +kernel
theorem dX10_raise_7 : decode cX10_raise 7 = .ok (.aload_n 0, 1) := by decide +kernel
theorem dX10_raise_8 : decode cX10_raise 8 = .ok (.getfield 35, 3) := by decide +kernel
theorem dX10_raise_11 : decode cX10_raise 11 = .ok (.getfield 132, 3) := by decide +kernel
theorem dX10_raise_14 : decode cX10_raise 14 = .ok (.iadd, 1) := by decide +kernel
theorem dX10_raise_15 : decode cX10_raise 15 = .ok (.iastore, 1) := by decide +kernel
theorem dX10_raise_16 : decode cX10_raise 16 = .ok (.aload_n 0, 1) := by decide +kernel
theorem dX10_raise_17 : decode cX10_raise 17 = .ok (.getfield 35, 3) := by decide +kernel
theorem dX10_raise_20 : decode cX10_raise 20 = .ok (.aload_n 0, 1) := by decide +kernel
theorem dX10_raise_21 : decode cX10_raise 21 = .ok (.getfield 18, 3) := by decide +kernel
theorem dX10_raise_24 : decode cX10_raise 24 = .ok (.invokevirtual 90, 3) := by decide +kernel
theorem dX10_raise_27 : decode cX10_raise 27 = .ok (.iconst 0, 1) := by decide +kernel
theorem dX10_raise_28 : decode cX10_raise 28 = .ok (.istore_n 2, 1) := by decide +kernel
theorem dX10_raise_29 : decode cX10_raise 29 = .ok (.iload_n 2, 1) := by decide +kernel
theorem dX10_raise_30 : decode cX10_raise 30 = .ok (.aload_n 0, 1) := by decide +kernel
theorem dX10_raise_31 : decode cX10_raise 31 = .ok (.getfield 31, 3) := by decide +kernel
theorem dX10_raise_34 : decode cX10_raise 34 = .ok (.getfield 80, 3) := by decide +kernel
theorem dX10_raise_37 : decode cX10_raise 37 = .ok (.if_icmp .ge 27, 3) := by decide +kernel
theorem dX10_raise_40 : decode cX10_raise 40 = .ok (.aload_n 0, 1) := by decide +kernel
theorem dX10_raise_41 : decode cX10_raise 41 = .ok (.getfield 9, 3) := by decide +kernel
theorem dX10_raise_44 : decode cX10_raise 44 = .ok (.iload_n 2, 1) := by decide +kernel
theorem dX10_raise_45 : decode cX10_raise 45 = .ok (.iaload, 1) := by decide +kernel
theorem dX10_raise_46 : decode cX10_raise 46 = .ok (.iload_n 1, 1) := by decide +kernel
theorem dX10_raise_47 : decode cX10_raise 47 = .ok (.invokestatic 81, 3) := by decide +kernel
theorem dX10_raise_50 : decode cX10_raise 50 = .ok (.ifCond .eq 8, 3) := by decide +kernel
theorem dX10_raise_53 : decode cX10_raise 53 = .ok (.aload_n 0, 1) := by decide +kernel
theorem dX10_raise_54 : decode cX10_raise 54 = .ok (.iload_n 2, 1) := by decide +kernel
theorem dX10_raise_55 : decode cX10_raise 55 = .ok (.invokevirtual 94, 3) := by decide +kernel
theorem dX10_raise_58 : decode cX10_raise 58 = .ok (.iinc 2 1, 3) := by decide +kernel
theorem dX10_raise_61 : decode cX10_raise 61 = .ok (.goto (-32), 3) := by decide +kernel
theorem dX10_raise_64 : decode cX10_raise 64 = .ok (.aload_n 0, 1) := by decide +kernel
theorem dX10_raise_65 : decode cX10_raise 65 = .ok (.invokevirtual 50, 3) := by decide +kernel
theorem dX10_raise_68 : decode cX10_raise 68 = .ok (.return_, 1) := by decide +kernel
theorem dX10_byTurns_0 : decode cX10_byTurns 0 = .ok (.iconst 1, 1) := by decide +kernel
theorem dX10_byTurns_1 : decode cX10_byTurns 1 = .ok (.istore_n 1, 1) := by decide +kernel
theorem dX10_byTurns_2 : decode cX10_byTurns 2 = .ok (.iconst 0, 1) := by decide +kernel
theorem dX10_byTurns_3 : decode cX10_byTurns 3 = .ok (.istore_n 2, 1) := by decide +kernel
theorem dX10_byTurns_4 : decode cX10_byTurns 4 = .ok (.iload_n 2, 1) := by decide +kernel
theorem dX10_byTurns_5 : decode cX10_byTurns 5 = .ok (.bipush 80, 2) := by decide +kernel
theorem dX10_byTurns_7 : decode cX10_byTurns 7 = .ok (.if_icmp .gt 28, 3) := by decide +kernel
theorem dX10_byTurns_10 : decode cX10_byTurns 10 = .ok (.aload_n 0, 1) := by decide +kernel
theorem dX10_byTurns_11 : decode cX10_byTurns 11 = .ok (.iload_n 1, 1) := by decide +kernel
theorem dX10_byTurns_12 : decode cX10_byTurns 12 = .ok (.invokevirtual 128, 3) := by decide +kernel
theorem dX10_byTurns_15 : decode cX10_byTurns 15 = .ok (.ifCond .ne 4, 3) := by decide +kernel
theorem dX10_byTurns_18 : decode cX10_byTurns 18 = .ok (.return_, 1) := by decide +kernel
theorem dX10_byTurns_19 : decode cX10_byTurns 19 = .ok (.iload_n 1, 1) := by decide +kernel
theorem dX10_byTurns_20 : decode cX10_byTurns 20 = .ok (.ifCond .ne 7, 3) := by decide +kernel
theorem dX10_byTurns_23 : decode cX10_byTurns 23 = .ok (.iconst 1, 1) := by decide +kernel
theorem dX10_byTurns_24 : decode cX10_byTurns 24 = .ok (.goto 4, 3) := by decide +kernel
theorem dX10_byTurns_27 : decode cX10_byTurns 27 = .ok (.iconst 0, 1) := by decide +kernel
theorem dX10_byTurns_28 : decode cX10_byTurns 28 = .ok (.istore_n 1, 1) := by decide +kernel
theorem dX10_byTurns_29 : decode cX10_byTurns 29 = .ok (.iinc 2 1, 3) := by decide +kernel
theorem dX10_byTurns_32 : decode cX10_byTurns 32 = .ok (.goto (-28), 3) := by decide +kernel
theorem dX10_byTurns_35 : decode cX10_byTurns 35 = .ok (.return_, 1) := by decide +kernel
theorem dX10_roundOfAdding_0 : decode cX10_roundOfAdding 0 = .ok (.iconst 0, 1) := by decide +kernel
theorem dX10_roundOfAdding_1 : decode cX10_roundOfAdding 1 = .ok (.istore_n 2, 1) := by decide +kernel
theorem dX10_roundOfAdding_2 : decode cX10_roundOfAdding 2 = .ok (.iconst 0, 1) := by decide +kernel
theorem dX10_roundOfAdding_3 : decode cX10_roundOfAdding 3 = .ok (.istore_n 3, 1) := by decide +kernel
theorem dX10_roundOfAdding_4 : decode cX10_roundOfAdding 4 = .ok (.iload_n 3, 1) := by decide +kernel
theorem dX10_roundOfAdding_5 : decode cX10_roundOfAdding 5 = .ok (.aload_n 0, 1) := by decide +kernel
theorem dX10_roundOfAdding_6 : decode cX10_roundOfAdding 6 = .ok (.getfield 31, 3) := by decide +kernel
theorem dX10_roundOfAdding_9 : decode cX10_roundOfAdding 9 = .ok (.getfield 80, 3) := by decide +kernel
theorem dX10_roundOfAdding_12 : decode cX10_roundOfAdding 12 = .ok (.if_icmp .ge 37, 3) := by decide +kernel
theorem dX10_roundOfAdding_15 : decode cX10_roundOfAdding 15 = .ok (.aload_n 0, 1) := by decide +kernel
theorem dX10_roundOfAdding_16 : decode cX10_roundOfAdding 16 = .ok (.iload_n 1, 1) := by decide +kernel
theorem dX10_roundOfAdding_17 : decode cX10_roundOfAdding 17 = .ok (.ifCond .eq 7, 3) := by decide +kernel
theorem dX10_roundOfAdding_20 : decode cX10_roundOfAdding 20 = .ok (.iload_n 3, 1) := by decide +kernel
theorem dX10_roundOfAdding_21 : decode cX10_roundOfAdding 21 = .ok (.goto 14, 3) := by decide +kernel
theorem dX10_roundOfAdding_24 : decode cX10_roundOfAdding 24 = .ok (.aload_n 0, 1) := by decide +kernel
theorem dX10_roundOfAdding_25 : decode cX10_roundOfAdding 25 = .ok (.getfield 31, 3) := by decide +kernel
theorem dX10_roundOfAdding_28 : decode cX10_roundOfAdding 28 = .ok (.getfield 80, 3) := by decide +kernel
theorem dX10_roundOfAdding_31 : decode cX10_roundOfAdding 31 = .ok (.iconst 1, 1) := by decide +kernel
theorem dX10_roundOfAdding_32 : decode cX10_roundOfAdding 32 = .ok (.isub, 1) := by decide +kernel
theorem dX10_roundOfAdding_33 : decode cX10_roundOfAdding 33 = .ok (.iload_n 3, 1) := by decide +kernel
theorem dX10_roundOfAdding_34 : decode cX10_roundOfAdding 34 = .ok (.isub, 1) := by decide +kernel
theorem dX10_roundOfAdding_35 : decode cX10_roundOfAdding 35 = .ok (.invokevirtual 135, 3) := by decide +kernel
theorem dX10_roundOfAdding_38 : decode cX10_roundOfAdding 38 = .ok (.ifCond .eq 5, 3) := by decide +kernel
theorem dX10_roundOfAdding_41 : decode cX10_roundOfAdding 41 = .ok (.iconst 1, 1) := by decide +kernel
theorem dX10_roundOfAdding_42 : decode cX10_roundOfAdding 42 = .ok (.istore_n 2, 1) := by decide +kernel
theorem dX10_roundOfAdding_43 : decode cX10_roundOfAdding 43 = .ok (.iinc 3 1, 3) := by decide +kernel
theorem dX10_roundOfAdding_46 : decode cX10_roundOfAdding 46 = .ok (.goto (-42), 3) := by decide +kernel
theorem dX10_roundOfAdding_49 : decode cX10_roundOfAdding 49 = .ok (.iload_n 2, 1) := by decide +kernel
theorem dX10_roundOfAdding_50 : decode cX10_roundOfAdding 50 = .ok (.ireturn, 1) := by decide +kernel
theorem dX10_addFor_0 : decode cX10_addFor 0 = .ok (.aload_n 0, 1) := by decide +kernel
theorem dX10_addFor_1 : decode cX10_addFor 1 = .ok (.getfield 31, 3) := by decide +kernel
theorem dX10_addFor_4 : decode cX10_addFor 4 = .ok (.getfield 98, 3) := by decide +kernel
theorem dX10_addFor_7 : decode cX10_addFor 7 = .ok (.iload_n 1, 1) := by decide +kernel
theorem dX10_addFor_8 : decode cX10_addFor 8 = .ok (.aaload, 1) := by decide +kernel
theorem dX10_addFor_9 : decode cX10_addFor 9 = .ok (.astore_n 2, 1) := by decide +kernel
theorem dX10_addFor_10 : decode cX10_addFor 10 = .ok (.aload_n 2, 1) := by decide +kernel
theorem dX10_addFor_11 : decode cX10_addFor 11 = .ok (.getfield 139, 3) := by decide +kernel
theorem dX10_addFor_14 : decode cX10_addFor 14 = .ok (.aload_n 0, 1) := by decide +kernel
theorem dX10_addFor_15 : decode cX10_addFor 15 = .ok (.getfield 9, 3) := by decide +kernel
theorem dX10_addFor_18 : decode cX10_addFor 18 = .ok (.iload_n 1, 1) := by decide +kernel
theorem dX10_addFor_19 : decode cX10_addFor 19 = .ok (.iaload, 1) := by decide +kernel
theorem dX10_addFor_20 : decode cX10_addFor 20 = .ok (.iaload, 1) := by decide +kernel
theorem dX10_addFor_21 : decode cX10_addFor 21 = .ok (.istore_n 3, 1) := by decide +kernel
theorem dX10_addFor_22 : decode cX10_addFor 22 = .ok (.iconst (-1), 1) := by decide +kernel
theorem dX10_addFor_23 : decode cX10_addFor 23 = .ok (.istore 4, 2) := by decide +kernel
theorem dX10_addFor_25 : decode cX10_addFor 25 = .ok (.iconst 0, 1) := by decide +kernel
theorem dX10_addFor_26 : decode cX10_addFor 26 = .ok (.istore 5, 2) := by decide +kernel
theorem dX10_addFor_28 : decode cX10_addFor 28 = .ok (.iload 5, 2) := by decide +kernel
theorem dX10_addFor_30 : decode cX10_addFor 30 = .ok (.aload_n 0, 1) := by decide +kernel
theorem dX10_addFor_31 : decode cX10_addFor 31 = .ok (.getfield 27, 3) := by decide +kernel
theorem dX10_addFor_34 : decode cX10_addFor 34 = .ok (.getfield 71, 3) := by decide +kernel
theorem dX10_addFor_37 : decode cX10_addFor 37 = .ok (.if_icmp .ge 55, 3) := by decide +kernel
theorem dX10_addFor_40 : decode cX10_addFor 40 = .ok (.aload_n 0, 1) := by decide +kernel
theorem dX10_addFor_41 : decode cX10_addFor 41 = .ok (.getfield 9, 3) := by decide +kernel
theorem dX10_addFor_44 : decode cX10_addFor 44 = .ok (.iload_n 1, 1) := by decide +kernel
theorem dX10_addFor_45 : decode cX10_addFor 45 = .ok (.iaload, 1) := by decide +kernel
theorem dX10_addFor_46 : decode cX10_addFor 46 = .ok (.iconst 1, 1) := by decide +kernel
theorem dX10_addFor_47 : decode cX10_addFor 47 = .ok (.iload 5, 2) := by decide +kernel
theorem dX10_addFor_49 : decode cX10_addFor 49 = .ok (.ishl, 1) := by decide +kernel
theorem dX10_addFor_50 : decode cX10_addFor 50 = .ok (.ior, 1) := by decide +kernel
theorem dX10_addFor_51 : decode cX10_addFor 51 = .ok (.istore 6, 2) := by decide +kernel
theorem dX10_addFor_53 : decode cX10_addFor 53 = .ok (.aload_n 0, 1) := by decide +kernel
theorem dX10_addFor_54 : decode cX10_addFor 54 = .ok (.iload_n 1, 1) := by decide +kernel
theorem dX10_addFor_55 : decode cX10_addFor 55 = .ok (.iload 5, 2) := by decide +kernel
theorem dX10_addFor_57 : decode cX10_addFor 57 = .ok (.invokevirtual 142, 3) := by decide +kernel
theorem dX10_addFor_60 : decode cX10_addFor 60 = .ok (.ifCond .eq 26, 3) := by decide +kernel
theorem dX10_addFor_63 : decode cX10_addFor 63 = .ok (.aload_n 2, 1) := by decide +kernel
theorem dX10_addFor_64 : decode cX10_addFor 64 = .ok (.getfield 139, 3) := by decide +kernel
theorem dX10_addFor_67 : decode cX10_addFor 67 = .ok (.iload 6, 2) := by decide +kernel
theorem dX10_addFor_69 : decode cX10_addFor 69 = .ok (.iaload, 1) := by decide +kernel
theorem dX10_addFor_70 : decode cX10_addFor 70 = .ok (.iload_n 3, 1) := by decide +kernel
theorem dX10_addFor_71 : decode cX10_addFor 71 = .ok (.if_icmp .le 15, 3) := by decide +kernel
theorem dX10_addFor_74 : decode cX10_addFor 74 = .ok (.aload_n 2, 1) := by decide +kernel
theorem dX10_addFor_75 : decode cX10_addFor 75 = .ok (.getfield 139, 3) := by decide +kernel
theorem dX10_addFor_78 : decode cX10_addFor 78 = .ok (.iload 6, 2) := by decide +kernel
theorem dX10_addFor_80 : decode cX10_addFor 80 = .ok (.iaload, 1) := by decide +kernel
theorem dX10_addFor_81 : decode cX10_addFor 81 = .ok (.istore_n 3, 1) := by decide +kernel
theorem dX10_addFor_82 : decode cX10_addFor 82 = .ok (.iload 5, 2) := by decide +kernel
theorem dX10_addFor_84 : decode cX10_addFor 84 = .ok (.istore 4, 2) := by decide +kernel
theorem dX10_addFor_86 : decode cX10_addFor 86 = .ok (.iinc 5 1, 3) := by decide +kernel
theorem dX10_addFor_89 : decode cX10_addFor 89 = .ok (.goto (-61), 3) := by decide +kernel
theorem dX10_addFor_92 : decode cX10_addFor 92 = .ok (.iload 4, 2) := by decide +kernel
theorem dX10_addFor_94 : decode cX10_addFor 94 = .ok (.iconst (-1), 1) := by decide +kernel
theorem dX10_addFor_95 : decode cX10_addFor 95 = .ok (.if_icmp .ne 5, 3) := by decide +kernel
theorem dX10_addFor_98 : decode cX10_addFor 98 = .ok (.iconst 0, 1) := by decide +kernel
theorem dX10_addFor_99 : decode cX10_addFor 99 = .ok (.ireturn, 1) := by decide +kernel
theorem dX10_addFor_100 : decode cX10_addFor 100 = .ok (.aload_n 0, 1) := by decide +kernel
theorem dX10_addFor_101 : decode cX10_addFor 101 = .ok (.iload_n 1, 1) := by decide +kernel
theorem dX10_addFor_102 : decode cX10_addFor 102 = .ok (.iconst 1, 1) := by decide +kernel
theorem dX10_addFor_103 : decode cX10_addFor 103 = .ok (.iload 4, 2) := by decide +kernel
theorem dX10_addFor_105 : decode cX10_addFor 105 = .ok (.ishl, 1) := by decide +kernel
theorem dX10_addFor_106 : decode cX10_addFor 106 = .ok (.invokevirtual 145, 3) := by decide +kernel
theorem dX10_addFor_109 : decode cX10_addFor 109 = .ok (.iconst 1, 1) := by decide +kernel
theorem dX10_addFor_110 : decode cX10_addFor 110 = .ok (.ireturn, 1) := by decide +kernel
theorem dX10_canTake_0 : decode cX10_canTake 0 = .ok (.aload_n 0, 1) := by decide +kernel
theorem dX10_canTake_1 : decode cX10_canTake 1 = .ok (.getfield 15, 3) := by decide +kernel
theorem dX10_canTake_4 : decode cX10_canTake 4 = .ok (.iload_n 2, 1) := by decide +kernel
theorem dX10_canTake_5 : decode cX10_canTake 5 = .ok (.iaload, 1) := by decide +kernel
theorem dX10_canTake_6 : decode cX10_canTake 6 = .ok (.ifCond .le 20, 3) := by decide +kernel
theorem dX10_canTake_9 : decode cX10_canTake 9 = .ok (.aload_n 0, 1) := by decide +kernel
theorem dX10_canTake_10 : decode cX10_canTake 10 = .ok (.getfield 9, 3) := by decide +kernel
theorem dX10_canTake_13 : decode cX10_canTake 13 = .ok (.iload_n 1, 1) := by decide +kernel
theorem dX10_canTake_14 : decode cX10_canTake 14 = .ok (.iaload, 1) := by decide +kernel
theorem dX10_canTake_15 : decode cX10_canTake 15 = .ok (.iload_n 2, 1) := by decide +kernel
theorem dX10_canTake_16 : decode cX10_canTake 16 = .ok (.invokestatic 81, 3) := by decide +kernel
theorem dX10_canTake_19 : decode cX10_canTake 19 = .ok (.ifCond .ne 7, 3) := by decide +kernel
theorem dX10_canTake_22 : decode cX10_canTake 22 = .ok (.iconst 1, 1) := by decide +kernel
theorem dX10_canTake_23 : decode cX10_canTake 23 = .ok (.goto 4, 3) := by decide +kernel
theorem dX10_canTake_26 : decode cX10_canTake 26 = .ok (.iconst 0, 1) := by decide +kernel
theorem dX10_canTake_27 : decode cX10_canTake 27 = .ok (.istore_n 3, 1) := by decide +kernel
theorem dX10_canTake_28 : decode cX10_canTake 28 = .ok (.iload_n 3, 1) := by decide +kernel
theorem dX10_canTake_29 : decode cX10_canTake 29 = .ok (.ifCond .eq 33, 3) := by decide +kernel
theorem dX10_canTake_32 : decode cX10_canTake 32 = .ok (.aload_n 0, 1) := by decide +kernel
theorem dX10_canTake_33 : decode cX10_canTake 33 = .ok (.getfield 31, 3) := by decide +kernel
theorem dX10_canTake_36 : decode cX10_canTake 36 = .ok (.getfield 98, 3) := by decide +kernel
theorem dX10_canTake_39 : decode cX10_canTake 39 = .ok (.iload_n 1, 1) := by decide +kernel
theorem dX10_canTake_40 : decode cX10_canTake 40 = .ok (.aaload, 1) := by decide +kernel
theorem dX10_canTake_41 : decode cX10_canTake 41 = .ok (.getfield 149, 3) := by decide +kernel
theorem dX10_canTake_44 : decode cX10_canTake 44 = .ok (.aload_n 0, 1) := by decide +kernel
theorem dX10_canTake_45 : decode cX10_canTake 45 = .ok (.getfield 9, 3) := by decide +kernel
theorem dX10_canTake_48 : decode cX10_canTake 48 = .ok (.iload_n 1, 1) := by decide +kernel
theorem dX10_canTake_49 : decode cX10_canTake 49 = .ok (.iaload, 1) := by decide +kernel
theorem dX10_canTake_50 : decode cX10_canTake 50 = .ok (.iconst 1, 1) := by decide +kernel
theorem dX10_canTake_51 : decode cX10_canTake 51 = .ok (.iload_n 2, 1) := by decide +kernel
theorem dX10_canTake_52 : decode cX10_canTake 52 = .ok (.ishl, 1) := by decide +kernel
theorem dX10_canTake_53 : decode cX10_canTake 53 = .ok (.ior, 1) := by decide +kernel
theorem dX10_canTake_54 : decode cX10_canTake 54 = .ok (.baload, 1) := by decide +kernel
theorem dX10_canTake_55 : decode cX10_canTake 55 = .ok (.ifCond .eq 7, 3) := by decide +kernel
theorem dX10_canTake_58 : decode cX10_canTake 58 = .ok (.iconst 1, 1) := by decide +kernel
theorem dX10_canTake_59 : decode cX10_canTake 59 = .ok (.goto 4, 3) := by decide +kernel
theorem dX10_canTake_62 : decode cX10_canTake 62 = .ok (.iconst 0, 1) := by decide +kernel
theorem dX10_canTake_63 : decode cX10_canTake 63 = .ok (.ireturn, 1) := by decide +kernel
theorem dX10_take_0 : decode cX10_take 0 = .ok (.aload_n 0, 1) := by decide +kernel
theorem dX10_take_1 : decode cX10_take 1 = .ok (.getfield 9, 3) := by decide +kernel
theorem dX10_take_4 : decode cX10_take 4 = .ok (.iload_n 1, 1) := by decide +kernel
theorem dX10_take_5 : decode cX10_take 5 = .ok (.dup2, 1) := by decide +kernel
theorem dX10_take_6 : decode cX10_take 6 = .ok (.iaload, 1) := by decide +kernel
theorem dX10_take_7 : decode cX10_take 7 = .ok (.iload_n 2, 1) := by decide +kernel
theorem dX10_take_8 : decode cX10_take 8 = .ok (.ior, 1) := by decide +kernel
theorem dX10_take_9 : decode cX10_take 9 = .ok (.iastore, 1) := by decide +kernel
theorem dX10_take_10 : decode cX10_take 10 = .ok (.iconst 0, 1) := by decide +kernel
theorem dX10_take_11 : decode cX10_take 11 = .ok (.istore_n 3, 1) := by decide +kernel
theorem dX10_take_12 : decode cX10_take 12 = .ok (.iload_n 3, 1) := by decide +kernel
theorem dX10_take_13 : decode cX10_take 13 = .ok (.aload_n 0, 1) := by decide +kernel
theorem dX10_take_14 : decode cX10_take 14 = .ok (.getfield 27, 3) := by decide +kernel
theorem dX10_take_17 : decode cX10_take 17 = .ok (.getfield 71, 3) := by decide +kernel
theorem dX10_take_20 : decode cX10_take 20 = .ok (.if_icmp .ge 27, 3) := by decide +kernel
theorem dX10_take_23 : decode cX10_take 23 = .ok (.iload_n 2, 1) := by decide +kernel
theorem dX10_take_24 : decode cX10_take 24 = .ok (.iload_n 3, 1) := by decide +kernel
theorem dX10_take_25 : decode cX10_take 25 = .ok (.invokestatic 81, 3) := by decide +kernel
theorem dX10_take_28 : decode cX10_take 28 = .ok (.ifCond .eq 13, 3) := by decide +kernel
theorem dX10_take_31 : decode cX10_take 31 = .ok (.aload_n 0, 1) := by decide +kernel
theorem dX10_take_32 : decode cX10_take 32 = .ok (.getfield 15, 3) := by decide +kernel
theorem dX10_take_35 : decode cX10_take 35 = .ok (.iload_n 3, 1) := by decide +kernel
theorem dX10_take_36 : decode cX10_take 36 = .ok (.dup2, 1) := by decide +kernel
theorem dX10_take_37 : decode cX10_take 37 = .ok (.iaload, 1) := by decide +kernel
theorem dX10_take_38 : decode cX10_take 38 = .ok (.iconst 1, 1) := by decide +kernel
theorem dX10_take_39 : decode cX10_take 39 = .ok (.isub, 1) := by decide +kernel
theorem dX10_take_40 : decode cX10_take 40 = .ok (.iastore, 1) := by decide +kernel
theorem dX10_take_41 : decode cX10_take 41 = .ok (.iinc 3 1, 3) := by decide +kernel
theorem dX10_take_44 : decode cX10_take 44 = .ok (.goto (-32), 3) := by decide +kernel
theorem dX10_take_47 : decode cX10_take 47 = .ok (.return_, 1) := by decide +kernel
theorem dX10_byBids_0 : decode cX10_byBids 0 = .ok (.aload_n 0, 1) := by decide +kernel
theorem dX10_byBids_1 : decode cX10_byBids 1 = .ok (.invokevirtual 153, 3) := by decide +kernel
theorem dX10_byBids_4 : decode cX10_byBids 4 = .ok (.iconst 0, 1) := by decide +kernel
theorem dX10_byBids_5 : decode cX10_byBids 5 = .ok (.istore_n 1, 1) := by decide +kernel
theorem dX10_byBids_6 : decode cX10_byBids 6 = .ok (.iload_n 1, 1) := by decide +kernel
theorem dX10_byBids_7 : decode cX10_byBids 7 = .ok (.bipush 80, 2) := by decide +kernel
theorem dX10_byBids_9 : decode cX10_byBids 9 = .ok (.if_icmp .ge 89, 3) := by decide +kernel
theorem dX10_byBids_12 : decode cX10_byBids 12 = .ok (.iconst 0, 1) := by decide +kernel
theorem dX10_byBids_13 : decode cX10_byBids 13 = .ok (.istore_n 2, 1) := by decide +kernel
theorem dX10_byBids_14 : decode cX10_byBids 14 = .ok (.iconst 1, 1) := by decide +kernel
theorem dX10_byBids_15 : decode cX10_byBids 15 = .ok (.istore_n 3, 1) := by decide +kernel
theorem dX10_byBids_16 : decode cX10_byBids 16 = .ok (.iload_n 3, 1) := by decide +kernel
theorem dX10_byBids_17 : decode cX10_byBids 17 = .ok (.bipush 80, 2) := by decide +kernel
theorem dX10_byBids_19 : decode cX10_byBids 19 = .ok (.if_icmp .ge 26, 3) := by decide +kernel
theorem dX10_byBids_22 : decode cX10_byBids 22 = .ok (.aload_n 0, 1) := by decide +kernel
theorem dX10_byBids_23 : decode cX10_byBids 23 = .ok (.getfield 24, 3) := by decide +kernel
theorem dX10_byBids_26 : decode cX10_byBids 26 = .ok (.iload_n 3, 1) := by decide +kernel
theorem dX10_byBids_27 : decode cX10_byBids 27 = .ok (.iaload, 1) := by decide +kernel
theorem dX10_byBids_28 : decode cX10_byBids 28 = .ok (.aload_n 0, 1) := by decide +kernel
theorem dX10_byBids_29 : decode cX10_byBids 29 = .ok (.getfield 24, 3) := by decide +kernel
theorem dX10_byBids_32 : decode cX10_byBids 32 = .ok (.iload_n 2, 1) := by decide +kernel
theorem dX10_byBids_33 : decode cX10_byBids 33 = .ok (.iaload, 1) := by decide +kernel
theorem dX10_byBids_34 : decode cX10_byBids 34 = .ok (.if_icmp .le 5, 3) := by decide +kernel
theorem dX10_byBids_37 : decode cX10_byBids 37 = .ok (.iload_n 3, 1) := by decide +kernel
theorem dX10_byBids_38 : decode cX10_byBids 38 = .ok (.istore_n 2, 1) := by decide +kernel
theorem dX10_byBids_39 : decode cX10_byBids 39 = .ok (.iinc 3 1, 3) := by decide +kernel
theorem dX10_byBids_42 : decode cX10_byBids 42 = .ok (.goto (-26), 3) := by decide +kernel
theorem dX10_byBids_45 : decode cX10_byBids 45 = .ok (.aload_n 0, 1) := by decide +kernel
theorem dX10_byBids_46 : decode cX10_byBids 46 = .ok (.getfield 24, 3) := by decide +kernel
theorem dX10_byBids_49 : decode cX10_byBids 49 = .ok (.iload_n 2, 1) := by decide +kernel
theorem dX10_byBids_50 : decode cX10_byBids 50 = .ok (.iaload, 1) := by decide +kernel
theorem dX10_byBids_51 : decode cX10_byBids 51 = .ok (.ifCond .gt 4, 3) := by decide +kernel
theorem dX10_byBids_54 : decode cX10_byBids 54 = .ok (.return_, 1) := by decide +kernel
theorem dX10_byBids_55 : decode cX10_byBids 55 = .ok (.aload_n 0, 1) := by decide +kernel
theorem dX10_byBids_56 : decode cX10_byBids 56 = .ok (.getfield 24, 3) := by decide +kernel
theorem dX10_byBids_59 : decode cX10_byBids 59 = .ok (.iload_n 2, 1) := by decide +kernel
theorem dX10_byBids_60 : decode cX10_byBids 60 = .ok (.iconst 0, 1) := by decide +kernel
theorem dX10_byBids_61 : decode cX10_byBids 61 = .ok (.iastore, 1) := by decide +kernel
theorem dX10_byBids_62 : decode cX10_byBids 62 = .ok (.iload_n 2, 1) := by decide +kernel
theorem dX10_byBids_63 : decode cX10_byBids 63 = .ok (.bipush 10, 2) := by decide +kernel
theorem dX10_byBids_65 : decode cX10_byBids 65 = .ok (.idiv, 1) := by decide +kernel
theorem dX10_byBids_66 : decode cX10_byBids 66 = .ok (.istore_n 3, 1) := by decide +kernel
theorem dX10_byBids_67 : decode cX10_byBids 67 = .ok (.iload_n 2, 1) := by decide +kernel
theorem dX10_byBids_68 : decode cX10_byBids 68 = .ok (.bipush 10, 2) := by decide +kernel
theorem dX10_byBids_70 : decode cX10_byBids 70 = .ok (.irem, 1) := by decide +kernel
theorem dX10_byBids_71 : decode cX10_byBids 71 = .ok (.istore 4, 2) := by decide +kernel
theorem dX10_byBids_73 : decode cX10_byBids 73 = .ok (.aload_n 0, 1) := by decide +kernel
theorem dX10_byBids_74 : decode cX10_byBids 74 = .ok (.iload_n 3, 1) := by decide +kernel
theorem dX10_byBids_75 : decode cX10_byBids 75 = .ok (.iload 4, 2) := by decide +kernel
theorem dX10_byBids_77 : decode cX10_byBids 77 = .ok (.invokevirtual 142, 3) := by decide +kernel
theorem dX10_byBids_80 : decode cX10_byBids 80 = .ok (.ifCond .eq 12, 3) := by decide +kernel
theorem dX10_byBids_83 : decode cX10_byBids 83 = .ok (.aload_n 0, 1) := by decide +kernel
theorem dX10_byBids_84 : decode cX10_byBids 84 = .ok (.iload_n 3, 1) := by decide +kernel
theorem dX10_byBids_85 : decode cX10_byBids 85 = .ok (.iconst 1, 1) := by decide +kernel
theorem dX10_byBids_86 : decode cX10_byBids 86 = .ok (.iload 4, 2) := by decide +kernel
theorem dX10_byBids_88 : decode cX10_byBids 88 = .ok (.ishl, 1) := by decide +kernel
theorem dX10_byBids_89 : decode cX10_byBids 89 = .ok (.invokevirtual 145, 3) := by decide +kernel
theorem dX10_byBids_92 : decode cX10_byBids 92 = .ok (.iinc 1 1, 3) := by decide +kernel
theorem dX10_byBids_95 : decode cX10_byBids 95 = .ok (.goto (-89), 3) := by decide +kernel
theorem dX10_byBids_98 : decode cX10_byBids 98 = .ok (.return_, 1) := by decide +kernel
theorem dX10_fillBids_0 : decode cX10_fillBids 0 = .ok (.aload_n 0, 1) := by decide +kernel
theorem dX10_fillBids_1 : decode cX10_fillBids 1 = .ok (.getfield 24, 3) := by decide +kernel
theorem dX10_fillBids_4 : decode cX10_fillBids 4 = .ok (.iconst 0, 1) := by decide +kernel
theorem dX10_fillBids_5 : decode cX10_fillBids 5 = .ok (.invokestatic 44, 3) := by decide +kernel
theorem dX10_fillBids_8 : decode cX10_fillBids 8 = .ok (.iconst 0, 1) := by decide +kernel
theorem dX10_fillBids_9 : decode cX10_fillBids 9 = .ok (.istore_n 1, 1) := by decide +kernel
theorem dX10_fillBids_10 : decode cX10_fillBids 10 = .ok (.iload_n 1, 1) := by decide +kernel
theorem dX10_fillBids_11 : decode cX10_fillBids 11 = .ok (.aload_n 0, 1) := by decide +kernel
theorem dX10_fillBids_12 : decode cX10_fillBids 12 = .ok (.getfield 31, 3) := by decide +kernel
theorem dX10_fillBids_15 : decode cX10_fillBids 15 = .ok (.getfield 80, 3) := by decide +kernel
theorem dX10_fillBids_18 : decode cX10_fillBids 18 = .ok (.if_icmp .ge 61, 3) := by decide +kernel
theorem dX10_fillBids_21 : decode cX10_fillBids 21 = .ok (.aload_n 0, 1) := by decide +kernel
theorem dX10_fillBids_22 : decode cX10_fillBids 22 = .ok (.getfield 31, 3) := by decide +kernel
theorem dX10_fillBids_25 : decode cX10_fillBids 25 = .ok (.getfield 98, 3) := by decide +kernel
theorem dX10_fillBids_28 : decode cX10_fillBids 28 = .ok (.iload_n 1, 1) := by decide +kernel
theorem dX10_fillBids_29 : decode cX10_fillBids 29 = .ok (.aaload, 1) := by decide +kernel
theorem dX10_fillBids_30 : decode cX10_fillBids 30 = .ok (.getfield 139, 3) := by decide +kernel
theorem dX10_fillBids_33 : decode cX10_fillBids 33 = .ok (.astore_n 2, 1) := by decide +kernel
theorem dX10_fillBids_34 : decode cX10_fillBids 34 = .ok (.iconst 0, 1) := by decide +kernel
theorem dX10_fillBids_35 : decode cX10_fillBids 35 = .ok (.istore_n 3, 1) := by decide +kernel
theorem dX10_fillBids_36 : decode cX10_fillBids 36 = .ok (.iload_n 3, 1) := by decide +kernel
theorem dX10_fillBids_37 : decode cX10_fillBids 37 = .ok (.aload_n 0, 1) := by decide +kernel
theorem dX10_fillBids_38 : decode cX10_fillBids 38 = .ok (.getfield 27, 3) := by decide +kernel
theorem dX10_fillBids_41 : decode cX10_fillBids 41 = .ok (.getfield 71, 3) := by decide +kernel
theorem dX10_fillBids_44 : decode cX10_fillBids 44 = .ok (.if_icmp .ge 29, 3) := by decide +kernel
theorem dX10_fillBids_47 : decode cX10_fillBids 47 = .ok (.aload_n 0, 1) := by decide +kernel
theorem dX10_fillBids_48 : decode cX10_fillBids 48 = .ok (.getfield 24, 3) := by decide +kernel
theorem dX10_fillBids_51 : decode cX10_fillBids 51 = .ok (.iload_n 1, 1) := by decide +kernel
theorem dX10_fillBids_52 : decode cX10_fillBids 52 = .ok (.bipush 10, 2) := by decide +kernel
theorem dX10_fillBids_54 : decode cX10_fillBids 54 = .ok (.imul, 1) := by decide +kernel
theorem dX10_fillBids_55 : decode cX10_fillBids 55 = .ok (.iload_n 3, 1) := by decide +kernel
theorem dX10_fillBids_56 : decode cX10_fillBids 56 = .ok (.iadd, 1) := by decide +kernel
theorem dX10_fillBids_57 : decode cX10_fillBids 57 = .ok (.aload_n 2, 1) := by decide +kernel
theorem dX10_fillBids_58 : decode cX10_fillBids 58 = .ok (.iconst 1, 1) := by decide +kernel
theorem dX10_fillBids_59 : decode cX10_fillBids 59 = .ok (.iload_n 3, 1) := by decide +kernel
theorem dX10_fillBids_60 : decode cX10_fillBids 60 = .ok (.ishl, 1) := by decide +kernel
theorem dX10_fillBids_61 : decode cX10_fillBids 61 = .ok (.iaload, 1) := by decide +kernel
theorem dX10_fillBids_62 : decode cX10_fillBids 62 = .ok (.aload_n 2, 1) := by decide +kernel
theorem dX10_fillBids_63 : decode cX10_fillBids 63 = .ok (.iconst 0, 1) := by decide +kernel
theorem dX10_fillBids_64 : decode cX10_fillBids 64 = .ok (.iaload, 1) := by decide +kernel
theorem dX10_fillBids_65 : decode cX10_fillBids 65 = .ok (.isub, 1) := by decide +kernel
theorem dX10_fillBids_66 : decode cX10_fillBids 66 = .ok (.iastore, 1) := by decide +kernel
theorem dX10_fillBids_67 : decode cX10_fillBids 67 = .ok (.iinc 3 1, 3) := by decide +kernel
theorem dX10_fillBids_70 : decode cX10_fillBids 70 = .ok (.goto (-34), 3) := by decide +kernel
theorem dX10_fillBids_73 : decode cX10_fillBids 73 = .ok (.iinc 1 1, 3) := by decide +kernel
theorem dX10_fillBids_76 : decode cX10_fillBids 76 = .ok (.goto (-66), 3) := by decide +kernel
theorem dX10_fillBids_79 : decode cX10_fillBids 79 = .ok (.return_, 1) := by decide +kernel
theorem dX10_oneAfterAnother_0 : decode cX10_oneAfterAnother 0 = .ok (.iconst 0, 1) := by decide +kernel
theorem dX10_oneAfterAnother_1 : decode cX10_oneAfterAnother 1 = .ok (.istore_n 1, 1) := by decide +kernel
theorem dX10_oneAfterAnother_2 : decode cX10_oneAfterAnother 2 = .ok (.iload_n 1, 1) := by decide +kernel
theorem dX10_oneAfterAnother_3 : decode cX10_oneAfterAnother 3 = .ok (.aload_n 0, 1) := by decide +kernel
theorem dX10_oneAfterAnother_4 : decode cX10_oneAfterAnother 4 = .ok (.getfield 31, 3) := by decide +kernel
theorem dX10_oneAfterAnother_7 : decode cX10_oneAfterAnother 7 = .ok (.getfield 80, 3) := by decide +kernel
theorem dX10_oneAfterAnother_10 : decode cX10_oneAfterAnother 10 = .ok (.if_icmp .ge 36, 3) := by decide +kernel
theorem dX10_oneAfterAnother_13 : decode cX10_oneAfterAnother 13 = .ok (.aload_n 0, 1) := by decide +kernel
theorem dX10_oneAfterAnother_14 : decode cX10_oneAfterAnother 14 = .ok (.getfield 31, 3) := by decide +kernel
theorem dX10_oneAfterAnother_17 : decode cX10_oneAfterAnother 17 = .ok (.getfield 98, 3) := by decide +kernel
theorem dX10_oneAfterAnother_20 : decode cX10_oneAfterAnother 20 = .ok (.iload_n 1, 1) := by decide +kernel
theorem dX10_oneAfterAnother_21 : decode cX10_oneAfterAnother 21 = .ok (.aaload, 1) := by decide +kernel
theorem dX10_oneAfterAnother_22 : decode cX10_oneAfterAnother 22 = .ok (.astore_n 2, 1) := by decide +kernel
theorem dX10_oneAfterAnother_23 : decode cX10_oneAfterAnother 23 = .ok (.aload_n 0, 1) := by decide +kernel
theorem dX10_oneAfterAnother_24 : decode cX10_oneAfterAnother 24 = .ok (.iload_n 1, 1) := by decide +kernel
theorem dX10_oneAfterAnother_25 : decode cX10_oneAfterAnother 25 = .ok (.aload_n 2, 1) := by decide +kernel
theorem dX10_oneAfterAnother_26 : decode cX10_oneAfterAnother 26 = .ok (.aload_n 2, 1) := by decide +kernel
theorem dX10_oneAfterAnother_27 : decode cX10_oneAfterAnother 27 = .ok (.aload_n 0, 1) := by decide +kernel
theorem dX10_oneAfterAnother_28 : decode cX10_oneAfterAnother 28 = .ok (.invokevirtual 156, 3) := by decide +kernel
theorem dX10_oneAfterAnother_31 : decode cX10_oneAfterAnother 31 = .ok (.invokevirtual 159, 3) := by decide +kernel
theorem dX10_oneAfterAnother_34 : decode cX10_oneAfterAnother 34 = .ok (.invokevirtual 106, 3) := by decide +kernel
theorem dX10_oneAfterAnother_37 : decode cX10_oneAfterAnother 37 = .ok (.invokevirtual 145, 3) := by decide +kernel
theorem dX10_oneAfterAnother_40 : decode cX10_oneAfterAnother 40 = .ok (.iinc 1 1, 3) := by decide +kernel
theorem dX10_oneAfterAnother_43 : decode cX10_oneAfterAnother 43 = .ok (.goto (-41), 3) := by decide +kernel
theorem dX10_oneAfterAnother_46 : decode cX10_oneAfterAnother 46 = .ok (.return_, 1) := by decide +kernel
theorem dX10_openLessons_0 : decode cX10_openLessons 0 = .ok (.iconst 0, 1) := by decide +kernel
theorem dX10_openLessons_1 : decode cX10_openLessons 1 = .ok (.istore_n 1, 1) := by decide +kernel
theorem dX10_openLessons_2 : decode cX10_openLessons 2 = .ok (.iconst 0, 1) := by decide +kernel
theorem dX10_openLessons_3 : decode cX10_openLessons 3 = .ok (.istore_n 2, 1) := by decide +kernel
theorem dX10_openLessons_4 : decode cX10_openLessons 4 = .ok (.iload_n 2, 1) := by decide +kernel
theorem dX10_openLessons_5 : decode cX10_openLessons 5 = .ok (.aload_n 0, 1) := by decide +kernel
theorem dX10_openLessons_6 : decode cX10_openLessons 6 = .ok (.getfield 27, 3) := by decide +kernel
theorem dX10_openLessons_9 : decode cX10_openLessons 9 = .ok (.getfield 71, 3) := by decide +kernel
theorem dX10_openLessons_12 : decode cX10_openLessons 12 = .ok (.if_icmp .ge 24, 3) := by decide +kernel
theorem dX10_openLessons_15 : decode cX10_openLessons 15 = .ok (.aload_n 0, 1) := by decide +kernel
theorem dX10_openLessons_16 : decode cX10_openLessons 16 = .ok (.getfield 15, 3) := by decide +kernel
theorem dX10_openLessons_19 : decode cX10_openLessons 19 = .ok (.iload_n 2, 1) := by decide +kernel
theorem dX10_openLessons_20 : decode cX10_openLessons 20 = .ok (.iaload, 1) := by decide +kernel
theorem dX10_openLessons_21 : decode cX10_openLessons 21 = .ok (.ifCond .le 9, 3) := by decide +kernel
theorem dX10_openLessons_24 : decode cX10_openLessons 24 = .ok (.iload_n 1, 1) := by decide +kernel
theorem dX10_openLessons_25 : decode cX10_openLessons 25 = .ok (.iconst 1, 1) := by decide +kernel
theorem dX10_openLessons_26 : decode cX10_openLessons 26 = .ok (.iload_n 2, 1) := by decide +kernel
theorem dX10_openLessons_27 : decode cX10_openLessons 27 = .ok (.ishl, 1) := by decide +kernel
theorem dX10_openLessons_28 : decode cX10_openLessons 28 = .ok (.ior, 1) := by decide +kernel
theorem dX10_openLessons_29 : decode cX10_openLessons 29 = .ok (.istore_n 1, 1) := by decide +kernel
theorem dX10_openLessons_30 : decode cX10_openLessons 30 = .ok (.iinc 2 1, 3) := by decide +kernel
theorem dX10_openLessons_33 : decode cX10_openLessons 33 = .ok (.goto (-29), 3) := by decide +kernel
theorem dX10_openLessons_36 : decode cX10_openLessons 36 = .ok (.iload_n 1, 1) := by decide +kernel
theorem dX10_openLessons_37 : decode cX10_openLessons 37 = .ok (.ireturn, 1) := by decide +kernel
theorem dX10_byHand_0 : decode cX10_byHand 0 = .ok (.iconst 0, 1) := by decide +kernel
theorem dX10_byHand_1 : decode cX10_byHand 1 = .ok (.istore_n 1, 1) := by decide +kernel
theorem dX10_byHand_2 : decode cX10_byHand 2 = .ok (.iload_n 1, 1) := by decide +kernel
theorem dX10_byHand_3 : decode cX10_byHand 3 = .ok (.aload_n 0, 1) := by decide +kernel
theorem dX10_byHand_4 : decode cX10_byHand 4 = .ok (.getfield 31, 3) := by decide +kernel
theorem dX10_byHand_7 : decode cX10_byHand 7 = .ok (.getfield 80, 3) := by decide +kernel
theorem dX10_byHand_10 : decode cX10_byHand 10 = .ok (.if_icmp .ge 27, 3) := by decide +kernel
theorem dX10_byHand_13 : decode cX10_byHand 13 = .ok (.aload_n 0, 1) := by decide +kernel
theorem dX10_byHand_14 : decode cX10_byHand 14 = .ok (.getfield 9, 3) := by decide +kernel
theorem dX10_byHand_17 : decode cX10_byHand 17 = .ok (.iload_n 1, 1) := by decide +kernel
theorem dX10_byHand_18 : decode cX10_byHand 18 = .ok (.aload_n 0, 1) := by decide +kernel
theorem dX10_byHand_19 : decode cX10_byHand 19 = .ok (.getfield 31, 3) := by decide +kernel
theorem dX10_byHand_22 : decode cX10_byHand 22 = .ok (.getfield 98, 3) := by decide +kernel
theorem dX10_byHand_25 : decode cX10_byHand 25 = .ok (.iload_n 1, 1) := by decide +kernel
theorem dX10_byHand_26 : decode cX10_byHand 26 = .ok (.aaload, 1) := by decide +kernel
theorem dX10_byHand_27 : decode cX10_byHand 27 = .ok (.getfield 162, 3) := by decide +kernel
theorem dX10_byHand_30 : decode cX10_byHand 30 = .ok (.iastore, 1) := by decide +kernel
theorem dX10_byHand_31 : decode cX10_byHand 31 = .ok (.iinc 1 1, 3) := by decide +kernel
theorem dX10_byHand_34 : decode cX10_byHand 34 = .ok (.goto (-32), 3) := by decide +kernel
theorem dX10_byHand_37 : decode cX10_byHand 37 = .ok (.aload_n 0, 1) := by decide +kernel
theorem dX10_byHand_38 : decode cX10_byHand 38 = .ok (.invokevirtual 50, 3) := by decide +kernel
theorem dX10_byHand_41 : decode cX10_byHand 41 = .ok (.return_, 1) := by decide +kernel
theorem dX11_init_0 : decode cX11_init 0 = .ok (.aload_n 0, 1) := by decide +kernel
theorem dX11_init_1 : decode cX11_init 1 = .ok (.invokespecial 1, 3) := by decide +kernel
theorem dX11_init_4 : decode cX11_init 4 = .ok (.aload_n 0, 1) := by decide +kernel
theorem dX11_init_5 : decode cX11_init 5 = .ok (.new 7, 3) := by decide +kernel
theorem dX11_init_8 : decode cX11_init 8 = .ok (.dup, 1) := by decide +kernel
theorem dX11_init_9 : decode cX11_init 9 = .ok (.invokespecial 9, 3) := by decide +kernel
theorem dX11_init_12 : decode cX11_init 12 = .ok (.putfield 10, 3) := by decide +kernel
theorem dX11_init_15 : decode cX11_init 15 = .ok (.aload_n 0, 1) := by decide +kernel
theorem dX11_init_16 : decode cX11_init 16 = .ok (.new 16, 3) := by decide +kernel
theorem dX11_init_19 : decode cX11_init 19 = .ok (.dup, 1) := by decide +kernel
theorem dX11_init_20 : decode cX11_init 20 = .ok (.aload_n 0, 1) := by decide +kernel
theorem dX11_init_21 : decode cX11_init 21 = .ok (.getfield 10, 3) := by decide +kernel
theorem dX11_init_24 : decode cX11_init 24 = .ok (.invokespecial 18, 3) := by decide +kernel
theorem dX11_init_27 : decode cX11_init 27 = .ok (.putfield 21, 3) := by decide +kernel
theorem dX11_init_30 : decode cX11_init 30 = .ok (.aload_n 0, 1) := by decide +kernel
theorem dX11_init_31 : decode cX11_init 31 = .ok (.new 25, 3) := by decide +kernel
theorem dX11_init_34 : decode cX11_init 34 = .ok (.dup, 1) := by decide +kernel
theorem dX11_init_35 : decode cX11_init 35 = .ok (.aload_n 0, 1) := by decide +kernel
theorem dX11_init_36 : decode cX11_init 36 = .ok (.getfield 21, 3) := by decide +kernel
theorem dX11_init_39 : decode cX11_init 39 = .ok (.invokespecial 27, 3) := by decide +kernel
theorem dX11_init_42 : decode cX11_init 42 = .ok (.putfield 30, 3) := by decide +kernel
theorem dX11_init_45 : decode cX11_init 45 = .ok (.aload_n 0, 1) := by decide +kernel
theorem dX11_init_46 : decode cX11_init 46 = .ok (.new 34, 3) := by decide +kernel
theorem dX11_init_49 : decode cX11_init 49 = .ok (.dup, 1) := by decide +kernel
theorem dX11_init_50 : decode cX11_init 50 = .ok (.invokespecial 36, 3) := by decide +kernel
theorem dX11_init_53 : decode cX11_init 53 = .ok (.putfield 37, 3) := by decide +kernel
theorem dX11_init_56 : decode cX11_init 56 = .ok (.aload_n 0, 1) := by decide +kernel
theorem dX11_init_57 : decode cX11_init 57 = .ok (.new 41, 3) := by decide +kernel
theorem dX11_init_60 : decode cX11_init 60 = .ok (.dup, 1) := by decide +kernel
theorem dX11_init_61 : decode cX11_init 61 = .ok (.aload_n 0, 1) := by decide +kernel
theorem dX11_init_62 : decode cX11_init 62 = .ok (.getfield 37, 3) := by decide +kernel
theorem dX11_init_65 : decode cX11_init 65 = .ok (.invokespecial 43, 3) := by decide +kernel
theorem dX11_init_68 : decode cX11_init 68 = .ok (.putfield 46, 3) := by decide +kernel
theorem dX11_init_71 : decode cX11_init 71 = .ok (.aload_n 0, 1) := by decide +kernel
theorem dX11_init_72 : decode cX11_init 72 = .ok (.new 50, 3) := by decide +kernel
theorem dX11_init_75 : decode cX11_init 75 = .ok (.dup, 1) := by decide +kernel
theorem dX11_init_76 : decode cX11_init 76 = .ok (.aload_n 0, 1) := by decide +kernel
theorem dX11_init_77 : decode cX11_init 77 = .ok (.getfield 10, 3) := by decide +kernel
theorem dX11_init_80 : decode cX11_init 80 = .ok (.aload_n 0, 1) := by decide +kernel
theorem dX11_init_81 : decode cX11_init 81 = .ok (.getfield 30, 3) := by decide +kernel
theorem dX11_init_84 : decode cX11_init 84 = .ok (.invokespecial 52, 3) := by decide +kernel
theorem dX11_init_87 : decode cX11_init 87 = .ok (.putfield 55, 3) := by decide +kernel
theorem dX11_init_90 : decode cX11_init 90 = .ok (.aload_n 0, 1) := by decide +kernel
theorem dX11_init_91 : decode cX11_init 91 = .ok (.new 59, 3) := by decide +kernel
theorem dX11_init_94 : decode cX11_init 94 = .ok (.dup, 1) := by decide +kernel
theorem dX11_init_95 : decode cX11_init 95 = .ok (.aload_n 0, 1) := by decide +kernel
theorem dX11_init_96 : decode cX11_init 96 = .ok (.getfield 10, 3) := by decide +kernel
theorem dX11_init_99 : decode cX11_init 99 = .ok (.aload_n 0, 1) := by decide +kernel
theorem dX11_init_100 : decode cX11_init 100 = .ok (.getfield 55, 3) := by decide +kernel
theorem dX11_init_103 : decode cX11_init 103 = .ok (.invokespecial 61, 3) := by decide +kernel
theorem dX11_init_106 : decode cX11_init 106 = .ok (.putfield 64, 3) := by decide +kernel
theorem dX11_init_109 : decode cX11_init 109 = .ok (.aload_n 0, 1) := by decide +kernel
theorem dX11_init_110 : decode cX11_init 110 = .ok (.new 68, 3) := by decide +kernel
theorem dX11_init_113 : decode cX11_init 113 = .ok (.dup, 1) := by decide +kernel
theorem dX11_init_114 : decode cX11_init 114 = .ok (.aload_n 0, 1) := by decide +kernel
theorem dX11_init_115 : decode cX11_init 115 = .ok (.getfield 10, 3) := by decide +kernel
theorem dX11_init_118 : decode cX11_init 118 = .ok (.aload_n 0, 1) := by decide +kernel
theorem dX11_init_119 : decode cX11_init 119 = .ok (.getfield 30, 3) := by decide +kernel
theorem dX11_init_122 : decode cX11_init 122 = .ok (.aload_n 0, 1) := by decide +kernel
theorem dX11_init_123 : decode cX11_init 123 = .ok (.getfield 55, 3) := by decide +kernel
theorem dX11_init_126 : decode cX11_init 126 = .ok (.invokespecial 70, 3) := by decide +kernel
theorem dX11_init_129 : decode cX11_init 129 = .ok (.putfield 73, 3) := by decide +kernel
theorem dX11_init_132 : decode cX11_init 132 = .ok (.aload_n 0, 1) := by decide +kernel
theorem dX11_init_133 : decode cX11_init 133 = .ok (.new 77, 3) := by decide +kernel
theorem dX11_init_136 : decode cX11_init 136 = .ok (.dup, 1) := by decide +kernel
theorem dX11_init_137 : decode cX11_init 137 = .ok (.aload_n 0, 1) := by decide +kernel
theorem dX11_init_138 : decode cX11_init 138 = .ok (.getfield 10, 3) := by decide +kernel
theorem dX11_init_141 : decode cX11_init 141 = .ok (.aload_n 0, 1) := by decide +kernel
theorem dX11_init_142 : decode cX11_init 142 = .ok (.getfield 30, 3) := by decide +kernel
theorem dX11_init_145 : decode cX11_init 145 = .ok (.aload_n 0, 1) := by decide +kernel
theorem dX11_init_146 : decode cX11_init 146 = .ok (.getfield 73, 3) := by decide +kernel
theorem dX11_init_149 : decode cX11_init 149 = .ok (.invokespecial 79, 3) := by decide +kernel
theorem dX11_init_152 : decode cX11_init 152 = .ok (.putfield 82, 3) := by decide +kernel
theorem dX11_init_155 : decode cX11_init 155 = .ok (.aload_n 0, 1) := by decide +kernel
theorem dX11_init_156 : decode cX11_init 156 = .ok (.new 86, 3) := by decide +kernel
theorem dX11_init_159 : decode cX11_init 159 = .ok (.dup, 1) := by decide +kernel
theorem dX11_init_160 : decode cX11_init 160 = .ok (.aload_n 0, 1) := by decide +kernel
theorem dX11_init_161 : decode cX11_init 161 = .ok (.getfield 10, 3) := by decide +kernel
theorem dX11_init_164 : decode cX11_init 164 = .ok (.aload_n 0, 1) := by decide +kernel
theorem dX11_init_165 : decode cX11_init 165 = .ok (.getfield 30, 3) := by decide +kernel
theorem dX11_init_168 : decode cX11_init 168 = .ok (.aload_n 0, 1) := by decide +kernel
theorem dX11_init_169 : decode cX11_init 169 = .ok (.getfield 73, 3) := by decide +kernel
theorem dX11_init_172 : decode cX11_init 172 = .ok (.invokespecial 88, 3) := by decide +kernel
theorem dX11_init_175 : decode cX11_init 175 = .ok (.putfield 89, 3) := by decide +kernel
theorem dX11_init_178 : decode cX11_init 178 = .ok (.aload_n 0, 1) := by decide +kernel
theorem dX11_init_179 : decode cX11_init 179 = .ok (.new 93, 3) := by decide +kernel
theorem dX11_init_182 : decode cX11_init 182 = .ok (.dup, 1) := by decide +kernel
theorem dX11_init_183 : decode cX11_init 183 = .ok (.iconst 0, 1) := by decide +kernel
theorem dX11_init_184 : decode cX11_init 184 = .ok (.iconst 0, 1) := by decide +kernel
theorem dX11_init_185 : decode cX11_init 185 = .ok (.invokespecial 95, 3) := by decide +kernel
theorem dX11_init_188 : decode cX11_init 188 = .ok (.putfield 98, 3) := by decide +kernel
theorem dX11_init_191 : decode cX11_init 191 = .ok (.aload_n 0, 1) := by decide +kernel
theorem dX11_init_192 : decode cX11_init 192 = .ok (.iconst (-1), 1) := by decide +kernel
theorem dX11_init_193 : decode cX11_init 193 = .ok (.putfield 102, 3) := by decide +kernel
theorem dX11_init_196 : decode cX11_init 196 = .ok (.return_, 1) := by decide +kernel
theorem dX11_lesson_0 : decode cX11_lesson 0 = .ok (.aload_n 0, 1) := by decide +kernel
theorem dX11_lesson_1 : decode cX11_lesson 1 = .ok (.getfield 10, 3) := by decide +kernel
theorem dX11_lesson_4 : decode cX11_lesson 4 = .ok (.iload_n 1, 1) := by decide +kernel
theorem dX11_lesson_5 : decode cX11_lesson 5 = .ok (.iload_n 2, 1) := by decide +kernel
theorem dX11_lesson_6 : decode cX11_lesson 6 = .ok (.iload_n 3, 1) := by decide +kernel
theorem dX11_lesson_7 : decode cX11_lesson 7 = .ok (.invokevirtual 106, 3) := by decide +kernel
theorem dX11_lesson_10 : decode cX11_lesson 10 = .ok (.istore 4, 2) := by decide +kernel
theorem dX11_lesson_12 : decode cX11_lesson 12 = .ok (.iload 4, 2) := by decide +kernel
theorem dX11_lesson_14 : decode cX11_lesson 14 = .ok (.iconst (-1), 1) := by decide +kernel
theorem dX11_lesson_15 : decode cX11_lesson 15 = .ok (.if_icmp .eq 10, 3) := by decide +kernel
theorem dX11_lesson_18 : decode cX11_lesson 18 = .ok (.aload_n 0, 1) := by decide +kernel
theorem dX11_lesson_19 : decode cX11_lesson 19 = .ok (.getfield 30, 3) := by decide +kernel
theorem dX11_lesson_22 : decode cX11_lesson 22 = .ok (.invokevirtual 110, 3) := by decide +kernel
theorem dX11_lesson_25 : decode cX11_lesson 25 = .ok (.iload 4, 2) := by decide +kernel
theorem dX11_lesson_27 : decode cX11_lesson 27 = .ok (.ireturn, 1) := by decide +kernel
theorem dX11_places_0 : decode cX11_places 0 = .ok (.aload_n 0, 1) := by decide +kernel
theorem dX11_places_1 : decode cX11_places 1 = .ok (.getfield 10, 3) := by decide +kernel
theorem dX11_places_4 : decode cX11_places 4 = .ok (.iload_n 1, 1) := by decide +kernel
theorem dX11_places_5 : decode cX11_places 5 = .ok (.invokevirtual 113, 3) := by decide +kernel
theorem dX11_places_8 : decode cX11_places 8 = .ok (.ifCond .eq 13, 3) := by decide +kernel
theorem dX11_places_11 : decode cX11_places 11 = .ok (.iload_n 2, 1) := by decide +kernel
theorem dX11_places_12 : decode cX11_places 12 = .ok (.ifCond .lt 9, 3) := by decide +kernel
theorem dX11_places_15 : decode cX11_places 15 = .ok (.iload_n 2, 1) := by decide +kernel
theorem dX11_places_16 : decode cX11_places 16 = .ok (.bipush 9, 2) := by decide +kernel
theorem dX11_places_18 : decode cX11_places 18 = .ok (.if_icmp .le 5, 3) := by decide +kernel
theorem dX11_places_21 : decode cX11_places 21 = .ok (.iconst 0, 1) := by decide +kernel
theorem dX11_places_22 : decode cX11_places 22 = .ok (.ireturn, 1) := by decide +kernel
theorem dX11_places_23 : decode cX11_places 23 = .ok (.aload_n 0, 1) := by decide +kernel
theorem dX11_places_24 : decode cX11_places 24 = .ok (.getfield 10, 3) := by decide +kernel
theorem dX11_places_27 : decode cX11_places 27 = .ok (.getfield 117, 3) := by decide +kernel
theorem dX11_places_30 : decode cX11_places 30 = .ok (.iload_n 1, 1) := by decide +kernel
theorem dX11_places_31 : decode cX11_places 31 = .ok (.iload_n 2, 1) := by decide +kernel
theorem dX11_places_32 : decode cX11_places 32 = .ok (.iastore, 1) := by decide +kernel
theorem dX11_places_33 : decode cX11_places 33 = .ok (.iconst 1, 1) := by decide +kernel
theorem dX11_places_34 : decode cX11_places 34 = .ok (.ireturn, 1) := by decide +kernel
theorem dX11_after_0 : decode cX11_after 0 = .ok (.aload_n 0, 1) := by decide +kernel
theorem dX11_after_1 : decode cX11_after 1 = .ok (.getfield 10, 3) := by decide +kernel
theorem dX11_after_4 : decode cX11_after 4 = .ok (.iload_n 1, 1) := by decide +kernel
theorem dX11_after_5 : decode cX11_after 5 = .ok (.iload_n 2, 1) := by decide +kernel
theorem dX11_after_6 : decode cX11_after 6 = .ok (.invokevirtual 121, 3) := by decide +kernel
theorem dX11_after_9 : decode cX11_after 9 = .ok (.istore_n 3, 1) := by decide +kernel
theorem dX11_after_10 : decode cX11_after 10 = .ok (.iload_n 3, 1) := by decide +kernel
theorem dX11_after_11 : decode cX11_after 11 = .ok (.iconst (-1), 1) := by decide +kernel
theorem dX11_after_12 : decode cX11_after 12 = .ok (.if_icmp .eq 10, 3) := by decide +kernel
theorem dX11_after_15 : decode cX11_after 15 = .ok (.aload_n 0, 1) := by decide +kernel
theorem dX11_after_16 : decode cX11_after 16 = .ok (.getfield 30, 3) := by decide +kernel
theorem dX11_after_19 : decode cX11_after 19 = .ok (.invokevirtual 110, 3) := by decide +kernel
theorem dX11_after_22 : decode cX11_after 22 = .ok (.iload_n 3, 1) := by decide +kernel
theorem dX11_after_23 : decode cX11_after 23 = .ok (.ireturn, 1) := by decide +kernel
theorem dX11_most_0 : decode cX11_most 0 = .ok (.iload_n 1, 1) := by decide +kernel
theorem dX11_most_1 : decode cX11_most 1 = .ok (.iconst 1, 1) := by decide +kernel
theorem dX11_most_2 : decode cX11_most 2 = .ok (.if_icmp .lt 9, 3) := by decide +kernel
theorem dX11_most_5 : decode cX11_most 5 = .ok (.iload_n 1, 1) := by decide +kernel
theorem dX11_most_6 : decode cX11_most 6 = .ok (.bipush 6, 2) := by decide +kernel
theorem dX11_most_8 : decode cX11_most 8 = .ok (.if_icmp .le 5, 3) := by decide +kernel
theorem dX11_most_11 : decode cX11_most 11 = .ok (.iconst 0, 1) := by decide +kernel
theorem dX11_most_12 : decode cX11_most 12 = .ok (.ireturn, 1) := by decide +kernel
theorem dX11_most_13 : decode cX11_most 13 = .ok (.aload_n 0, 1) := by decide +kernel
theorem dX11_most_14 : decode cX11_most 14 = .ok (.getfield 10, 3) := by decide +kernel
theorem dX11_most_17 : decode cX11_most 17 = .ok (.iload_n 1, 1) := by decide +kernel
theorem dX11_most_18 : decode cX11_most 18 = .ok (.putfield 125, 3) := by decide +kernel
theorem dX11_most_21 : decode cX11_most 21 = .ok (.aload_n 0, 1) := by decide +kernel
theorem dX11_most_22 : decode cX11_most 22 = .ok (.getfield 30, 3) := by decide +kernel
theorem dX11_most_25 : decode cX11_most 25 = .ok (.invokevirtual 110, 3) := by decide +kernel
theorem dX11_most_28 : decode cX11_most 28 = .ok (.iconst 1, 1) := by decide +kernel
theorem dX11_most_29 : decode cX11_most 29 = .ok (.ireturn, 1) := by decide +kernel
theorem dX11_person_0 : decode cX11_person 0 = .ok (.iload_n 1, 1) := by decide +kernel
theorem dX11_person_1 : decode cX11_person 1 = .ok (.invokestatic 128, 3) := by decide +kernel
theorem dX11_person_4 : decode cX11_person 4 = .ok (.ifCond .eq 10, 3) := by decide +kernel
theorem dX11_person_7 : decode cX11_person 7 = .ok (.iload_n 2, 1) := by decide +kernel
theorem dX11_person_8 : decode cX11_person 8 = .ok (.invokestatic 131, 3) := by decide +kernel
theorem dX11_person_11 : decode cX11_person 11 = .ok (.ifCond .ne 5, 3) := by decide +kernel
theorem dX11_person_14 : decode cX11_person 14 = .ok (.iconst (-1), 1) := by decide +kernel
theorem dX11_person_15 : decode cX11_person 15 = .ok (.ireturn, 1) := by decide +kernel
theorem dX11_person_16 : decode cX11_person 16 = .ok (.aload_n 0, 1) := by decide +kernel
theorem dX11_person_17 : decode cX11_person 17 = .ok (.getfield 30, 3) := by decide +kernel
theorem dX11_person_20 : decode cX11_person 20 = .ok (.iload_n 1, 1) := by decide +kernel
theorem dX11_person_21 : decode cX11_person 21 = .ok (.iload_n 2, 1) := by decide +kernel
theorem dX11_person_22 : decode cX11_person 22 = .ok (.invokevirtual 134, 3) := by decide +kernel
theorem dX11_person_25 : decode cX11_person 25 = .ok (.ireturn, 1) := by decide +kernel
theorem dX11_purse_0 : decode cX11_purse 0 = .ok (.aload_n 0, 1) := by decide +kernel
theorem dX11_purse_1 : decode cX11_purse 1 = .ok (.getfield 30, 3) := by decide +kernel
theorem dX11_purse_4 : decode cX11_purse 4 = .ok (.iload_n 1, 1) := by decide +kernel
theorem dX11_purse_5 : decode cX11_purse 5 = .ok (.invokevirtual 137, 3) := by decide +kernel
theorem dX11_purse_8 : decode cX11_purse 8 = .ok (.ifCond .eq 10, 3) := by decide +kernel
theorem dX11_purse_11 : decode cX11_purse 11 = .ok (.iload_n 2, 1) := by decide +kernel
theorem dX11_purse_12 : decode cX11_purse 12 = .ok (.invokestatic 128, 3) := by decide +kernel
theorem dX11_purse_15 : decode cX11_purse 15 = .ok (.ifCond .ne 5, 3) := by decide +kernel
theorem dX11_purse_18 : decode cX11_purse 18 = .ok (.iconst 0, 1) := by decide +kernel
theorem dX11_purse_19 : decode cX11_purse 19 = .ok (.ireturn, 1) := by decide +kernel
theorem dX11_purse_20 : decode cX11_purse 20 = .ok (.aload_n 0, 1) := by decide +kernel
theorem dX11_purse_21 : decode cX11_purse 21 = .ok (.getfield 30, 3) := by decide +kernel
theorem dX11_purse_24 : decode cX11_purse 24 = .ok (.getfield 140, 3) := by decide +kernel
theorem dX11_purse_27 : decode cX11_purse 27 = .ok (.iload_n 1, 1) := by decide +kernel
theorem dX11_purse_28 : decode cX11_purse 28 = .ok (.aaload, 1) := by decide +kernel
theorem dX11_purse_29 : decode cX11_purse 29 = .ok (.astore_n 3, 1) := by decide +kernel
theorem dX11_purse_30 : decode cX11_purse 30 = .ok (.aload_n 3, 1) := by decide +kernel
theorem dX11_purse_31 : decode cX11_purse 31 = .ok (.iload_n 2, 1) := by decide +kernel
theorem dX11_purse_32 : decode cX11_purse 32 = .ok (.putfield 144, 3) := by decide +kernel
theorem dX11_purse_35 : decode cX11_purse 35 = .ok (.aload_n 3, 1) := by decide +kernel
theorem dX11_purse_36 : decode cX11_purse 36 = .ok (.iconst 0, 1) := by decide +kernel
theorem dX11_purse_37 : decode cX11_purse 37 = .ok (.putfield 147, 3) := by decide +kernel
theorem dX11_purse_40 : decode cX11_purse 40 = .ok (.iconst 1, 1) := by decide +kernel
theorem dX11_purse_41 : decode cX11_purse 41 = .ok (.ireturn, 1) := by decide +kernel
theorem dX11_feed_0 : decode cX11_feed 0 = .ok (.aload_n 0, 1) := by decide +kernel
theorem dX11_feed_1 : decode cX11_feed 1 = .ok (.getfield 37, 3) := by decide +kernel
theorem dX11_feed_4 : decode cX11_feed 4 = .ok (.getfield 151, 3) := by decide +kernel
theorem dX11_feed_7 : decode cX11_feed 7 = .ok (.bipush 20, 2) := by decide +kernel
theorem dX11_feed_9 : decode cX11_feed 9 = .ok (.iadd, 1) := by decide +kernel
theorem dX11_feed_10 : decode cX11_feed 10 = .ok (.sipush 400, 3) := by decide +kernel
theorem dX11_feed_13 : decode cX11_feed 13 = .ok (.if_icmp .le 5, 3) := by decide +kernel
theorem dX11_feed_16 : decode cX11_feed 16 = .ok (.iconst (-1), 1) := by decide +kernel
theorem dX11_feed_17 : decode cX11_feed 17 = .ok (.ireturn, 1) := by decide +kernel
theorem dX11_feed_18 : decode cX11_feed 18 = .ok (.aload_n 0, 1) := by decide +kernel
theorem dX11_feed_19 : decode cX11_feed 19 = .ok (.getfield 37, 3) := by decide +kernel
theorem dX11_feed_22 : decode cX11_feed 22 = .ok (.iload_n 1, 1) := by decide +kernel
theorem dX11_feed_23 : decode cX11_feed 23 = .ok (.invokevirtual 154, 3) := by decide +kernel
theorem dX11_feed_26 : decode cX11_feed 26 = .ok (.aload_n 0, 1) := by decide +kernel
theorem dX11_feed_27 : decode cX11_feed 27 = .ok (.getfield 37, 3) := by decide +kernel
theorem dX11_feed_30 : decode cX11_feed 30 = .ok (.iload_n 2, 1) := by decide +kernel
theorem dX11_feed_31 : decode cX11_feed 31 = .ok (.invokevirtual 154, 3) := by decide +kernel
theorem dX11_feed_34 : decode cX11_feed 34 = .ok (.aload_n 0, 1) := by decide +kernel
theorem dX11_feed_35 : decode cX11_feed 35 = .ok (.getfield 37, 3) := by decide +kernel
theorem dX11_feed_38 : decode cX11_feed 38 = .ok (.iload_n 3, 1) := by decide +kernel
theorem dX11_feed_39 : decode cX11_feed 39 = .ok (.invokevirtual 154, 3) := by decide +kernel
theorem dX11_feed_42 : decode cX11_feed 42 = .ok (.aload_n 0, 1) := by decide +kernel
theorem dX11_feed_43 : decode cX11_feed 43 = .ok (.getfield 37, 3) := by decide +kernel
theorem dX11_feed_46 : decode cX11_feed 46 = .ok (.iload 4, 2) := by decide +kernel
theorem dX11_feed_48 : decode cX11_feed 48 = .ok (.invokevirtual 154, 3) := by decide +kernel
theorem dX11_feed_51 : decode cX11_feed 51 = .ok (.aload_n 0, 1) := by decide +kernel
theorem dX11_feed_52 : decode cX11_feed 52 = .ok (.getfield 37, 3) := by decide +kernel
theorem dX11_feed_55 : decode cX11_feed 55 = .ok (.iload 5, 2) := by decide +kernel
theorem dX11_feed_57 : decode cX11_feed 57 = .ok (.invokevirtual 154, 3) := by decide +kernel
theorem dX11_feed_60 : decode cX11_feed 60 = .ok (.aload_n 0, 1) := by decide +kernel
theorem dX11_feed_61 : decode cX11_feed 61 = .ok (.getfield 37, 3) := by decide +kernel
theorem dX11_feed_64 : decode cX11_feed 64 = .ok (.getfield 151, 3) := by decide +kernel
theorem dX11_feed_67 : decode cX11_feed 67 = .ok (.ireturn, 1) := by decide +kernel
theorem dX11_wish_0 : decode cX11_wish 0 = .ok (.aload_n 0, 1) := by decide +kernel
theorem dX11_wish_1 : decode cX11_wish 1 = .ok (.getfield 30, 3) := by decide +kernel
theorem dX11_wish_4 : decode cX11_wish 4 = .ok (.iload_n 1, 1) := by decide +kernel
theorem dX11_wish_5 : decode cX11_wish 5 = .ok (.invokevirtual 137, 3) := by decide +kernel
theorem dX11_wish_8 : decode cX11_wish 8 = .ok (.ifCond .eq 18, 3) := by decide +kernel
theorem dX11_wish_11 : decode cX11_wish 11 = .ok (.iload_n 2, 1) := by decide +kernel
theorem dX11_wish_12 : decode cX11_wish 12 = .ok (.ifCond .lt 14, 3) := by decide +kernel
theorem dX11_wish_15 : decode cX11_wish 15 = .ok (.iload_n 2, 1) := by decide +kernel
theorem dX11_wish_16 : decode cX11_wish 16 = .ok (.aload_n 0, 1) := by decide +kernel
theorem dX11_wish_17 : decode cX11_wish 17 = .ok (.getfield 37, 3) := by decide +kernel
theorem dX11_wish_20 : decode cX11_wish 20 = .ok (.getfield 151, 3) := by decide +kernel
theorem dX11_wish_23 : decode cX11_wish 23 = .ok (.if_icmp .le 6, 3) := by decide +kernel
theorem dX11_wish_26 : decode cX11_wish 26 = .ok (.bipush (-2), 2) := by decide +kernel
theorem dX11_wish_28 : decode cX11_wish 28 = .ok (.ireturn, 1) := by decide +kernel
theorem dX11_wish_29 : decode cX11_wish 29 = .ok (.aload_n 0, 1) := by decide +kernel
theorem dX11_wish_30 : decode cX11_wish 30 = .ok (.getfield 46, 3) := by decide +kernel
theorem dX11_wish_33 : decode cX11_wish 33 = .ok (.iload_n 2, 1) := by decide +kernel
theorem dX11_wish_34 : decode cX11_wish 34 = .ok (.invokevirtual 158, 3) := by decide +kernel
theorem dX11_wish_37 : decode cX11_wish 37 = .ok (.istore_n 3, 1) := by decide +kernel
theorem dX11_wish_38 : decode cX11_wish 38 = .ok (.aload_n 0, 1) := by decide +kernel
theorem dX11_wish_39 : decode cX11_wish 39 = .ok (.aload_n 0, 1) := by decide +kernel
theorem dX11_wish_40 : decode cX11_wish 40 = .ok (.getfield 46, 3) := by decide +kernel
theorem dX11_wish_43 : decode cX11_wish 43 = .ok (.getfield 162, 3) := by decide +kernel
theorem dX11_wish_46 : decode cX11_wish 46 = .ok (.putfield 102, 3) := by decide +kernel
theorem dX11_wish_49 : decode cX11_wish 49 = .ok (.iload_n 3, 1) := by decide +kernel
theorem dX11_wish_50 : decode cX11_wish 50 = .ok (.iconst (-1), 1) := by decide +kernel
theorem dX11_wish_51 : decode cX11_wish 51 = .ok (.if_icmp .eq 29, 3) := by decide +kernel
theorem dX11_wish_54 : decode cX11_wish 54 = .ok (.aload_n 0, 1) := by decide +kernel
theorem dX11_wish_55 : decode cX11_wish 55 = .ok (.getfield 30, 3) := by decide +kernel
theorem dX11_wish_58 : decode cX11_wish 58 = .ok (.getfield 140, 3) := by decide +kernel
theorem dX11_wish_61 : decode cX11_wish 61 = .ok (.iload_n 1, 1) := by decide +kernel
theorem dX11_wish_62 : decode cX11_wish 62 = .ok (.aaload, 1) := by decide +kernel
theorem dX11_wish_63 : decode cX11_wish 63 = .ok (.aload_n 0, 1) := by decide +kernel
theorem dX11_wish_64 : decode cX11_wish 64 = .ok (.getfield 46, 3) := by decide +kernel
theorem dX11_wish_67 : decode cX11_wish 67 = .ok (.getfield 165, 3) := by decide +kernel
theorem dX11_wish_70 : decode cX11_wish 70 = .ok (.aload_n 0, 1) := by decide +kernel
theorem dX11_wish_71 : decode cX11_wish 71 = .ok (.getfield 46, 3) := by decide +kernel
theorem dX11_wish_74 : decode cX11_wish 74 = .ok (.getfield 168, 3) := by decide +kernel
theorem dX11_wish_77 : decode cX11_wish 77 = .ok (.invokevirtual 169, 3) := by decide +kernel
theorem dX11_wish_80 : decode cX11_wish 80 = .ok (.iload_n 3, 1) := by decide +kernel
theorem dX11_wish_81 : decode cX11_wish 81 = .ok (.ireturn, 1) := by decide +kernel
theorem dX11_falsely_0 : decode cX11_falsely 0 = .ok (.iload_n 1, 1) := by decide +kernel
theorem dX11_falsely_1 : decode cX11_falsely 1 = .ok (.ifCond .lt 14, 3) := by decide +kernel
theorem dX11_falsely_4 : decode cX11_falsely 4 = .ok (.iload_n 1, 1) := by decide +kernel
theorem dX11_falsely_5 : decode cX11_falsely 5 = .ok (.aload_n 0, 1) := by decide +kernel
theorem dX11_falsely_6 : decode cX11_falsely 6 = .ok (.getfield 37, 3) := by decide +kernel
theorem dX11_falsely_9 : decode cX11_falsely 9 = .ok (.getfield 151, 3) := by decide +kernel
theorem dX11_falsely_12 : decode cX11_falsely 12 = .ok (.if_icmp .le 6, 3) := by decide +kernel
theorem dX11_falsely_15 : decode cX11_falsely 15 = .ok (.bipush (-2), 2) := by decide +kernel
theorem dX11_falsely_17 : decode cX11_falsely 17 = .ok (.ireturn, 1) := by decide +kernel
theorem dX11_falsely_18 : decode cX11_falsely 18 = .ok (.aload_n 0, 1) := by decide +kernel
theorem dX11_falsely_19 : decode cX11_falsely 19 = .ok (.getfield 46, 3) := by decide +kernel
theorem dX11_falsely_22 : decode cX11_falsely 22 = .ok (.iload_n 1, 1) := by decide +kernel
theorem dX11_falsely_23 : decode cX11_falsely 23 = .ok (.invokevirtual 158, 3) := by decide +kernel
theorem dX11_falsely_26 : decode cX11_falsely 26 = .ok (.istore_n 2, 1) := by decide +kernel
theorem dX11_falsely_27 : decode cX11_falsely 27 = .ok (.aload_n 0, 1) := by decide +kernel
theorem dX11_falsely_28 : decode cX11_falsely 28 = .ok (.aload_n 0, 1) := by decide +kernel
theorem dX11_falsely_29 : decode cX11_falsely 29 = .ok (.getfield 46, 3) := by decide +kernel
theorem dX11_falsely_32 : decode cX11_falsely 32 = .ok (.getfield 162, 3) := by decide +kernel
theorem dX11_falsely_35 : decode cX11_falsely 35 = .ok (.putfield 102, 3) := by decide +kernel
theorem dX11_falsely_38 : decode cX11_falsely 38 = .ok (.iload_n 2, 1) := by decide +kernel
theorem dX11_falsely_39 : decode cX11_falsely 39 = .ok (.iconst (-1), 1) := by decide +kernel
theorem dX11_falsely_40 : decode cX11_falsely 40 = .ok (.if_icmp .eq 29, 3) := by decide +kernel
theorem dX11_falsely_43 : decode cX11_falsely 43 = .ok (.aload_n 0, 1) := by decide +kernel
theorem dX11_falsely_44 : decode cX11_falsely 44 = .ok (.getfield 98, 3) := by decide +kernel
theorem dX11_falsely_47 : decode cX11_falsely 47 = .ok (.aload_n 0, 1) := by decide +kernel
theorem dX11_falsely_48 : decode cX11_falsely 48 = .ok (.getfield 46, 3) := by decide +kernel
theorem dX11_falsely_51 : decode cX11_falsely 51 = .ok (.getfield 165, 3) := by decide +kernel
theorem dX11_falsely_54 : decode cX11_falsely 54 = .ok (.aload_n 0, 1) := by decide +kernel
theorem dX11_falsely_55 : decode cX11_falsely 55 = .ok (.getfield 46, 3) := by decide +kernel
theorem dX11_falsely_58 : decode cX11_falsely 58 = .ok (.getfield 168, 3) := by decide +kernel
theorem dX11_falsely_61 : decode cX11_falsely 61 = .ok (.invokevirtual 169, 3) := by decide +kernel
theorem dX11_falsely_64 : decode cX11_falsely 64 = .ok (.aload_n 0, 1) := by decide +kernel
theorem dX11_falsely_65 : decode cX11_falsely 65 = .ok (.iconst 1, 1) := by decide +kernel
theorem dX11_falsely_66 : decode cX11_falsely 66 = .ok (.putfield 173, 3) := by decide +kernel
theorem dX11_falsely_69 : decode cX11_falsely 69 = .ok (.iload_n 2, 1) := by decide +kernel
theorem dX11_falsely_70 : decode cX11_falsely 70 = .ok (.ireturn, 1) := by decide +kernel
theorem dX11_fault_0 : decode cX11_fault 0 = .ok (.aload_n 0, 1) := by decide +kernel
theorem dX11_fault_1 : decode cX11_fault 1 = .ok (.getfield 102, 3) := by decide +kernel
theorem dX11_fault_4 : decode cX11_fault 4 = .ok (.ireturn, 1) := by decide +kernel
theorem dX11_bars_0 : decode cX11_bars 0 = .ok (.aload_n 0, 1) := by decide +kernel
theorem dX11_bars_1 : decode cX11_bars 1 = .ok (.getfield 30, 3) := by decide +kernel
theorem dX11_bars_4 : decode cX11_bars 4 = .ok (.iload_n 1, 1) := by decide +kernel
theorem dX11_bars_5 : decode cX11_bars 5 = .ok (.invokevirtual 137, 3) := by decide +kernel
theorem dX11_bars_8 : decode cX11_bars 8 = .ok (.ifCond .eq 10, 3) := by decide +kernel
theorem dX11_bars_11 : decode cX11_bars 11 = .ok (.iload_n 2, 1) := by decide +kernel
theorem dX11_bars_12 : decode cX11_bars 12 = .ok (.invokestatic 131, 3) := by decide +kernel
theorem dX11_bars_15 : decode cX11_bars 15 = .ok (.ifCond .ne 5, 3) := by decide +kernel
theorem dX11_bars_18 : decode cX11_bars 18 = .ok (.iconst (-1), 1) := by decide +kernel
theorem dX11_bars_19 : decode cX11_bars 19 = .ok (.ireturn, 1) := by decide +kernel
theorem dX11_bars_20 : decode cX11_bars 20 = .ok (.aload_n 0, 1) := by decide +kernel
theorem dX11_bars_21 : decode cX11_bars 21 = .ok (.getfield 21, 3) := by decide +kernel
theorem dX11_bars_24 : decode cX11_bars 24 = .ok (.aload_n 0, 1) := by decide +kernel
theorem dX11_bars_25 : decode cX11_bars 25 = .ok (.getfield 30, 3) := by decide +kernel
theorem dX11_bars_28 : decode cX11_bars 28 = .ok (.getfield 140, 3) := by decide +kernel
theorem dX11_bars_31 : decode cX11_bars 31 = .ok (.iload_n 1, 1) := by decide +kernel
theorem dX11_bars_32 : decode cX11_bars 32 = .ok (.aaload, 1) := by decide +kernel
theorem dX11_bars_33 : decode cX11_bars 33 = .ok (.iload_n 2, 1) := by decide +kernel
theorem dX11_bars_34 : decode cX11_bars 34 = .ok (.invokevirtual 176, 3) := by decide +kernel
theorem dX11_bars_37 : decode cX11_bars 37 = .ok (.aload_n 0, 1) := by decide +kernel
theorem dX11_bars_38 : decode cX11_bars 38 = .ok (.getfield 21, 3) := by decide +kernel
theorem dX11_bars_41 : decode cX11_bars 41 = .ok (.getfield 180, 3) := by decide +kernel
theorem dX11_bars_44 : decode cX11_bars 44 = .ok (.ireturn, 1) := by decide +kernel
theorem dX11_worth_0 : decode cX11_worth 0 = .ok (.aload_n 0, 1) := by decide +kernel
theorem dX11_worth_1 : decode cX11_worth 1 = .ok (.getfield 30, 3) := by decide +kernel
theorem dX11_worth_4 : decode cX11_worth 4 = .ok (.iload_n 1, 1) := by decide +kernel
theorem dX11_worth_5 : decode cX11_worth 5 = .ok (.invokevirtual 137, 3) := by decide +kernel
theorem dX11_worth_8 : decode cX11_worth 8 = .ok (.ifCond .eq 10, 3) := by decide +kernel
theorem dX11_worth_11 : decode cX11_worth 11 = .ok (.iload_n 2, 1) := by decide +kernel
theorem dX11_worth_12 : decode cX11_worth 12 = .ok (.invokestatic 131, 3) := by decide +kernel
theorem dX11_worth_15 : decode cX11_worth 15 = .ok (.ifCond .ne 6, 3) := by decide +kernel
theorem dX11_worth_18 : decode cX11_worth 18 = .ok (.ldc 183, 2) := by decide +kernel
theorem dX11_worth_20 : decode cX11_worth 20 = .ok (.ireturn, 1) := by decide +kernel
theorem dX11_worth_21 : decode cX11_worth 21 = .ok (.aload_n 0, 1) := by decide +kernel
theorem dX11_worth_22 : decode cX11_worth 22 = .ok (.getfield 21, 3) := by decide +kernel
theorem dX11_worth_25 : decode cX11_worth 25 = .ok (.aload_n 0, 1) := by decide +kernel
theorem dX11_worth_26 : decode cX11_worth 26 = .ok (.getfield 30, 3) := by decide +kernel
theorem dX11_worth_29 : decode cX11_worth 29 = .ok (.getfield 140, 3) := by decide +kernel
theorem dX11_worth_32 : decode cX11_worth 32 = .ok (.iload_n 1, 1) := by decide +kernel
theorem dX11_worth_33 : decode cX11_worth 33 = .ok (.aaload, 1) := by decide +kernel
theorem dX11_worth_34 : decode cX11_worth 34 = .ok (.iload_n 2, 1) := by decide +kernel
theorem dX11_worth_35 : decode cX11_worth 35 = .ok (.invokevirtual 176, 3) := by decide +kernel
theorem dX11_worth_38 : decode cX11_worth 38 = .ok (.aload_n 0, 1) := by decide +kernel
theorem dX11_worth_39 : decode cX11_worth 39 = .ok (.getfield 21, 3) := by decide +kernel
theorem dX11_worth_42 : decode cX11_worth 42 = .ok (.getfield 184, 3) := by decide +kernel
theorem dX11_worth_45 : decode cX11_worth 45 = .ok (.ireturn, 1) := by decide +kernel
theorem dX11_price_0 : decode cX11_price 0 = .ok (.aload_n 0, 1) := by decide +kernel
theorem dX11_price_1 : decode cX11_price 1 = .ok (.getfield 10, 3) := by decide +kernel
theorem dX11_price_4 : decode cX11_price 4 = .ok (.iload_n 1, 1) := by decide +kernel
theorem dX11_price_5 : decode cX11_price 5 = .ok (.invokevirtual 113, 3) := by decide +kernel
theorem dX11_price_8 : decode cX11_price 8 = .ok (.ifCond .eq 14, 3) := by decide +kernel
theorem dX11_price_11 : decode cX11_price 11 = .ok (.iload_n 2, 1) := by decide +kernel
theorem dX11_price_12 : decode cX11_price 12 = .ok (.ifCond .lt 10, 3) := by decide +kernel
theorem dX11_price_15 : decode cX11_price 15 = .ok (.iload_n 2, 1) := by decide +kernel
theorem dX11_price_16 : decode cX11_price 16 = .ok (.sipush 250, 3) := by decide +kernel
theorem dX11_price_19 : decode cX11_price 19 = .ok (.if_icmp .le 5, 3) := by decide +kernel
theorem dX11_price_22 : decode cX11_price 22 = .ok (.iconst 0, 1) := by decide +kernel
theorem dX11_price_23 : decode cX11_price 23 = .ok (.ireturn, 1) := by decide +kernel
theorem dX11_price_24 : decode cX11_price 24 = .ok (.aload_n 0, 1) := by decide +kernel
theorem dX11_price_25 : decode cX11_price 25 = .ok (.getfield 55, 3) := by decide +kernel
theorem dX11_price_28 : decode cX11_price 28 = .ok (.getfield 187, 3) := by decide +kernel
theorem dX11_price_31 : decode cX11_price 31 = .ok (.iload_n 1, 1) := by decide +kernel
theorem dX11_price_32 : decode cX11_price 32 = .ok (.iload_n 2, 1) := by decide +kernel
theorem dX11_price_33 : decode cX11_price 33 = .ok (.iastore, 1) := by decide +kernel
theorem dX11_price_34 : decode cX11_price 34 = .ok (.iconst 1, 1) := by decide +kernel
theorem dX11_price_35 : decode cX11_price 35 = .ok (.ireturn, 1) := by decide +kernel
theorem dX11_step_0 : decode cX11_step 0 = .ok (.iload_n 1, 1) := by decide +kernel
theorem dX11_step_1 : decode cX11_step 1 = .ok (.iconst 1, 1) := by decide +kernel
theorem dX11_step_2 : decode cX11_step 2 = .ok (.if_icmp .lt 9, 3) := by decide +kernel
theorem dX11_step_5 : decode cX11_step 5 = .ok (.iload_n 1, 1) := by decide +kernel
theorem dX11_step_6 : decode cX11_step 6 = .ok (.bipush 50, 2) := by decide +kernel
theorem dX11_step_8 : decode cX11_step 8 = .ok (.if_icmp .le 5, 3) := by decide +kernel
theorem dX11_step_11 : decode cX11_step 11 = .ok (.iconst 0, 1) := by decide +kernel
theorem dX11_step_12 : decode cX11_step 12 = .ok (.ireturn, 1) := by decide +kernel
theorem dX11_step_13 : decode cX11_step 13 = .ok (.aload_n 0, 1) := by decide +kernel
theorem dX11_step_14 : decode cX11_step 14 = .ok (.getfield 55, 3) := by decide +kernel
theorem dX11_step_17 : decode cX11_step 17 = .ok (.iload_n 1, 1) := by decide +kernel
theorem dX11_step_18 : decode cX11_step 18 = .ok (.putfield 190, 3) := by decide +kernel
theorem dX11_step_21 : decode cX11_step 21 = .ok (.iconst 1, 1) := by decide +kernel
theorem dX11_step_22 : decode cX11_step 22 = .ok (.ireturn, 1) := by decide +kernel
theorem dX11_buys_0 : decode cX11_buys 0 = .ok (.aload_n 0, 1) := by decide +kernel
theorem dX11_buys_1 : decode cX11_buys 1 = .ok (.getfield 30, 3) := by decide +kernel
theorem dX11_buys_4 : decode cX11_buys 4 = .ok (.iload_n 1, 1) := by decide +kernel
theorem dX11_buys_5 : decode cX11_buys 5 = .ok (.invokevirtual 137, 3) := by decide +kernel
theorem dX11_buys_8 : decode cX11_buys 8 = .ok (.ifCond .eq 12, 3) := by decide +kernel
theorem dX11_buys_11 : decode cX11_buys 11 = .ok (.iload_n 2, 1) := by decide +kernel
theorem dX11_buys_12 : decode cX11_buys 12 = .ok (.ifCond .lt 8, 3) := by decide +kernel
theorem dX11_buys_15 : decode cX11_buys 15 = .ok (.iload_n 2, 1) := by decide +kernel
theorem dX11_buys_16 : decode cX11_buys 16 = .ok (.iconst 2, 1) := by decide +kernel
theorem dX11_buys_17 : decode cX11_buys 17 = .ok (.if_icmp .le 6, 3) := by decide +kernel
theorem dX11_buys_20 : decode cX11_buys 20 = .ok (.ldc 183, 2) := by decide +kernel
theorem dX11_buys_22 : decode cX11_buys 22 = .ok (.ireturn, 1) := by decide +kernel
theorem dX11_buys_23 : decode cX11_buys 23 = .ok (.aload_n 0, 1) := by decide +kernel
theorem dX11_buys_24 : decode cX11_buys 24 = .ok (.getfield 30, 3) := by decide +kernel
theorem dX11_buys_27 : decode cX11_buys 27 = .ok (.iload_n 1, 1) := by decide +kernel
theorem dX11_buys_28 : decode cX11_buys 28 = .ok (.invokevirtual 193, 3) := by decide +kernel
theorem dX11_buys_31 : decode cX11_buys 31 = .ok (.astore_n 3, 1) := by decide +kernel
theorem dX11_buys_32 : decode cX11_buys 32 = .ok (.aload_n 0, 1) := by decide +kernel
theorem dX11_buys_33 : decode cX11_buys 33 = .ok (.getfield 55, 3) := by decide +kernel
theorem dX11_buys_36 : decode cX11_buys 36 = .ok (.aload_n 0, 1) := by decide +kernel
theorem dX11_buys_37 : decode cX11_buys 37 = .ok (.getfield 55, 3) := by decide +kernel
theorem dX11_buys_40 : decode cX11_buys 40 = .ok (.getfield 187, 3) := by decide +kernel
theorem dX11_buys_43 : decode cX11_buys 43 = .ok (.invokevirtual 197, 3) := by decide +kernel
theorem dX11_buys_46 : decode cX11_buys 46 = .ok (.aload_n 0, 1) := by decide +kernel
theorem dX11_buys_47 : decode cX11_buys 47 = .ok (.getfield 55, 3) := by decide +kernel
theorem dX11_buys_50 : decode cX11_buys 50 = .ok (.aload_n 3, 1) := by decide +kernel
theorem dX11_buys_51 : decode cX11_buys 51 = .ok (.iconst 0, 1) := by decide +kernel
theorem dX11_buys_52 : decode cX11_buys 52 = .ok (.invokevirtual 201, 3) := by decide +kernel
theorem dX11_buys_55 : decode cX11_buys 55 = .ok (.istore 4, 2) := by decide +kernel
theorem dX11_buys_57 : decode cX11_buys 57 = .ok (.iload_n 2, 1) := by decide +kernel
theorem dX11_buys_58 : decode cX11_buys 58 = .ok (.ifCond .ne 10, 3) := by decide +kernel
theorem dX11_buys_61 : decode cX11_buys 61 = .ok (.aload_n 3, 1) := by decide +kernel
theorem dX11_buys_62 : decode cX11_buys 62 = .ok (.iload 4, 2) := by decide +kernel
theorem dX11_buys_64 : decode cX11_buys 64 = .ok (.invokevirtual 205, 3) := by decide +kernel
theorem dX11_buys_67 : decode cX11_buys 67 = .ok (.ireturn, 1) := by decide +kernel
theorem dX11_buys_68 : decode cX11_buys 68 = .ok (.iload_n 2, 1) := by decide +kernel
theorem dX11_buys_69 : decode cX11_buys 69 = .ok (.iconst 1, 1) := by decide +kernel
theorem dX11_buys_70 : decode cX11_buys 70 = .ok (.if_icmp .ne 19, 3) := by decide +kernel
theorem dX11_buys_73 : decode cX11_buys 73 = .ok (.aload_n 0, 1) := by decide +kernel
theorem dX11_buys_74 : decode cX11_buys 74 = .ok (.getfield 55, 3) := by decide +kernel
theorem dX11_buys_77 : decode cX11_buys 77 = .ok (.aload_n 3, 1) := by decide +kernel
theorem dX11_buys_78 : decode cX11_buys 78 = .ok (.iload 4, 2) := by decide +kernel
theorem dX11_buys_80 : decode cX11_buys 80 = .ok (.invokevirtual 205, 3) := by decide +kernel
theorem dX11_buys_83 : decode cX11_buys 83 = .ok (.invokevirtual 208, 3) := by decide +kernel
theorem dX11_buys_86 : decode cX11_buys 86 = .ok (.goto 9, 3) := by decide +kernel
theorem dX11_buys_89 : decode cX11_buys 89 = .ok (.aload_n 3, 1) := by decide +kernel
theorem dX11_buys_90 : decode cX11_buys 90 = .ok (.iload 4, 2) := by decide +kernel
theorem dX11_buys_92 : decode cX11_buys 92 = .ok (.invokevirtual 211, 3) := by decide +kernel
theorem dX11_buys_95 : decode cX11_buys 95 = .ok (.ireturn, 1) := by decide +kernel
theorem dX11_dear_0 : decode cX11_dear 0 = .ok (.aload_n 0, 1) := by decide +kernel
theorem dX11_dear_1 : decode cX11_dear 1 = .ok (.getfield 30, 3) := by decide +kernel
theorem dX11_dear_4 : decode cX11_dear 4 = .ok (.iload_n 1, 1) := by decide +kernel
theorem dX11_dear_5 : decode cX11_dear 5 = .ok (.invokevirtual 137, 3) := by decide +kernel
theorem dX11_dear_8 : decode cX11_dear 8 = .ok (.ifCond .ne 6, 3) := by decide +kernel
theorem dX11_dear_11 : decode cX11_dear 11 = .ok (.bipush (-2), 2) := by decide +kernel
theorem dX11_dear_13 : decode cX11_dear 13 = .ok (.ireturn, 1) := by decide +kernel
theorem dX11_dear_14 : decode cX11_dear 14 = .ok (.aload_n 0, 1) := by decide +kernel
theorem dX11_dear_15 : decode cX11_dear 15 = .ok (.getfield 30, 3) := by decide +kernel
theorem dX11_dear_18 : decode cX11_dear 18 = .ok (.iload_n 1, 1) := by decide +kernel
theorem dX11_dear_19 : decode cX11_dear 19 = .ok (.invokevirtual 193, 3) := by decide +kernel
theorem dX11_dear_22 : decode cX11_dear 22 = .ok (.astore_n 2, 1) := by decide +kernel
theorem dX11_dear_23 : decode cX11_dear 23 = .ok (.aload_n 0, 1) := by decide +kernel
theorem dX11_dear_24 : decode cX11_dear 24 = .ok (.getfield 55, 3) := by decide +kernel
theorem dX11_dear_27 : decode cX11_dear 27 = .ok (.aload_n 0, 1) := by decide +kernel
theorem dX11_dear_28 : decode cX11_dear 28 = .ok (.getfield 55, 3) := by decide +kernel
theorem dX11_dear_31 : decode cX11_dear 31 = .ok (.getfield 187, 3) := by decide +kernel
theorem dX11_dear_34 : decode cX11_dear 34 = .ok (.invokevirtual 197, 3) := by decide +kernel
theorem dX11_dear_37 : decode cX11_dear 37 = .ok (.aload_n 0, 1) := by decide +kernel
theorem dX11_dear_38 : decode cX11_dear 38 = .ok (.getfield 55, 3) := by decide +kernel
theorem dX11_dear_41 : decode cX11_dear 41 = .ok (.aload_n 2, 1) := by decide +kernel
theorem dX11_dear_42 : decode cX11_dear 42 = .ok (.iconst 0, 1) := by decide +kernel
theorem dX11_dear_43 : decode cX11_dear 43 = .ok (.invokevirtual 214, 3) := by decide +kernel
theorem dX11_dear_46 : decode cX11_dear 46 = .ok (.istore_n 3, 1) := by decide +kernel
theorem dX11_dear_47 : decode cX11_dear 47 = .ok (.iload_n 3, 1) := by decide +kernel
theorem dX11_dear_48 : decode cX11_dear 48 = .ok (.iconst (-1), 1) := by decide +kernel
theorem dX11_dear_49 : decode cX11_dear 49 = .ok (.if_icmp .ne 7, 3) := by decide +kernel
theorem dX11_dear_52 : decode cX11_dear 52 = .ok (.iconst (-1), 1) := by decide +kernel
theorem dX11_dear_53 : decode cX11_dear 53 = .ok (.goto 9, 3) := by decide +kernel
theorem dX11_dear_56 : decode cX11_dear 56 = .ok (.iload_n 3, 1) := by decide +kernel
theorem dX11_dear_57 : decode cX11_dear 57 = .ok (.aload_n 2, 1) := by decide +kernel
theorem dX11_dear_58 : decode cX11_dear 58 = .ok (.getfield 144, 3) := by decide +kernel
theorem dX11_dear_61 : decode cX11_dear 61 = .ok (.isub, 1) := by decide +kernel
theorem dX11_dear_62 : decode cX11_dear 62 = .ok (.ireturn, 1) := by decide +kernel
theorem dX11_over_0 : decode cX11_over 0 = .ok (.aload_n 0, 1) := by decide +kernel
theorem dX11_over_1 : decode cX11_over 1 = .ok (.getfield 10, 3) := by decide +kernel
theorem dX11_over_4 : decode cX11_over 4 = .ok (.iload_n 1, 1) := by decide +kernel
theorem dX11_over_5 : decode cX11_over 5 = .ok (.invokevirtual 113, 3) := by decide +kernel
theorem dX11_over_8 : decode cX11_over 8 = .ok (.ifCond .ne 6, 3) := by decide +kernel
theorem dX11_over_11 : decode cX11_over 11 = .ok (.bipush (-100), 2) := by decide +kernel
theorem dX11_over_13 : decode cX11_over 13 = .ok (.ireturn, 1) := by decide +kernel
theorem dX11_over_14 : decode cX11_over 14 = .ok (.aload_n 0, 1) := by decide +kernel
theorem dX11_over_15 : decode cX11_over 15 = .ok (.getfield 30, 3) := by decide +kernel
theorem dX11_over_18 : decode cX11_over 18 = .ok (.invokevirtual 217, 3) := by decide +kernel
theorem dX11_over_21 : decode cX11_over 21 = .ok (.aload_n 0, 1) := by decide +kernel
theorem dX11_over_22 : decode cX11_over 22 = .ok (.getfield 55, 3) := by decide +kernel
theorem dX11_over_25 : decode cX11_over 25 = .ok (.aload_n 0, 1) := by decide +kernel
theorem dX11_over_26 : decode cX11_over 26 = .ok (.getfield 55, 3) := by decide +kernel
theorem dX11_over_29 : decode cX11_over 29 = .ok (.getfield 187, 3) := by decide +kernel
theorem dX11_over_32 : decode cX11_over 32 = .ok (.invokevirtual 220, 3) := by decide +kernel
theorem dX11_over_35 : decode cX11_over 35 = .ok (.pop, 1) := by decide +kernel
theorem dX11_over_36 : decode cX11_over 36 = .ok (.aload_n 0, 1) := by decide +kernel
theorem dX11_over_37 : decode cX11_over 37 = .ok (.getfield 55, 3) := by decide +kernel
theorem dX11_over_40 : decode cX11_over 40 = .ok (.getfield 224, 3) := by decide +kernel
theorem dX11_over_43 : decode cX11_over 43 = .ok (.iload_n 1, 1) := by decide +kernel
theorem dX11_over_44 : decode cX11_over 44 = .ok (.iaload, 1) := by decide +kernel
theorem dX11_over_45 : decode cX11_over 45 = .ok (.ireturn, 1) := by decide +kernel
theorem dX11_square_0 : decode cX11_square 0 = .ok (.aload_n 0, 1) := by decide +kernel
theorem dX11_square_1 : decode cX11_square 1 = .ok (.getfield 30, 3) := by decide +kernel
theorem dX11_square_4 : decode cX11_square 4 = .ok (.invokevirtual 217, 3) := by decide +kernel
theorem dX11_square_7 : decode cX11_square 7 = .ok (.aload_n 0, 1) := by decide +kernel
theorem dX11_square_8 : decode cX11_square 8 = .ok (.getfield 55, 3) := by decide +kernel
theorem dX11_square_11 : decode cX11_square 11 = .ok (.aload_n 0, 1) := by decide +kernel
theorem dX11_square_12 : decode cX11_square 12 = .ok (.getfield 55, 3) := by decide +kernel
theorem dX11_square_15 : decode cX11_square 15 = .ok (.getfield 187, 3) := by decide +kernel
theorem dX11_square_18 : decode cX11_square 18 = .ok (.invokevirtual 220, 3) := by decide +kernel
theorem dX11_square_21 : decode cX11_square 21 = .ok (.ireturn, 1) := by decide +kernel
theorem dX11_fit_0 : decode cX11_fit 0 = .ok (.iload_n 2, 1) := by decide +kernel
theorem dX11_fit_1 : decode cX11_fit 1 = .ok (.ifCond .eq 22, 3) := by decide +kernel
theorem dX11_fit_4 : decode cX11_fit 4 = .ok (.iload_n 2, 1) := by decide +kernel
theorem dX11_fit_5 : decode cX11_fit 5 = .ok (.iconst 1, 1) := by decide +kernel
theorem dX11_fit_6 : decode cX11_fit 6 = .ok (.if_icmp .eq 17, 3) := by decide +kernel
theorem dX11_fit_9 : decode cX11_fit 9 = .ok (.aload_n 0, 1) := by decide +kernel
theorem dX11_fit_10 : decode cX11_fit 10 = .ok (.getfield 10, 3) := by decide +kernel
theorem dX11_fit_13 : decode cX11_fit 13 = .ok (.iload_n 2, 1) := by decide +kernel
theorem dX11_fit_14 : decode cX11_fit 14 = .ok (.bipush 10, 2) := by decide +kernel
theorem dX11_fit_16 : decode cX11_fit 16 = .ok (.isub, 1) := by decide +kernel
theorem dX11_fit_17 : decode cX11_fit 17 = .ok (.invokevirtual 113, 3) := by decide +kernel
theorem dX11_fit_20 : decode cX11_fit 20 = .ok (.ifCond .eq 7, 3) := by decide +kernel
theorem dX11_fit_23 : decode cX11_fit 23 = .ok (.iconst 1, 1) := by decide +kernel
theorem dX11_fit_24 : decode cX11_fit 24 = .ok (.goto 4, 3) := by decide +kernel
theorem dX11_fit_27 : decode cX11_fit 27 = .ok (.iconst 0, 1) := by decide +kernel
theorem dX11_fit_28 : decode cX11_fit 28 = .ok (.istore_n 3, 1) := by decide +kernel
theorem dX11_fit_29 : decode cX11_fit 29 = .ok (.iload_n 1, 1) := by decide +kernel
theorem dX11_fit_30 : decode cX11_fit 30 = .ok (.iconst 1, 1) := by decide +kernel
theorem dX11_fit_31 : decode cX11_fit 31 = .ok (.if_icmp .lt 13, 3) := by decide +kernel
theorem dX11_fit_34 : decode cX11_fit 34 = .ok (.iload_n 1, 1) := by decide +kernel
theorem dX11_fit_35 : decode cX11_fit 35 = .ok (.bipush 60, 2) := by decide +kernel
theorem dX11_fit_37 : decode cX11_fit 37 = .ok (.if_icmp .gt 7, 3) := by decide +kernel
theorem dX11_fit_40 : decode cX11_fit 40 = .ok (.iload_n 3, 1) := by decide +kernel
theorem dX11_fit_41 : decode cX11_fit 41 = .ok (.ifCond .ne 5, 3) := by decide +kernel
theorem dX11_fit_44 : decode cX11_fit 44 = .ok (.iconst (-1), 1) := by decide +kernel
theorem dX11_fit_45 : decode cX11_fit 45 = .ok (.ireturn, 1) := by decide +kernel
theorem dX11_fit_46 : decode cX11_fit 46 = .ok (.aload_n 0, 1) := by decide +kernel
theorem dX11_fit_47 : decode cX11_fit 47 = .ok (.getfield 30, 3) := by decide +kernel
theorem dX11_fit_50 : decode cX11_fit 50 = .ok (.invokevirtual 217, 3) := by decide +kernel
theorem dX11_fit_53 : decode cX11_fit 53 = .ok (.aload_n 0, 1) := by decide +kernel
theorem dX11_fit_54 : decode cX11_fit 54 = .ok (.getfield 64, 3) := by decide +kernel
theorem dX11_fit_57 : decode cX11_fit 57 = .ok (.iload_n 1, 1) := by decide +kernel
theorem dX11_fit_58 : decode cX11_fit 58 = .ok (.invokevirtual 227, 3) := by decide +kernel
theorem dX11_fit_61 : decode cX11_fit 61 = .ok (.iload_n 2, 1) := by decide +kernel
theorem dX11_fit_62 : decode cX11_fit 62 = .ok (.ifCond .ne 11, 3) := by decide +kernel
theorem dX11_fit_65 : decode cX11_fit 65 = .ok (.aload_n 0, 1) := by decide +kernel
theorem dX11_fit_66 : decode cX11_fit 66 = .ok (.getfield 64, 3) := by decide +kernel
theorem dX11_fit_69 : decode cX11_fit 69 = .ok (.getfield 230, 3) := by decide +kernel
theorem dX11_fit_72 : decode cX11_fit 72 = .ok (.ireturn, 1) := by decide +kernel
theorem dX11_fit_73 : decode cX11_fit 73 = .ok (.iload_n 2, 1) := by decide +kernel
theorem dX11_fit_74 : decode cX11_fit 74 = .ok (.iconst 1, 1) := by decide +kernel
theorem dX11_fit_75 : decode cX11_fit 75 = .ok (.if_icmp .ne 13, 3) := by decide +kernel
theorem dX11_fit_78 : decode cX11_fit 78 = .ok (.aload_n 0, 1) := by decide +kernel
theorem dX11_fit_79 : decode cX11_fit 79 = .ok (.getfield 64, 3) := by decide +kernel
theorem dX11_fit_82 : decode cX11_fit 82 = .ok (.getfield 233, 3) := by decide +kernel
theorem dX11_fit_85 : decode cX11_fit 85 = .ok (.goto 15, 3) := by decide +kernel
theorem dX11_fit_88 : decode cX11_fit 88 = .ok (.aload_n 0, 1) := by decide +kernel
theorem dX11_fit_89 : decode cX11_fit 89 = .ok (.getfield 64, 3) := by decide +kernel
theorem dX11_fit_92 : decode cX11_fit 92 = .ok (.getfield 236, 3) := by decide +kernel
theorem dX11_fit_95 : decode cX11_fit 95 = .ok (.iload_n 2, 1) := by decide +kernel
theorem dX11_fit_96 : decode cX11_fit 96 = .ok (.bipush 10, 2) := by decide +kernel
theorem dX11_fit_98 : decode cX11_fit 98 = .ok (.isub, 1) := by decide +kernel
theorem dX11_fit_99 : decode cX11_fit 99 = .ok (.iaload, 1) := by decide +kernel
theorem dX11_fit_100 : decode cX11_fit 100 = .ok (.ireturn, 1) := by decide +kernel
theorem dX11_settle_0 : decode cX11_settle 0 = .ok (.iload_n 1, 1) := by decide +kernel
theorem dX11_settle_1 : decode cX11_settle 1 = .ok (.iconst 1, 1) := by decide +kernel
theorem dX11_settle_2 : decode cX11_settle 2 = .ok (.if_icmp .lt 9, 3) := by decide +kernel
theorem dX11_settle_5 : decode cX11_settle 5 = .ok (.iload_n 1, 1) := by decide +kernel
theorem dX11_settle_6 : decode cX11_settle 6 = .ok (.bipush 60, 2) := by decide +kernel
theorem dX11_settle_8 : decode cX11_settle 8 = .ok (.if_icmp .le 5, 3) := by decide +kernel
theorem dX11_settle_11 : decode cX11_settle 11 = .ok (.iconst 0, 1) := by decide +kernel
theorem dX11_settle_12 : decode cX11_settle 12 = .ok (.ireturn, 1) := by decide +kernel
theorem dX11_settle_13 : decode cX11_settle 13 = .ok (.aload_n 0, 1) := by decide +kernel
theorem dX11_settle_14 : decode cX11_settle 14 = .ok (.getfield 30, 3) := by decide +kernel
theorem dX11_settle_17 : decode cX11_settle 17 = .ok (.invokevirtual 217, 3) := by decide +kernel
theorem dX11_settle_20 : decode cX11_settle 20 = .ok (.aload_n 0, 1) := by decide +kernel
theorem dX11_settle_21 : decode cX11_settle 21 = .ok (.getfield 64, 3) := by decide +kernel
theorem dX11_settle_24 : decode cX11_settle 24 = .ok (.iload_n 1, 1) := by decide +kernel
theorem dX11_settle_25 : decode cX11_settle 25 = .ok (.invokevirtual 227, 3) := by decide +kernel
theorem dX11_settle_28 : decode cX11_settle 28 = .ok (.aload_n 0, 1) := by decide +kernel
theorem dX11_settle_29 : decode cX11_settle 29 = .ok (.getfield 64, 3) := by decide +kernel
theorem dX11_settle_32 : decode cX11_settle 32 = .ok (.getfield 236, 3) := by decide +kernel
theorem dX11_settle_35 : decode cX11_settle 35 = .ok (.iconst 0, 1) := by decide +kernel
theorem dX11_settle_36 : decode cX11_settle 36 = .ok (.aload_n 0, 1) := by decide +kernel
theorem dX11_settle_37 : decode cX11_settle 37 = .ok (.getfield 55, 3) := by decide +kernel
theorem dX11_settle_40 : decode cX11_settle 40 = .ok (.getfield 187, 3) := by decide +kernel
theorem dX11_settle_43 : decode cX11_settle 43 = .ok (.iconst 0, 1) := by decide +kernel
theorem dX11_settle_44 : decode cX11_settle 44 = .ok (.bipush 10, 2) := by decide +kernel
theorem dX11_settle_46 : decode cX11_settle 46 = .ok (.invokestatic 239, 3) := by decide +kernel
theorem dX11_settle_49 : decode cX11_settle 49 = .ok (.iconst 1, 1) := by decide +kernel
theorem dX11_settle_50 : decode cX11_settle 50 = .ok (.ireturn, 1) := by decide +kernel
theorem dX11_must_0 : decode cX11_must 0 = .ok (.aload_n 0, 1) := by decide +kernel
theorem dX11_must_1 : decode cX11_must 1 = .ok (.getfield 10, 3) := by decide +kernel
theorem dX11_must_4 : decode cX11_must 4 = .ok (.getfield 245, 3) := by decide +kernel
theorem dX11_must_7 : decode cX11_must 7 = .ok (.iconst 1, 1) := by decide +kernel
theorem dX11_must_8 : decode cX11_must 8 = .ok (.if_icmp .lt 26, 3) := by decide +kernel
theorem dX11_must_11 : decode cX11_must 11 = .ok (.aload_n 0, 1) := by decide +kernel
theorem dX11_must_12 : decode cX11_must 12 = .ok (.getfield 10, 3) := by decide +kernel
theorem dX11_must_15 : decode cX11_must 15 = .ok (.getfield 245, 3) := by decide +kernel
theorem dX11_must_18 : decode cX11_must 18 = .ok (.iconst 3, 1) := by decide +kernel
theorem dX11_must_19 : decode cX11_must 19 = .ok (.if_icmp .gt 15, 3) := by decide +kernel
theorem dX11_must_22 : decode cX11_must 22 = .ok (.iload_n 1, 1) := by decide +kernel
theorem dX11_must_23 : decode cX11_must 23 = .ok (.iconst 1, 1) := by decide +kernel
theorem dX11_must_24 : decode cX11_must 24 = .ok (.if_icmp .lt 10, 3) := by decide +kernel
theorem dX11_must_27 : decode cX11_must 27 = .ok (.iload_n 1, 1) := by decide +kernel
theorem dX11_must_28 : decode cX11_must 28 = .ok (.sipush 250, 3) := by decide +kernel
theorem dX11_must_31 : decode cX11_must 31 = .ok (.if_icmp .le 5, 3) := by decide +kernel
theorem dX11_must_34 : decode cX11_must 34 = .ok (.iconst (-1), 1) := by decide +kernel
theorem dX11_must_35 : decode cX11_must 35 = .ok (.ireturn, 1) := by decide +kernel
theorem dX11_must_36 : decode cX11_must 36 = .ok (.aload_n 0, 1) := by decide +kernel
theorem dX11_must_37 : decode cX11_must 37 = .ok (.getfield 30, 3) := by decide +kernel
theorem dX11_must_40 : decode cX11_must 40 = .ok (.invokevirtual 217, 3) := by decide +kernel
theorem dX11_must_43 : decode cX11_must 43 = .ok (.aload_n 0, 1) := by decide +kernel
theorem dX11_must_44 : decode cX11_must 44 = .ok (.getfield 64, 3) := by decide +kernel
theorem dX11_must_47 : decode cX11_must 47 = .ok (.iload_n 1, 1) := by decide +kernel
theorem dX11_must_48 : decode cX11_must 48 = .ok (.invokevirtual 246, 3) := by decide +kernel
theorem dX11_must_51 : decode cX11_must 51 = .ok (.ireturn, 1) := by decide +kernel
theorem dX11_why_0 : decode cX11_why 0 = .ok (.aload_n 0, 1) := by decide +kernel
theorem dX11_why_1 : decode cX11_why 1 = .ok (.getfield 30, 3) := by decide +kernel
theorem dX11_why_4 : decode cX11_why 4 = .ok (.iload_n 1, 1) := by decide +kernel
theorem dX11_why_5 : decode cX11_why 5 = .ok (.invokevirtual 137, 3) := by decide +kernel
theorem dX11_why_8 : decode cX11_why 8 = .ok (.ifCond .eq 23, 3) := by decide +kernel
theorem dX11_why_11 : decode cX11_why 11 = .ok (.aload_n 0, 1) := by decide +kernel
theorem dX11_why_12 : decode cX11_why 12 = .ok (.getfield 10, 3) := by decide +kernel
theorem dX11_why_15 : decode cX11_why 15 = .ok (.iload_n 2, 1) := by decide +kernel
theorem dX11_why_16 : decode cX11_why 16 = .ok (.invokevirtual 113, 3) := by decide +kernel
theorem dX11_why_19 : decode cX11_why 19 = .ok (.ifCond .eq 12, 3) := by decide +kernel
theorem dX11_why_22 : decode cX11_why 22 = .ok (.iload_n 3, 1) := by decide +kernel
theorem dX11_why_23 : decode cX11_why 23 = .ok (.ifCond .lt 8, 3) := by decide +kernel
theorem dX11_why_26 : decode cX11_why 26 = .ok (.iload_n 3, 1) := by decide +kernel
theorem dX11_why_27 : decode cX11_why 27 = .ok (.iconst 1, 1) := by decide +kernel
theorem dX11_why_28 : decode cX11_why 28 = .ok (.if_icmp .le 5, 3) := by decide +kernel
theorem dX11_why_31 : decode cX11_why 31 = .ok (.iconst (-1), 1) := by decide +kernel
theorem dX11_why_32 : decode cX11_why 32 = .ok (.ireturn, 1) := by decide +kernel
theorem dX11_why_33 : decode cX11_why 33 = .ok (.aload_n 0, 1) := by decide +kernel
theorem dX11_why_34 : decode cX11_why 34 = .ok (.getfield 30, 3) := by decide +kernel
theorem dX11_why_37 : decode cX11_why 37 = .ok (.iload_n 1, 1) := by decide +kernel
theorem dX11_why_38 : decode cX11_why 38 = .ok (.invokevirtual 193, 3) := by decide +kernel
theorem dX11_why_41 : decode cX11_why 41 = .ok (.astore 4, 2) := by decide +kernel
theorem dX11_why_43 : decode cX11_why 43 = .ok (.aload_n 0, 1) := by decide +kernel
theorem dX11_why_44 : decode cX11_why 44 = .ok (.getfield 55, 3) := by decide +kernel
theorem dX11_why_47 : decode cX11_why 47 = .ok (.aload_n 0, 1) := by decide +kernel
theorem dX11_why_48 : decode cX11_why 48 = .ok (.getfield 55, 3) := by decide +kernel
theorem dX11_why_51 : decode cX11_why 51 = .ok (.getfield 187, 3) := by decide +kernel
theorem dX11_why_54 : decode cX11_why 54 = .ok (.invokevirtual 197, 3) := by decide +kernel
theorem dX11_why_57 : decode cX11_why 57 = .ok (.aload_n 0, 1) := by decide +kernel
theorem dX11_why_58 : decode cX11_why 58 = .ok (.getfield 55, 3) := by decide +kernel
theorem dX11_why_61 : decode cX11_why 61 = .ok (.aload 4, 2) := by decide +kernel
theorem dX11_why_63 : decode cX11_why 63 = .ok (.iconst 1, 1) := by decide +kernel
theorem dX11_why_64 : decode cX11_why 64 = .ok (.iload_n 2, 1) := by decide +kernel
theorem dX11_why_65 : decode cX11_why 65 = .ok (.ishl, 1) := by decide +kernel
theorem dX11_why_66 : decode cX11_why 66 = .ok (.invokevirtual 214, 3) := by decide +kernel
theorem dX11_why_69 : decode cX11_why 69 = .ok (.istore 5, 2) := by decide +kernel
theorem dX11_why_71 : decode cX11_why 71 = .ok (.aload 4, 2) := by decide +kernel
theorem dX11_why_73 : decode cX11_why 73 = .ok (.aload_n 0, 1) := by decide +kernel
theorem dX11_why_74 : decode cX11_why 74 = .ok (.getfield 55, 3) := by decide +kernel
theorem dX11_why_77 : decode cX11_why 77 = .ok (.aload 4, 2) := by decide +kernel
theorem dX11_why_79 : decode cX11_why 79 = .ok (.iconst 0, 1) := by decide +kernel
theorem dX11_why_80 : decode cX11_why 80 = .ok (.invokevirtual 201, 3) := by decide +kernel
theorem dX11_why_83 : decode cX11_why 83 = .ok (.invokevirtual 205, 3) := by decide +kernel
theorem dX11_why_86 : decode cX11_why 86 = .ok (.iload_n 2, 1) := by decide +kernel
theorem dX11_why_87 : decode cX11_why 87 = .ok (.invokestatic 249, 3) := by decide +kernel
theorem dX11_why_90 : decode cX11_why 90 = .ok (.istore 6, 2) := by decide +kernel
theorem dX11_why_92 : decode cX11_why 92 = .ok (.iload_n 3, 1) := by decide +kernel
theorem dX11_why_93 : decode cX11_why 93 = .ok (.iconst 1, 1) := by decide +kernel
theorem dX11_why_94 : decode cX11_why 94 = .ok (.if_icmp .ne 27, 3) := by decide +kernel
theorem dX11_why_97 : decode cX11_why 97 = .ok (.iload 6, 2) := by decide +kernel
theorem dX11_why_99 : decode cX11_why 99 = .ok (.ifCond .ne 9, 3) := by decide +kernel
theorem dX11_why_102 : decode cX11_why 102 = .ok (.iload 5, 2) := by decide +kernel
theorem dX11_why_104 : decode cX11_why 104 = .ok (.iconst (-1), 1) := by decide +kernel
theorem dX11_why_105 : decode cX11_why 105 = .ok (.if_icmp .ne 7, 3) := by decide +kernel
theorem dX11_why_108 : decode cX11_why 108 = .ok (.iconst (-1), 1) := by decide +kernel
theorem dX11_why_109 : decode cX11_why 109 = .ok (.goto 11, 3) := by decide +kernel
theorem dX11_why_112 : decode cX11_why 112 = .ok (.iload 5, 2) := by decide +kernel
theorem dX11_why_114 : decode cX11_why 114 = .ok (.aload 4, 2) := by decide +kernel
theorem dX11_why_116 : decode cX11_why 116 = .ok (.getfield 144, 3) := by decide +kernel
theorem dX11_why_119 : decode cX11_why 119 = .ok (.isub, 1) := by decide +kernel
theorem dX11_why_120 : decode cX11_why 120 = .ok (.ireturn, 1) := by decide +kernel
theorem dX11_why_121 : decode cX11_why 121 = .ok (.iload 6, 2) := by decide +kernel
theorem dX11_why_123 : decode cX11_why 123 = .ok (.ifCond .eq 5, 3) := by decide +kernel
theorem dX11_why_126 : decode cX11_why 126 = .ok (.iconst 0, 1) := by decide +kernel
theorem dX11_why_127 : decode cX11_why 127 = .ok (.ireturn, 1) := by decide +kernel
theorem dX11_why_128 : decode cX11_why 128 = .ok (.aload 4, 2) := by decide +kernel
theorem dX11_why_130 : decode cX11_why 130 = .ok (.iconst 1, 1) := by decide +kernel
theorem dX11_why_131 : decode cX11_why 131 = .ok (.iload_n 2, 1) := by decide +kernel
theorem dX11_why_132 : decode cX11_why 132 = .ok (.ishl, 1) := by decide +kernel
theorem dX11_why_133 : decode cX11_why 133 = .ok (.invokevirtual 253, 3) := by decide +kernel
theorem dX11_why_136 : decode cX11_why 136 = .ok (.ifCond .ne 5, 3) := by decide +kernel
theorem dX11_why_139 : decode cX11_why 139 = .ok (.iconst 1, 1) := by decide +kernel
theorem dX11_why_140 : decode cX11_why 140 = .ok (.ireturn, 1) := by decide +kernel
theorem dX11_why_141 : decode cX11_why 141 = .ok (.iload 5, 2) := by decide +kernel
theorem dX11_why_143 : decode cX11_why 143 = .ok (.iconst (-1), 1) := by decide +kernel
theorem dX11_why_144 : decode cX11_why 144 = .ok (.if_icmp .ne 7, 3) := by decide +kernel
theorem dX11_why_147 : decode cX11_why 147 = .ok (.iconst 2, 1) := by decide +kernel
theorem dX11_why_148 : decode cX11_why 148 = .ok (.goto 4, 3) := by decide +kernel
theorem dX11_why_151 : decode cX11_why 151 = .ok (.iconst 3, 1) := by decide +kernel
theorem dX11_why_152 : decode cX11_why 152 = .ok (.ireturn, 1) := by decide +kernel
theorem dX11_give_0 : decode cX11_give 0 = .ok (.aload_n 0, 1) := by decide +kernel
theorem dX11_give_1 : decode cX11_give 1 = .ok (.getfield 30, 3) := by decide +kernel
theorem dX11_give_4 : decode cX11_give 4 = .ok (.iload_n 1, 1) := by decide +kernel
theorem dX11_give_5 : decode cX11_give 5 = .ok (.invokevirtual 137, 3) := by decide +kernel
theorem dX11_give_8 : decode cX11_give 8 = .ok (.ifCond .eq 22, 3) := by decide +kernel
theorem dX11_give_11 : decode cX11_give 11 = .ok (.iload_n 2, 1) := by decide +kernel
theorem dX11_give_12 : decode cX11_give 12 = .ok (.invokestatic 131, 3) := by decide +kernel
theorem dX11_give_15 : decode cX11_give 15 = .ok (.ifCond .eq 15, 3) := by decide +kernel
theorem dX11_give_18 : decode cX11_give 18 = .ok (.iload_n 2, 1) := by decide +kernel
theorem dX11_give_19 : decode cX11_give 19 = .ok (.aload_n 0, 1) := by decide +kernel
theorem dX11_give_20 : decode cX11_give 20 = .ok (.getfield 10, 3) := by decide +kernel
theorem dX11_give_23 : decode cX11_give 23 = .ok (.getfield 245, 3) := by decide +kernel
theorem dX11_give_26 : decode cX11_give 26 = .ok (.ishr, 1) := by decide +kernel
theorem dX11_give_27 : decode cX11_give 27 = .ok (.ifCond .eq 5, 3) := by decide +kernel
theorem dX11_give_30 : decode cX11_give 30 = .ok (.iconst 0, 1) := by decide +kernel
theorem dX11_give_31 : decode cX11_give 31 = .ok (.ireturn, 1) := by decide +kernel
theorem dX11_give_32 : decode cX11_give 32 = .ok (.aload_n 0, 1) := by decide +kernel
theorem dX11_give_33 : decode cX11_give 33 = .ok (.getfield 30, 3) := by decide +kernel
theorem dX11_give_36 : decode cX11_give 36 = .ok (.getfield 140, 3) := by decide +kernel
theorem dX11_give_39 : decode cX11_give 39 = .ok (.iload_n 1, 1) := by decide +kernel
theorem dX11_give_40 : decode cX11_give 40 = .ok (.aaload, 1) := by decide +kernel
theorem dX11_give_41 : decode cX11_give 41 = .ok (.iload_n 2, 1) := by decide +kernel
theorem dX11_give_42 : decode cX11_give 42 = .ok (.putfield 256, 3) := by decide +kernel
theorem dX11_give_45 : decode cX11_give 45 = .ok (.iconst 1, 1) := by decide +kernel
theorem dX11_give_46 : decode cX11_give 46 = .ok (.ireturn, 1) := by decide +kernel
theorem dX11_has_0 : decode cX11_has 0 = .ok (.iload_n 1, 1) := by decide +kernel
theorem dX11_has_1 : decode cX11_has 1 = .ok (.invokestatic 259, 3) := by decide +kernel
theorem dX11_has_4 : decode cX11_has 4 = .ok (.ifCond .eq 14, 3) := by decide +kernel
theorem dX11_has_7 : decode cX11_has 7 = .ok (.aload_n 0, 1) := by decide +kernel
theorem dX11_has_8 : decode cX11_has 8 = .ok (.getfield 30, 3) := by decide +kernel
theorem dX11_has_11 : decode cX11_has 11 = .ok (.iload_n 2, 1) := by decide +kernel
theorem dX11_has_12 : decode cX11_has 12 = .ok (.invokevirtual 137, 3) := by decide +kernel
theorem dX11_has_15 : decode cX11_has 15 = .ok (.ifCond .ne 5, 3) := by decide +kernel
theorem dX11_has_18 : decode cX11_has 18 = .ok (.iconst (-1), 1) := by decide +kernel
theorem dX11_has_19 : decode cX11_has 19 = .ok (.ireturn, 1) := by decide +kernel
theorem dX11_has_20 : decode cX11_has 20 = .ok (.aload_n 0, 1) := by decide +kernel
theorem dX11_has_21 : decode cX11_has 21 = .ok (.getfield 73, 3) := by decide +kernel
theorem dX11_has_24 : decode cX11_has 24 = .ok (.iload_n 1, 1) := by decide +kernel
theorem dX11_has_25 : decode cX11_has 25 = .ok (.invokevirtual 262, 3) := by decide +kernel
theorem dX11_has_28 : decode cX11_has 28 = .ok (.aload_n 0, 1) := by decide +kernel
theorem dX11_has_29 : decode cX11_has 29 = .ok (.getfield 73, 3) := by decide +kernel
theorem dX11_has_32 : decode cX11_has 32 = .ok (.getfield 263, 3) := by decide +kernel
theorem dX11_has_35 : decode cX11_has 35 = .ok (.iload_n 2, 1) := by decide +kernel
theorem dX11_has_36 : decode cX11_has 36 = .ok (.iaload, 1) := by decide +kernel
theorem dX11_has_37 : decode cX11_has 37 = .ok (.ireturn, 1) := by decide +kernel
theorem dX11_left_0 : decode cX11_left 0 = .ok (.iload_n 1, 1) := by decide +kernel
theorem dX11_left_1 : decode cX11_left 1 = .ok (.invokestatic 259, 3) := by decide +kernel
theorem dX11_left_4 : decode cX11_left 4 = .ok (.ifCond .eq 14, 3) := by decide +kernel
theorem dX11_left_7 : decode cX11_left 7 = .ok (.aload_n 0, 1) := by decide +kernel
theorem dX11_left_8 : decode cX11_left 8 = .ok (.getfield 10, 3) := by decide +kernel
theorem dX11_left_11 : decode cX11_left 11 = .ok (.iload_n 2, 1) := by decide +kernel
theorem dX11_left_12 : decode cX11_left 12 = .ok (.invokevirtual 113, 3) := by decide +kernel
theorem dX11_left_15 : decode cX11_left 15 = .ok (.ifCond .ne 6, 3) := by decide +kernel
theorem dX11_left_18 : decode cX11_left 18 = .ok (.bipush (-100), 2) := by decide +kernel
theorem dX11_left_20 : decode cX11_left 20 = .ok (.ireturn, 1) := by decide +kernel
theorem dX11_left_21 : decode cX11_left 21 = .ok (.aload_n 0, 1) := by decide +kernel
theorem dX11_left_22 : decode cX11_left 22 = .ok (.getfield 73, 3) := by decide +kernel
theorem dX11_left_25 : decode cX11_left 25 = .ok (.iload_n 1, 1) := by decide +kernel
theorem dX11_left_26 : decode cX11_left 26 = .ok (.invokevirtual 262, 3) := by decide +kernel
theorem dX11_left_29 : decode cX11_left 29 = .ok (.aload_n 0, 1) := by decide +kernel
theorem dX11_left_30 : decode cX11_left 30 = .ok (.getfield 73, 3) := by decide +kernel
theorem dX11_left_33 : decode cX11_left 33 = .ok (.getfield 266, 3) := by decide +kernel
theorem dX11_left_36 : decode cX11_left 36 = .ok (.iload_n 2, 1) := by decide +kernel
theorem dX11_left_37 : decode cX11_left 37 = .ok (.iaload, 1) := by decide +kernel
theorem dX11_left_38 : decode cX11_left 38 = .ok (.ireturn, 1) := by decide +kernel
theorem dX11_sum_0 : decode cX11_sum 0 = .ok (.iload_n 1, 1) := by decide +kernel
theorem dX11_sum_1 : decode cX11_sum 1 = .ok (.invokestatic 259, 3) := by decide +kernel
theorem dX11_sum_4 : decode cX11_sum 4 = .ok (.ifCond .ne 7, 3) := by decide +kernel
theorem dX11_sum_7 : decode cX11_sum 7 = .ok (.ldc_w 269, 3) := by decide +kernel
theorem dX11_sum_10 : decode cX11_sum 10 = .ok (.ireturn, 1) := by decide +kernel
theorem dX11_sum_11 : decode cX11_sum 11 = .ok (.aload_n 0, 1) := by decide +kernel
theorem dX11_sum_12 : decode cX11_sum 12 = .ok (.getfield 73, 3) := by decide +kernel
theorem dX11_sum_15 : decode cX11_sum 15 = .ok (.iload_n 1, 1) := by decide +kernel
theorem dX11_sum_16 : decode cX11_sum 16 = .ok (.invokevirtual 262, 3) := by decide +kernel
theorem dX11_sum_19 : decode cX11_sum 19 = .ok (.iconst 0, 1) := by decide +kernel
theorem dX11_sum_20 : decode cX11_sum 20 = .ok (.istore_n 2, 1) := by decide +kernel
theorem dX11_sum_21 : decode cX11_sum 21 = .ok (.iconst 0, 1) := by decide +kernel
theorem dX11_sum_22 : decode cX11_sum 22 = .ok (.istore_n 3, 1) := by decide +kernel
theorem dX11_sum_23 : decode cX11_sum 23 = .ok (.iload_n 3, 1) := by decide +kernel
theorem dX11_sum_24 : decode cX11_sum 24 = .ok (.aload_n 0, 1) := by decide +kernel
theorem dX11_sum_25 : decode cX11_sum 25 = .ok (.getfield 30, 3) := by decide +kernel
theorem dX11_sum_28 : decode cX11_sum 28 = .ok (.getfield 270, 3) := by decide +kernel
theorem dX11_sum_31 : decode cX11_sum 31 = .ok (.if_icmp .ge 34, 3) := by decide +kernel
theorem dX11_sum_34 : decode cX11_sum 34 = .ok (.iload_n 2, 1) := by decide +kernel
theorem dX11_sum_35 : decode cX11_sum 35 = .ok (.aload_n 0, 1) := by decide +kernel
theorem dX11_sum_36 : decode cX11_sum 36 = .ok (.getfield 30, 3) := by decide +kernel
theorem dX11_sum_39 : decode cX11_sum 39 = .ok (.getfield 140, 3) := by decide +kernel
theorem dX11_sum_42 : decode cX11_sum 42 = .ok (.iload_n 3, 1) := by decide +kernel
theorem dX11_sum_43 : decode cX11_sum 43 = .ok (.aaload, 1) := by decide +kernel
theorem dX11_sum_44 : decode cX11_sum 44 = .ok (.getfield 271, 3) := by decide +kernel
theorem dX11_sum_47 : decode cX11_sum 47 = .ok (.aload_n 0, 1) := by decide +kernel
theorem dX11_sum_48 : decode cX11_sum 48 = .ok (.getfield 73, 3) := by decide +kernel
theorem dX11_sum_51 : decode cX11_sum 51 = .ok (.getfield 263, 3) := by decide +kernel
theorem dX11_sum_54 : decode cX11_sum 54 = .ok (.iload_n 3, 1) := by decide +kernel
theorem dX11_sum_55 : decode cX11_sum 55 = .ok (.iaload, 1) := by decide +kernel
theorem dX11_sum_56 : decode cX11_sum 56 = .ok (.iaload, 1) := by decide +kernel
theorem dX11_sum_57 : decode cX11_sum 57 = .ok (.iadd, 1) := by decide +kernel
theorem dX11_sum_58 : decode cX11_sum 58 = .ok (.istore_n 2, 1) := by decide +kernel
theorem dX11_sum_59 : decode cX11_sum 59 = .ok (.iinc 3 1, 3) := by decide +kernel
theorem dX11_sum_62 : decode cX11_sum 62 = .ok (.goto (-39), 3) := by decide +kernel
theorem dX11_sum_65 : decode cX11_sum 65 = .ok (.iload_n 2, 1) := by decide +kernel
theorem dX11_sum_66 : decode cX11_sum 66 = .ok (.ireturn, 1) := by decide +kernel
theorem dX11_envy_0 : decode cX11_envy 0 = .ok (.iload_n 1, 1) := by decide +kernel
theorem dX11_envy_1 : decode cX11_envy 1 = .ok (.invokestatic 259, 3) := by decide +kernel
theorem dX11_envy_4 : decode cX11_envy 4 = .ok (.ifCond .eq 30, 3) := by decide +kernel
theorem dX11_envy_7 : decode cX11_envy 7 = .ok (.aload_n 0, 1) := by decide +kernel
theorem dX11_envy_8 : decode cX11_envy 8 = .ok (.getfield 30, 3) := by decide +kernel
theorem dX11_envy_11 : decode cX11_envy 11 = .ok (.iload_n 2, 1) := by decide +kernel
theorem dX11_envy_12 : decode cX11_envy 12 = .ok (.invokevirtual 137, 3) := by decide +kernel
theorem dX11_envy_15 : decode cX11_envy 15 = .ok (.ifCond .eq 19, 3) := by decide +kernel
theorem dX11_envy_18 : decode cX11_envy 18 = .ok (.aload_n 0, 1) := by decide +kernel
theorem dX11_envy_19 : decode cX11_envy 19 = .ok (.getfield 30, 3) := by decide +kernel
theorem dX11_envy_22 : decode cX11_envy 22 = .ok (.iload_n 3, 1) := by decide +kernel
theorem dX11_envy_23 : decode cX11_envy 23 = .ok (.invokevirtual 137, 3) := by decide +kernel
theorem dX11_envy_26 : decode cX11_envy 26 = .ok (.ifCond .eq 8, 3) := by decide +kernel
theorem dX11_envy_29 : decode cX11_envy 29 = .ok (.iload_n 2, 1) := by decide +kernel
theorem dX11_envy_30 : decode cX11_envy 30 = .ok (.iload_n 3, 1) := by decide +kernel
theorem dX11_envy_31 : decode cX11_envy 31 = .ok (.if_icmp .ne 5, 3) := by decide +kernel
theorem dX11_envy_34 : decode cX11_envy 34 = .ok (.iconst (-1), 1) := by decide +kernel
theorem dX11_envy_35 : decode cX11_envy 35 = .ok (.ireturn, 1) := by decide +kernel
theorem dX11_envy_36 : decode cX11_envy 36 = .ok (.aload_n 0, 1) := by decide +kernel
theorem dX11_envy_37 : decode cX11_envy 37 = .ok (.getfield 73, 3) := by decide +kernel
theorem dX11_envy_40 : decode cX11_envy 40 = .ok (.iload_n 1, 1) := by decide +kernel
theorem dX11_envy_41 : decode cX11_envy 41 = .ok (.invokevirtual 262, 3) := by decide +kernel
theorem dX11_envy_44 : decode cX11_envy 44 = .ok (.aload_n 0, 1) := by decide +kernel
theorem dX11_envy_45 : decode cX11_envy 45 = .ok (.getfield 82, 3) := by decide +kernel
theorem dX11_envy_48 : decode cX11_envy 48 = .ok (.iload_n 2, 1) := by decide +kernel
theorem dX11_envy_49 : decode cX11_envy 49 = .ok (.iload_n 3, 1) := by decide +kernel
theorem dX11_envy_50 : decode cX11_envy 50 = .ok (.invokevirtual 274, 3) := by decide +kernel
theorem dX11_envy_53 : decode cX11_envy 53 = .ok (.ireturn, 1) := by decide +kernel
theorem dX11_envies_0 : decode cX11_envies 0 = .ok (.iload_n 1, 1) := by decide +kernel
theorem dX11_envies_1 : decode cX11_envies 1 = .ok (.invokestatic 259, 3) := by decide +kernel
theorem dX11_envies_4 : decode cX11_envies 4 = .ok (.ifCond .eq 13, 3) := by decide +kernel
theorem dX11_envies_7 : decode cX11_envies 7 = .ok (.iload_n 2, 1) := by decide +kernel
theorem dX11_envies_8 : decode cX11_envies 8 = .ok (.iconst 1, 1) := by decide +kernel
theorem dX11_envies_9 : decode cX11_envies 9 = .ok (.if_icmp .lt 8, 3) := by decide +kernel
theorem dX11_envies_12 : decode cX11_envies 12 = .ok (.iload_n 2, 1) := by decide +kernel
theorem dX11_envies_13 : decode cX11_envies 13 = .ok (.iconst 2, 1) := by decide +kernel
theorem dX11_envies_14 : decode cX11_envies 14 = .ok (.if_icmp .le 5, 3) := by decide +kernel
theorem dX11_envies_17 : decode cX11_envies 17 = .ok (.iconst (-1), 1) := by decide +kernel
theorem dX11_envies_18 : decode cX11_envies 18 = .ok (.ireturn, 1) := by decide +kernel
theorem dX11_envies_19 : decode cX11_envies 19 = .ok (.aload_n 0, 1) := by decide +kernel
theorem dX11_envies_20 : decode cX11_envies 20 = .ok (.getfield 73, 3) := by decide +kernel
theorem dX11_envies_23 : decode cX11_envies 23 = .ok (.iload_n 1, 1) := by decide +kernel
theorem dX11_envies_24 : decode cX11_envies 24 = .ok (.invokevirtual 262, 3) := by decide +kernel
theorem dX11_envies_27 : decode cX11_envies 27 = .ok (.iconst 0, 1) := by decide +kernel
theorem dX11_envies_28 : decode cX11_envies 28 = .ok (.istore_n 3, 1) := by decide +kernel
theorem dX11_envies_29 : decode cX11_envies 29 = .ok (.iconst 0, 1) := by decide +kernel
theorem dX11_envies_30 : decode cX11_envies 30 = .ok (.istore 4, 2) := by decide +kernel
theorem dX11_envies_32 : decode cX11_envies 32 = .ok (.iload 4, 2) := by decide +kernel
theorem dX11_envies_34 : decode cX11_envies 34 = .ok (.aload_n 0, 1) := by decide +kernel
theorem dX11_envies_35 : decode cX11_envies 35 = .ok (.getfield 30, 3) := by decide +kernel
theorem dX11_envies_38 : decode cX11_envies 38 = .ok (.getfield 270, 3) := by decide +kernel
theorem dX11_envies_41 : decode cX11_envies 41 = .ok (.if_icmp .ge 55, 3) := by decide +kernel
theorem dX11_envies_44 : decode cX11_envies 44 = .ok (.iconst 0, 1) := by decide +kernel
theorem dX11_envies_45 : decode cX11_envies 45 = .ok (.istore 5, 2) := by decide +kernel
theorem dX11_envies_47 : decode cX11_envies 47 = .ok (.iload 5, 2) := by decide +kernel
theorem dX11_envies_49 : decode cX11_envies 49 = .ok (.aload_n 0, 1) := by decide +kernel
theorem dX11_envies_50 : decode cX11_envies 50 = .ok (.getfield 30, 3) := by decide +kernel
theorem dX11_envies_53 : decode cX11_envies 53 = .ok (.getfield 270, 3) := by decide +kernel
theorem dX11_envies_56 : decode cX11_envies 56 = .ok (.if_icmp .ge 34, 3) := by decide +kernel
theorem dX11_envies_59 : decode cX11_envies 59 = .ok (.iload 4, 2) := by decide +kernel
theorem dX11_envies_61 : decode cX11_envies 61 = .ok (.iload 5, 2) := by decide +kernel
theorem dX11_envies_63 : decode cX11_envies 63 = .ok (.if_icmp .eq 21, 3) := by decide +kernel
theorem dX11_envies_66 : decode cX11_envies 66 = .ok (.aload_n 0, 1) := by decide +kernel
theorem dX11_envies_67 : decode cX11_envies 67 = .ok (.getfield 82, 3) := by decide +kernel
theorem dX11_envies_70 : decode cX11_envies 70 = .ok (.iload 4, 2) := by decide +kernel
theorem dX11_envies_72 : decode cX11_envies 72 = .ok (.iload 5, 2) := by decide +kernel
theorem dX11_envies_74 : decode cX11_envies 74 = .ok (.invokevirtual 274, 3) := by decide +kernel
theorem dX11_envies_77 : decode cX11_envies 77 = .ok (.iload_n 2, 1) := by decide +kernel
theorem dX11_envies_78 : decode cX11_envies 78 = .ok (.if_icmp .lt 6, 3) := by decide +kernel
theorem dX11_envies_81 : decode cX11_envies 81 = .ok (.iinc 3 1, 3) := by decide +kernel
theorem dX11_envies_84 : decode cX11_envies 84 = .ok (.iinc 5 1, 3) := by decide +kernel
theorem dX11_envies_87 : decode cX11_envies 87 = .ok (.goto (-40), 3) := by decide +kernel
theorem dX11_envies_90 : decode cX11_envies 90 = .ok (.iinc 4 1, 3) := by decide +kernel
theorem dX11_envies_93 : decode cX11_envies 93 = .ok (.goto (-61), 3) := by decide +kernel
theorem dX11_envies_96 : decode cX11_envies 96 = .ok (.iload_n 3, 1) := by decide +kernel
theorem dX11_envies_97 : decode cX11_envies 97 = .ok (.ireturn, 1) := by decide +kernel
theorem dX11_waste_0 : decode cX11_waste 0 = .ok (.iload_n 1, 1) := by decide +kernel
theorem dX11_waste_1 : decode cX11_waste 1 = .ok (.invokestatic 259, 3) := by decide +kernel
theorem dX11_waste_4 : decode cX11_waste 4 = .ok (.ifCond .eq 12, 3) := by decide +kernel
theorem dX11_waste_7 : decode cX11_waste 7 = .ok (.iload_n 2, 1) := by decide +kernel
theorem dX11_waste_8 : decode cX11_waste 8 = .ok (.ifCond .lt 8, 3) := by decide +kernel
theorem dX11_waste_11 : decode cX11_waste 11 = .ok (.iload_n 2, 1) := by decide +kernel
theorem dX11_waste_12 : decode cX11_waste 12 = .ok (.iconst 3, 1) := by decide +kernel
theorem dX11_waste_13 : decode cX11_waste 13 = .ok (.if_icmp .le 5, 3) := by decide +kernel
theorem dX11_waste_16 : decode cX11_waste 16 = .ok (.iconst (-1), 1) := by decide +kernel
theorem dX11_waste_17 : decode cX11_waste 17 = .ok (.ireturn, 1) := by decide +kernel
theorem dX11_waste_18 : decode cX11_waste 18 = .ok (.aload_n 0, 1) := by decide +kernel
theorem dX11_waste_19 : decode cX11_waste 19 = .ok (.getfield 73, 3) := by decide +kernel
theorem dX11_waste_22 : decode cX11_waste 22 = .ok (.iload_n 1, 1) := by decide +kernel
theorem dX11_waste_23 : decode cX11_waste 23 = .ok (.invokevirtual 262, 3) := by decide +kernel
theorem dX11_waste_26 : decode cX11_waste 26 = .ok (.aload_n 0, 1) := by decide +kernel
theorem dX11_waste_27 : decode cX11_waste 27 = .ok (.getfield 82, 3) := by decide +kernel
theorem dX11_waste_30 : decode cX11_waste 30 = .ok (.invokevirtual 277, 3) := by decide +kernel
theorem dX11_waste_33 : decode cX11_waste 33 = .ok (.ifCond .eq 15, 3) := by decide +kernel
theorem dX11_waste_36 : decode cX11_waste 36 = .ok (.aload_n 0, 1) := by decide +kernel
theorem dX11_waste_37 : decode cX11_waste 37 = .ok (.getfield 82, 3) := by decide +kernel
theorem dX11_waste_40 : decode cX11_waste 40 = .ok (.getfield 281, 3) := by decide +kernel
theorem dX11_waste_43 : decode cX11_waste 43 = .ok (.iload_n 2, 1) := by decide +kernel
theorem dX11_waste_44 : decode cX11_waste 44 = .ok (.iaload, 1) := by decide +kernel
theorem dX11_waste_45 : decode cX11_waste 45 = .ok (.goto 4, 3) := by decide +kernel
theorem dX11_waste_48 : decode cX11_waste 48 = .ok (.iconst (-1), 1) := by decide +kernel
theorem dX11_waste_49 : decode cX11_waste 49 = .ok (.ireturn, 1) := by decide +kernel
theorem dX11_share_0 : decode cX11_share 0 = .ok (.aload_n 0, 1) := by decide +kernel
theorem dX11_share_1 : decode cX11_share 1 = .ok (.getfield 30, 3) := by decide +kernel
theorem dX11_share_4 : decode cX11_share 4 = .ok (.iload_n 1, 1) := by decide +kernel
theorem dX11_share_5 : decode cX11_share 5 = .ok (.invokevirtual 137, 3) := by decide +kernel
theorem dX11_share_8 : decode cX11_share 8 = .ok (.ifCond .eq 26, 3) := by decide +kernel
theorem dX11_share_11 : decode cX11_share 11 = .ok (.aload_n 0, 1) := by decide +kernel
theorem dX11_share_12 : decode cX11_share 12 = .ok (.getfield 30, 3) := by decide +kernel
theorem dX11_share_15 : decode cX11_share 15 = .ok (.getfield 270, 3) := by decide +kernel
theorem dX11_share_18 : decode cX11_share 18 = .ok (.iconst 3, 1) := by decide +kernel
theorem dX11_share_19 : decode cX11_share 19 = .ok (.if_icmp .gt 15, 3) := by decide +kernel
theorem dX11_share_22 : decode cX11_share 22 = .ok (.aload_n 0, 1) := by decide +kernel
theorem dX11_share_23 : decode cX11_share 23 = .ok (.getfield 10, 3) := by decide +kernel
theorem dX11_share_26 : decode cX11_share 26 = .ok (.getfield 245, 3) := by decide +kernel
theorem dX11_share_29 : decode cX11_share 29 = .ok (.bipush 6, 2) := by decide +kernel
theorem dX11_share_31 : decode cX11_share 31 = .ok (.if_icmp .le 6, 3) := by decide +kernel
theorem dX11_share_34 : decode cX11_share 34 = .ok (.ldc 183, 2) := by decide +kernel
theorem dX11_share_36 : decode cX11_share 36 = .ok (.ireturn, 1) := by decide +kernel
theorem dX11_share_37 : decode cX11_share 37 = .ok (.aload_n 0, 1) := by decide +kernel
theorem dX11_share_38 : decode cX11_share 38 = .ok (.getfield 82, 3) := by decide +kernel
theorem dX11_share_41 : decode cX11_share 41 = .ok (.aload_n 0, 1) := by decide +kernel
theorem dX11_share_42 : decode cX11_share 42 = .ok (.getfield 30, 3) := by decide +kernel
theorem dX11_share_45 : decode cX11_share 45 = .ok (.iload_n 1, 1) := by decide +kernel
theorem dX11_share_46 : decode cX11_share 46 = .ok (.invokevirtual 193, 3) := by decide +kernel
theorem dX11_share_49 : decode cX11_share 49 = .ok (.invokevirtual 284, 3) := by decide +kernel
theorem dX11_share_52 : decode cX11_share 52 = .ok (.ireturn, 1) := by decide +kernel
theorem dX11_gain_0 : decode cX11_gain 0 = .ok (.iload_n 1, 1) := by decide +kernel
theorem dX11_gain_1 : decode cX11_gain 1 = .ok (.iconst 1, 1) := by decide +kernel
theorem dX11_gain_2 : decode cX11_gain 2 = .ok (.if_icmp .lt 26, 3) := by decide +kernel
theorem dX11_gain_5 : decode cX11_gain 5 = .ok (.iload_n 1, 1) := by decide +kernel
theorem dX11_gain_6 : decode cX11_gain 6 = .ok (.iconst 5, 1) := by decide +kernel
theorem dX11_gain_7 : decode cX11_gain 7 = .ok (.if_icmp .ge 21, 3) := by decide +kernel
theorem dX11_gain_10 : decode cX11_gain 10 = .ok (.aload_n 0, 1) := by decide +kernel
theorem dX11_gain_11 : decode cX11_gain 11 = .ok (.getfield 30, 3) := by decide +kernel
theorem dX11_gain_14 : decode cX11_gain 14 = .ok (.iload_n 2, 1) := by decide +kernel
theorem dX11_gain_15 : decode cX11_gain 15 = .ok (.invokevirtual 137, 3) := by decide +kernel
theorem dX11_gain_18 : decode cX11_gain 18 = .ok (.ifCond .eq 10, 3) := by decide +kernel
theorem dX11_gain_21 : decode cX11_gain 21 = .ok (.aload_n 0, 1) := by decide +kernel
theorem dX11_gain_22 : decode cX11_gain 22 = .ok (.getfield 173, 3) := by decide +kernel
theorem dX11_gain_25 : decode cX11_gain 25 = .ok (.ifCond .ne 7, 3) := by decide +kernel
theorem dX11_gain_28 : decode cX11_gain 28 = .ok (.ldc_w 288, 3) := by decide +kernel
theorem dX11_gain_31 : decode cX11_gain 31 = .ok (.ireturn, 1) := by decide +kernel
theorem dX11_gain_32 : decode cX11_gain 32 = .ok (.aload_n 0, 1) := by decide +kernel
theorem dX11_gain_33 : decode cX11_gain 33 = .ok (.getfield 73, 3) := by decide +kernel
theorem dX11_gain_36 : decode cX11_gain 36 = .ok (.iload_n 1, 1) := by decide +kernel
theorem dX11_gain_37 : decode cX11_gain 37 = .ok (.invokevirtual 262, 3) := by decide +kernel
theorem dX11_gain_40 : decode cX11_gain 40 = .ok (.aload_n 0, 1) := by decide +kernel
theorem dX11_gain_41 : decode cX11_gain 41 = .ok (.getfield 73, 3) := by decide +kernel
theorem dX11_gain_44 : decode cX11_gain 44 = .ok (.getfield 263, 3) := by decide +kernel
theorem dX11_gain_47 : decode cX11_gain 47 = .ok (.iload_n 2, 1) := by decide +kernel
theorem dX11_gain_48 : decode cX11_gain 48 = .ok (.iaload, 1) := by decide +kernel
theorem dX11_gain_49 : decode cX11_gain 49 = .ok (.istore_n 3, 1) := by decide +kernel
theorem dX11_gain_50 : decode cX11_gain 50 = .ok (.aload_n 0, 1) := by decide +kernel
theorem dX11_gain_51 : decode cX11_gain 51 = .ok (.getfield 30, 3) := by decide +kernel
theorem dX11_gain_54 : decode cX11_gain 54 = .ok (.getfield 140, 3) := by decide +kernel
theorem dX11_gain_57 : decode cX11_gain 57 = .ok (.iload_n 2, 1) := by decide +kernel
theorem dX11_gain_58 : decode cX11_gain 58 = .ok (.aaload, 1) := by decide +kernel
theorem dX11_gain_59 : decode cX11_gain 59 = .ok (.astore 4, 2) := by decide +kernel
theorem dX11_gain_61 : decode cX11_gain 61 = .ok (.aload_n 0, 1) := by decide +kernel
theorem dX11_gain_62 : decode cX11_gain 62 = .ok (.getfield 98, 3) := by decide +kernel
theorem dX11_gain_65 : decode cX11_gain 65 = .ok (.aload 4, 2) := by decide +kernel
theorem dX11_gain_67 : decode cX11_gain 67 = .ok (.invokevirtual 289, 3) := by decide +kernel
theorem dX11_gain_70 : decode cX11_gain 70 = .ok (.aload_n 0, 1) := by decide +kernel
theorem dX11_gain_71 : decode cX11_gain 71 = .ok (.getfield 30, 3) := by decide +kernel
theorem dX11_gain_74 : decode cX11_gain 74 = .ok (.getfield 140, 3) := by decide +kernel
theorem dX11_gain_77 : decode cX11_gain 77 = .ok (.iload_n 2, 1) := by decide +kernel
theorem dX11_gain_78 : decode cX11_gain 78 = .ok (.aload_n 0, 1) := by decide +kernel
theorem dX11_gain_79 : decode cX11_gain 79 = .ok (.getfield 98, 3) := by decide +kernel
theorem dX11_gain_82 : decode cX11_gain 82 = .ok (.aastore, 1) := by decide +kernel
theorem dX11_gain_83 : decode cX11_gain 83 = .ok (.aload_n 0, 1) := by decide +kernel
theorem dX11_gain_84 : decode cX11_gain 84 = .ok (.getfield 73, 3) := by decide +kernel
theorem dX11_gain_87 : decode cX11_gain 87 = .ok (.iload_n 1, 1) := by decide +kernel
theorem dX11_gain_88 : decode cX11_gain 88 = .ok (.invokevirtual 262, 3) := by decide +kernel
theorem dX11_gain_91 : decode cX11_gain 91 = .ok (.aload_n 0, 1) := by decide +kernel
theorem dX11_gain_92 : decode cX11_gain 92 = .ok (.getfield 30, 3) := by decide +kernel
theorem dX11_gain_95 : decode cX11_gain 95 = .ok (.getfield 140, 3) := by decide +kernel
theorem dX11_gain_98 : decode cX11_gain 98 = .ok (.iload_n 2, 1) := by decide +kernel
theorem dX11_gain_99 : decode cX11_gain 99 = .ok (.aload 4, 2) := by decide +kernel
theorem dX11_gain_101 : decode cX11_gain 101 = .ok (.aastore, 1) := by decide +kernel
theorem dX11_gain_102 : decode cX11_gain 102 = .ok (.aload 4, 2) := by decide +kernel
theorem dX11_gain_104 : decode cX11_gain 104 = .ok (.getfield 271, 3) := by decide +kernel
theorem dX11_gain_107 : decode cX11_gain 107 = .ok (.aload_n 0, 1) := by decide +kernel
theorem dX11_gain_108 : decode cX11_gain 108 = .ok (.getfield 73, 3) := by decide +kernel
theorem dX11_gain_111 : decode cX11_gain 111 = .ok (.getfield 263, 3) := by decide +kernel
theorem dX11_gain_114 : decode cX11_gain 114 = .ok (.iload_n 2, 1) := by decide +kernel
theorem dX11_gain_115 : decode cX11_gain 115 = .ok (.iaload, 1) := by decide +kernel
theorem dX11_gain_116 : decode cX11_gain 116 = .ok (.iaload, 1) := by decide +kernel
theorem dX11_gain_117 : decode cX11_gain 117 = .ok (.aload 4, 2) := by decide +kernel
theorem dX11_gain_119 : decode cX11_gain 119 = .ok (.getfield 271, 3) := by decide +kernel
theorem dX11_gain_122 : decode cX11_gain 122 = .ok (.iload_n 3, 1) := by decide +kernel
theorem dX11_gain_123 : decode cX11_gain 123 = .ok (.iaload, 1) := by decide +kernel
theorem dX11_gain_124 : decode cX11_gain 124 = .ok (.isub, 1) := by decide +kernel
theorem dX11_gain_125 : decode cX11_gain 125 = .ok (.ireturn, 1) := by decide +kernel
theorem dX11_rank_0 : decode cX11_rank 0 = .ok (.iload_n 1, 1) := by decide +kernel
theorem dX11_rank_1 : decode cX11_rank 1 = .ok (.invokestatic 259, 3) := by decide +kernel
theorem dX11_rank_4 : decode cX11_rank 4 = .ok (.ifCond .eq 14, 3) := by decide +kernel
theorem dX11_rank_7 : decode cX11_rank 7 = .ok (.aload_n 0, 1) := by decide +kernel
theorem dX11_rank_8 : decode cX11_rank 8 = .ok (.getfield 30, 3) := by decide +kernel
theorem dX11_rank_11 : decode cX11_rank 11 = .ok (.iload_n 2, 1) := by decide +kernel
theorem dX11_rank_12 : decode cX11_rank 12 = .ok (.invokevirtual 137, 3) := by decide +kernel
theorem dX11_rank_15 : decode cX11_rank 15 = .ok (.ifCond .ne 5, 3) := by decide +kernel
theorem dX11_rank_18 : decode cX11_rank 18 = .ok (.iconst (-1), 1) := by decide +kernel
theorem dX11_rank_19 : decode cX11_rank 19 = .ok (.ireturn, 1) := by decide +kernel
theorem dX11_rank_20 : decode cX11_rank 20 = .ok (.aload_n 0, 1) := by decide +kernel
theorem dX11_rank_21 : decode cX11_rank 21 = .ok (.getfield 73, 3) := by decide +kernel
theorem dX11_rank_24 : decode cX11_rank 24 = .ok (.iload_n 1, 1) := by decide +kernel
theorem dX11_rank_25 : decode cX11_rank 25 = .ok (.invokevirtual 262, 3) := by decide +kernel
theorem dX11_rank_28 : decode cX11_rank 28 = .ok (.aload_n 0, 1) := by decide +kernel
theorem dX11_rank_29 : decode cX11_rank 29 = .ok (.getfield 30, 3) := by decide +kernel
theorem dX11_rank_32 : decode cX11_rank 32 = .ok (.getfield 140, 3) := by decide +kernel
theorem dX11_rank_35 : decode cX11_rank 35 = .ok (.iload_n 2, 1) := by decide +kernel
theorem dX11_rank_36 : decode cX11_rank 36 = .ok (.aaload, 1) := by decide +kernel
theorem dX11_rank_37 : decode cX11_rank 37 = .ok (.astore_n 3, 1) := by decide +kernel
theorem dX11_rank_38 : decode cX11_rank 38 = .ok (.aload_n 3, 1) := by decide +kernel
theorem dX11_rank_39 : decode cX11_rank 39 = .ok (.aload_n 3, 1) := by decide +kernel
theorem dX11_rank_40 : decode cX11_rank 40 = .ok (.getfield 271, 3) := by decide +kernel
theorem dX11_rank_43 : decode cX11_rank 43 = .ok (.aload_n 0, 1) := by decide +kernel
theorem dX11_rank_44 : decode cX11_rank 44 = .ok (.getfield 73, 3) := by decide +kernel
theorem dX11_rank_47 : decode cX11_rank 47 = .ok (.getfield 263, 3) := by decide +kernel
theorem dX11_rank_50 : decode cX11_rank 50 = .ok (.iload_n 2, 1) := by decide +kernel
theorem dX11_rank_51 : decode cX11_rank 51 = .ok (.iaload, 1) := by decide +kernel
theorem dX11_rank_52 : decode cX11_rank 52 = .ok (.iaload, 1) := by decide +kernel
theorem dX11_rank_53 : decode cX11_rank 53 = .ok (.invokevirtual 293, 3) := by decide +kernel
theorem dX11_rank_56 : decode cX11_rank 56 = .ok (.ireturn, 1) := by decide +kernel
theorem dX11_ties_0 : decode cX11_ties 0 = .ok (.aload_n 0, 1) := by decide +kernel
theorem dX11_ties_1 : decode cX11_ties 1 = .ok (.getfield 30, 3) := by decide +kernel
theorem dX11_ties_4 : decode cX11_ties 4 = .ok (.iload_n 1, 1) := by decide +kernel
theorem dX11_ties_5 : decode cX11_ties 5 = .ok (.invokevirtual 137, 3) := by decide +kernel
theorem dX11_ties_8 : decode cX11_ties 8 = .ok (.ifCond .ne 5, 3) := by decide +kernel
theorem dX11_ties_11 : decode cX11_ties 11 = .ok (.iconst (-1), 1) := by decide +kernel
theorem dX11_ties_12 : decode cX11_ties 12 = .ok (.ireturn, 1) := by decide +kernel
theorem dX11_ties_13 : decode cX11_ties 13 = .ok (.aload_n 0, 1) := by decide +kernel
theorem dX11_ties_14 : decode cX11_ties 14 = .ok (.getfield 30, 3) := by decide +kernel
theorem dX11_ties_17 : decode cX11_ties 17 = .ok (.iload_n 1, 1) := by decide +kernel
theorem dX11_ties_18 : decode cX11_ties 18 = .ok (.invokevirtual 193, 3) := by decide +kernel
theorem dX11_ties_21 : decode cX11_ties 21 = .ok (.astore_n 2, 1) := by decide +kernel
theorem dX11_ties_22 : decode cX11_ties 22 = .ok (.aload_n 0, 1) := by decide +kernel
theorem dX11_ties_23 : decode cX11_ties 23 = .ok (.getfield 55, 3) := by decide +kernel
theorem dX11_ties_26 : decode cX11_ties 26 = .ok (.aload_n 0, 1) := by decide +kernel
theorem dX11_ties_27 : decode cX11_ties 27 = .ok (.getfield 55, 3) := by decide +kernel
theorem dX11_ties_30 : decode cX11_ties 30 = .ok (.getfield 187, 3) := by decide +kernel
theorem dX11_ties_33 : decode cX11_ties 33 = .ok (.invokevirtual 197, 3) := by decide +kernel
theorem dX11_ties_36 : decode cX11_ties 36 = .ok (.aload_n 0, 1) := by decide +kernel
theorem dX11_ties_37 : decode cX11_ties 37 = .ok (.getfield 55, 3) := by decide +kernel
theorem dX11_ties_40 : decode cX11_ties 40 = .ok (.aload_n 2, 1) := by decide +kernel
theorem dX11_ties_41 : decode cX11_ties 41 = .ok (.invokevirtual 296, 3) := by decide +kernel
theorem dX11_ties_44 : decode cX11_ties 44 = .ok (.ireturn, 1) := by decide +kernel
theorem dX11_edge_0 : decode cX11_edge 0 = .ok (.aload_n 0, 1) := by decide +kernel
theorem dX11_edge_1 : decode cX11_edge 1 = .ok (.getfield 30, 3) := by decide +kernel
theorem dX11_edge_4 : decode cX11_edge 4 = .ok (.iload_n 1, 1) := by decide +kernel
theorem dX11_edge_5 : decode cX11_edge 5 = .ok (.invokevirtual 137, 3) := by decide +kernel
theorem dX11_edge_8 : decode cX11_edge 8 = .ok (.ifCond .eq 14, 3) := by decide +kernel
theorem dX11_edge_11 : decode cX11_edge 11 = .ok (.aload_n 0, 1) := by decide +kernel
theorem dX11_edge_12 : decode cX11_edge 12 = .ok (.getfield 10, 3) := by decide +kernel
theorem dX11_edge_15 : decode cX11_edge 15 = .ok (.iload_n 2, 1) := by decide +kernel
theorem dX11_edge_16 : decode cX11_edge 16 = .ok (.invokevirtual 113, 3) := by decide +kernel
theorem dX11_edge_19 : decode cX11_edge 19 = .ok (.ifCond .ne 5, 3) := by decide +kernel
theorem dX11_edge_22 : decode cX11_edge 22 = .ok (.iconst (-1), 1) := by decide +kernel
theorem dX11_edge_23 : decode cX11_edge 23 = .ok (.ireturn, 1) := by decide +kernel
theorem dX11_edge_24 : decode cX11_edge 24 = .ok (.aload_n 0, 1) := by decide +kernel
theorem dX11_edge_25 : decode cX11_edge 25 = .ok (.getfield 64, 3) := by decide +kernel
theorem dX11_edge_28 : decode cX11_edge 28 = .ok (.aload_n 0, 1) := by decide +kernel
theorem dX11_edge_29 : decode cX11_edge 29 = .ok (.getfield 30, 3) := by decide +kernel
theorem dX11_edge_32 : decode cX11_edge 32 = .ok (.iload_n 1, 1) := by decide +kernel
theorem dX11_edge_33 : decode cX11_edge 33 = .ok (.invokevirtual 193, 3) := by decide +kernel
theorem dX11_edge_36 : decode cX11_edge 36 = .ok (.iload_n 2, 1) := by decide +kernel
theorem dX11_edge_37 : decode cX11_edge 37 = .ok (.invokevirtual 299, 3) := by decide +kernel
theorem dX11_edge_40 : decode cX11_edge 40 = .ok (.ireturn, 1) := by decide +kernel
theorem dX11_few_0 : decode cX11_few 0 = .ok (.iload_n 3, 1) := by decide +kernel
theorem dX11_few_1 : decode cX11_few 1 = .ok (.ifCond .eq 17, 3) := by decide +kernel
theorem dX11_few_4 : decode cX11_few 4 = .ok (.aload_n 0, 1) := by decide +kernel
theorem dX11_few_5 : decode cX11_few 5 = .ok (.getfield 30, 3) := by decide +kernel
theorem dX11_few_8 : decode cX11_few 8 = .ok (.iload_n 3, 1) := by decide +kernel
theorem dX11_few_9 : decode cX11_few 9 = .ok (.bipush 10, 2) := by decide +kernel
theorem dX11_few_11 : decode cX11_few 11 = .ok (.isub, 1) := by decide +kernel
theorem dX11_few_12 : decode cX11_few 12 = .ok (.invokevirtual 137, 3) := by decide +kernel
theorem dX11_few_15 : decode cX11_few 15 = .ok (.ifCond .eq 7, 3) := by decide +kernel
theorem dX11_few_18 : decode cX11_few 18 = .ok (.iconst 1, 1) := by decide +kernel
theorem dX11_few_19 : decode cX11_few 19 = .ok (.goto 4, 3) := by decide +kernel
theorem dX11_few_22 : decode cX11_few 22 = .ok (.iconst 0, 1) := by decide +kernel
theorem dX11_few_23 : decode cX11_few 23 = .ok (.istore 4, 2) := by decide +kernel
theorem dX11_few_25 : decode cX11_few 25 = .ok (.iload_n 1, 1) := by decide +kernel
theorem dX11_few_26 : decode cX11_few 26 = .ok (.invokestatic 259, 3) := by decide +kernel
theorem dX11_few_29 : decode cX11_few 29 = .ok (.ifCond .eq 19, 3) := by decide +kernel
theorem dX11_few_32 : decode cX11_few 32 = .ok (.aload_n 0, 1) := by decide +kernel
theorem dX11_few_33 : decode cX11_few 33 = .ok (.getfield 10, 3) := by decide +kernel
theorem dX11_few_36 : decode cX11_few 36 = .ok (.iload_n 2, 1) := by decide +kernel
theorem dX11_few_37 : decode cX11_few 37 = .ok (.invokevirtual 113, 3) := by decide +kernel
theorem dX11_few_40 : decode cX11_few 40 = .ok (.ifCond .eq 8, 3) := by decide +kernel
theorem dX11_few_43 : decode cX11_few 43 = .ok (.iload 4, 2) := by decide +kernel
theorem dX11_few_45 : decode cX11_few 45 = .ok (.ifCond .ne 5, 3) := by decide +kernel
theorem dX11_few_48 : decode cX11_few 48 = .ok (.iconst (-1), 1) := by decide +kernel
theorem dX11_few_49 : decode cX11_few 49 = .ok (.ireturn, 1) := by decide +kernel
theorem dX11_few_50 : decode cX11_few 50 = .ok (.aload_n 0, 1) := by decide +kernel
theorem dX11_few_51 : decode cX11_few 51 = .ok (.getfield 73, 3) := by decide +kernel
theorem dX11_few_54 : decode cX11_few 54 = .ok (.iload_n 1, 1) := by decide +kernel
theorem dX11_few_55 : decode cX11_few 55 = .ok (.invokevirtual 262, 3) := by decide +kernel
theorem dX11_few_58 : decode cX11_few 58 = .ok (.aload_n 0, 1) := by decide +kernel
theorem dX11_few_59 : decode cX11_few 59 = .ok (.getfield 89, 3) := by decide +kernel
theorem dX11_few_62 : decode cX11_few 62 = .ok (.iload_n 2, 1) := by decide +kernel
theorem dX11_few_63 : decode cX11_few 63 = .ok (.invokevirtual 302, 3) := by decide +kernel
theorem dX11_few_66 : decode cX11_few 66 = .ok (.ifCond .ne 5, 3) := by decide +kernel
theorem dX11_few_69 : decode cX11_few 69 = .ok (.iconst (-1), 1) := by decide +kernel
theorem dX11_few_70 : decode cX11_few 70 = .ok (.ireturn, 1) := by decide +kernel
theorem dX11_few_71 : decode cX11_few 71 = .ok (.iload_n 3, 1) := by decide +kernel
theorem dX11_few_72 : decode cX11_few 72 = .ok (.ifCond .ne 13, 3) := by decide +kernel
theorem dX11_few_75 : decode cX11_few 75 = .ok (.aload_n 0, 1) := by decide +kernel
theorem dX11_few_76 : decode cX11_few 76 = .ok (.getfield 89, 3) := by decide +kernel
theorem dX11_few_79 : decode cX11_few 79 = .ok (.getfield 305, 3) := by decide +kernel
theorem dX11_few_82 : decode cX11_few 82 = .ok (.goto 15, 3) := by decide +kernel
theorem dX11_few_85 : decode cX11_few 85 = .ok (.aload_n 0, 1) := by decide +kernel
theorem dX11_few_86 : decode cX11_few 86 = .ok (.getfield 89, 3) := by decide +kernel
theorem dX11_few_89 : decode cX11_few 89 = .ok (.getfield 308, 3) := by decide +kernel
theorem dX11_few_92 : decode cX11_few 92 = .ok (.iload_n 3, 1) := by decide +kernel
theorem dX11_few_93 : decode cX11_few 93 = .ok (.bipush 10, 2) := by decide +kernel
theorem dX11_few_95 : decode cX11_few 95 = .ok (.isub, 1) := by decide +kernel
theorem dX11_few_96 : decode cX11_few 96 = .ok (.iaload, 1) := by decide +kernel
theorem dX11_few_97 : decode cX11_few 97 = .ok (.ireturn, 1) := by decide +kernel
theorem dX11_judge_0 : decode cX11_judge 0 = .ok (.iconst 0, 1) := by decide +kernel
theorem dX11_judge_1 : decode cX11_judge 1 = .ok (.istore_n 1, 1) := by decide +kernel
theorem dX11_judge_2 : decode cX11_judge 2 = .ok (.iload_n 1, 1) := by decide +kernel
theorem dX11_judge_3 : decode cX11_judge 3 = .ok (.aload_n 0, 1) := by decide +kernel
theorem dX11_judge_4 : decode cX11_judge 4 = .ok (.getfield 30, 3) := by decide +kernel
theorem dX11_judge_7 : decode cX11_judge 7 = .ok (.getfield 270, 3) := by decide +kernel
theorem dX11_judge_10 : decode cX11_judge 10 = .ok (.if_icmp .ge 54, 3) := by decide +kernel
theorem dX11_judge_13 : decode cX11_judge 13 = .ok (.aload_n 0, 1) := by decide +kernel
theorem dX11_judge_14 : decode cX11_judge 14 = .ok (.getfield 30, 3) := by decide +kernel
theorem dX11_judge_17 : decode cX11_judge 17 = .ok (.getfield 140, 3) := by decide +kernel
theorem dX11_judge_20 : decode cX11_judge 20 = .ok (.iload_n 1, 1) := by decide +kernel
theorem dX11_judge_21 : decode cX11_judge 21 = .ok (.aaload, 1) := by decide +kernel
theorem dX11_judge_22 : decode cX11_judge 22 = .ok (.astore_n 2, 1) := by decide +kernel
theorem dX11_judge_23 : decode cX11_judge 23 = .ok (.aload_n 0, 1) := by decide +kernel
theorem dX11_judge_24 : decode cX11_judge 24 = .ok (.getfield 21, 3) := by decide +kernel
theorem dX11_judge_27 : decode cX11_judge 27 = .ok (.aload_n 2, 1) := by decide +kernel
theorem dX11_judge_28 : decode cX11_judge 28 = .ok (.aload_n 2, 1) := by decide +kernel
theorem dX11_judge_29 : decode cX11_judge 29 = .ok (.getfield 256, 3) := by decide +kernel
theorem dX11_judge_32 : decode cX11_judge 32 = .ok (.invokevirtual 176, 3) := by decide +kernel
theorem dX11_judge_35 : decode cX11_judge 35 = .ok (.aload_n 0, 1) := by decide +kernel
theorem dX11_judge_36 : decode cX11_judge 36 = .ok (.getfield 21, 3) := by decide +kernel
theorem dX11_judge_39 : decode cX11_judge 39 = .ok (.getfield 180, 3) := by decide +kernel
theorem dX11_judge_42 : decode cX11_judge 42 = .ok (.ifCond .eq 16, 3) := by decide +kernel
theorem dX11_judge_45 : decode cX11_judge 45 = .ok (.bipush 10, 2) := by decide +kernel
theorem dX11_judge_47 : decode cX11_judge 47 = .ok (.iload_n 1, 1) := by decide +kernel
theorem dX11_judge_48 : decode cX11_judge 48 = .ok (.imul, 1) := by decide +kernel
theorem dX11_judge_49 : decode cX11_judge 49 = .ok (.aload_n 0, 1) := by decide +kernel
theorem dX11_judge_50 : decode cX11_judge 50 = .ok (.getfield 21, 3) := by decide +kernel
theorem dX11_judge_53 : decode cX11_judge 53 = .ok (.getfield 180, 3) := by decide +kernel
theorem dX11_judge_56 : decode cX11_judge 56 = .ok (.iadd, 1) := by decide +kernel
theorem dX11_judge_57 : decode cX11_judge 57 = .ok (.ireturn, 1) := by decide +kernel
theorem dX11_judge_58 : decode cX11_judge 58 = .ok (.iinc 1 1, 3) := by decide +kernel
theorem dX11_judge_61 : decode cX11_judge 61 = .ok (.goto (-59), 3) := by decide +kernel
theorem dX11_judge_64 : decode cX11_judge 64 = .ok (.aload_n 0, 1) := by decide +kernel
theorem dX11_judge_65 : decode cX11_judge 65 = .ok (.getfield 73, 3) := by decide +kernel
theorem dX11_judge_68 : decode cX11_judge 68 = .ok (.iconst 5, 1) := by decide +kernel
theorem dX11_judge_69 : decode cX11_judge 69 = .ok (.invokevirtual 262, 3) := by decide +kernel
theorem dX11_judge_72 : decode cX11_judge 72 = .ok (.iconst 0, 1) := by decide +kernel
theorem dX11_judge_73 : decode cX11_judge 73 = .ok (.istore_n 1, 1) := by decide +kernel
theorem dX11_judge_74 : decode cX11_judge 74 = .ok (.iload_n 1, 1) := by decide +kernel
theorem dX11_judge_75 : decode cX11_judge 75 = .ok (.aload_n 0, 1) := by decide +kernel
theorem dX11_judge_76 : decode cX11_judge 76 = .ok (.getfield 10, 3) := by decide +kernel
theorem dX11_judge_79 : decode cX11_judge 79 = .ok (.getfield 245, 3) := by decide +kernel
theorem dX11_judge_82 : decode cX11_judge 82 = .ok (.if_icmp .ge 27, 3) := by decide +kernel
theorem dX11_judge_85 : decode cX11_judge 85 = .ok (.aload_n 0, 1) := by decide +kernel
theorem dX11_judge_86 : decode cX11_judge 86 = .ok (.getfield 73, 3) := by decide +kernel
theorem dX11_judge_89 : decode cX11_judge 89 = .ok (.getfield 266, 3) := by decide +kernel
theorem dX11_judge_92 : decode cX11_judge 92 = .ok (.iload_n 1, 1) := by decide +kernel
theorem dX11_judge_93 : decode cX11_judge 93 = .ok (.iaload, 1) := by decide +kernel
theorem dX11_judge_94 : decode cX11_judge 94 = .ok (.ifCond .ge 9, 3) := by decide +kernel
theorem dX11_judge_97 : decode cX11_judge 97 = .ok (.sipush 1000, 3) := by decide +kernel
theorem dX11_judge_100 : decode cX11_judge 100 = .ok (.iload_n 1, 1) := by decide +kernel
theorem dX11_judge_101 : decode cX11_judge 101 = .ok (.iadd, 1) := by decide +kernel
theorem dX11_judge_102 : decode cX11_judge 102 = .ok (.ireturn, 1) := by decide +kernel
theorem dX11_judge_103 : decode cX11_judge 103 = .ok (.iinc 1 1, 3) := by decide +kernel
theorem dX11_judge_106 : decode cX11_judge 106 = .ok (.goto (-32), 3) := by decide +kernel
theorem dX11_judge_109 : decode cX11_judge 109 = .ok (.iconst (-1), 1) := by decide +kernel
theorem dX11_judge_110 : decode cX11_judge 110 = .ok (.ireturn, 1) := by decide +kernel
theorem dX11_count_0 : decode cX11_count 0 = .ok (.iload_n 1, 1) := by decide +kernel
theorem dX11_count_1 : decode cX11_count 1 = .ok (.tableswitch 146 0 9 #[55, 63, 71, 79, 87, 95, 103, 114, 125, 133], 55) := by decide +kernel
theorem dX11_count_56 : decode cX11_count 56 = .ok (.aload_n 0, 1) := by decide +kernel
theorem dX11_count_57 : decode cX11_count 57 = .ok (.getfield 10, 3) := by decide +kernel
theorem dX11_count_60 : decode cX11_count 60 = .ok (.getfield 245, 3) := by decide +kernel
theorem dX11_count_63 : decode cX11_count 63 = .ok (.ireturn, 1) := by decide +kernel
theorem dX11_count_64 : decode cX11_count 64 = .ok (.aload_n 0, 1) := by decide +kernel
theorem dX11_count_65 : decode cX11_count 65 = .ok (.getfield 30, 3) := by decide +kernel
theorem dX11_count_68 : decode cX11_count 68 = .ok (.getfield 270, 3) := by decide +kernel
theorem dX11_count_71 : decode cX11_count 71 = .ok (.ireturn, 1) := by decide +kernel
theorem dX11_count_72 : decode cX11_count 72 = .ok (.aload_n 0, 1) := by decide +kernel
theorem dX11_count_73 : decode cX11_count 73 = .ok (.getfield 10, 3) := by decide +kernel
theorem dX11_count_76 : decode cX11_count 76 = .ok (.getfield 311, 3) := by decide +kernel
theorem dX11_count_79 : decode cX11_count 79 = .ok (.ireturn, 1) := by decide +kernel
theorem dX11_count_80 : decode cX11_count 80 = .ok (.aload_n 0, 1) := by decide +kernel
theorem dX11_count_81 : decode cX11_count 81 = .ok (.getfield 10, 3) := by decide +kernel
theorem dX11_count_84 : decode cX11_count 84 = .ok (.getfield 125, 3) := by decide +kernel
theorem dX11_count_87 : decode cX11_count 87 = .ok (.ireturn, 1) := by decide +kernel
theorem dX11_count_88 : decode cX11_count 88 = .ok (.aload_n 0, 1) := by decide +kernel
theorem dX11_count_89 : decode cX11_count 89 = .ok (.getfield 55, 3) := by decide +kernel
theorem dX11_count_92 : decode cX11_count 92 = .ok (.getfield 190, 3) := by decide +kernel
theorem dX11_count_95 : decode cX11_count 95 = .ok (.ireturn, 1) := by decide +kernel
theorem dX11_count_96 : decode cX11_count 96 = .ok (.aload_n 0, 1) := by decide +kernel
theorem dX11_count_97 : decode cX11_count 97 = .ok (.getfield 37, 3) := by decide +kernel
theorem dX11_count_100 : decode cX11_count 100 = .ok (.getfield 151, 3) := by decide +kernel
theorem dX11_count_103 : decode cX11_count 103 = .ok (.ireturn, 1) := by decide +kernel
theorem dX11_count_104 : decode cX11_count 104 = .ok (.aload_n 0, 1) := by decide +kernel
theorem dX11_count_105 : decode cX11_count 105 = .ok (.getfield 10, 3) := by decide +kernel
theorem dX11_count_108 : decode cX11_count 108 = .ok (.getfield 117, 3) := by decide +kernel
theorem dX11_count_111 : decode cX11_count 111 = .ok (.invokestatic 314, 3) := by decide +kernel
theorem dX11_count_114 : decode cX11_count 114 = .ok (.ireturn, 1) := by decide +kernel
theorem dX11_count_115 : decode cX11_count 115 = .ok (.aload_n 0, 1) := by decide +kernel
theorem dX11_count_116 : decode cX11_count 116 = .ok (.getfield 55, 3) := by decide +kernel
theorem dX11_count_119 : decode cX11_count 119 = .ok (.getfield 187, 3) := by decide +kernel
theorem dX11_count_122 : decode cX11_count 122 = .ok (.invokestatic 314, 3) := by decide +kernel
theorem dX11_count_125 : decode cX11_count 125 = .ok (.ireturn, 1) := by decide +kernel
theorem dX11_count_126 : decode cX11_count 126 = .ok (.aload_n 0, 1) := by decide +kernel
theorem dX11_count_127 : decode cX11_count 127 = .ok (.getfield 30, 3) := by decide +kernel
theorem dX11_count_130 : decode cX11_count 130 = .ok (.invokevirtual 316, 3) := by decide +kernel
theorem dX11_count_133 : decode cX11_count 133 = .ok (.ireturn, 1) := by decide +kernel
theorem dX11_count_134 : decode cX11_count 134 = .ok (.aload_n 0, 1) := by decide +kernel
theorem dX11_count_135 : decode cX11_count 135 = .ok (.getfield 173, 3) := by decide +kernel
theorem dX11_count_138 : decode cX11_count 138 = .ok (.ifCond .eq 7, 3) := by decide +kernel
theorem dX11_count_141 : decode cX11_count 141 = .ok (.iconst 1, 1) := by decide +kernel
theorem dX11_count_142 : decode cX11_count 142 = .ok (.goto 4, 3) := by decide +kernel
theorem dX11_count_145 : decode cX11_count 145 = .ok (.iconst 0, 1) := by decide +kernel
theorem dX11_count_146 : decode cX11_count 146 = .ok (.ireturn, 1) := by decide +kernel
theorem dX11_count_147 : decode cX11_count 147 = .ok (.iconst (-1), 1) := by decide +kernel
theorem dX11_count_148 : decode cX11_count 148 = .ok (.ireturn, 1) := by decide +kernel
theorem dX11_isPurse_0 : decode cX11_isPurse 0 = .ok (.iload_n 0, 1) := by decide +kernel
theorem dX11_isPurse_1 : decode cX11_isPurse 1 = .ok (.ifCond .lt 14, 3) := by decide +kernel
theorem dX11_isPurse_4 : decode cX11_isPurse 4 = .ok (.iload_n 0, 1) := by decide +kernel
theorem dX11_isPurse_5 : decode cX11_isPurse 5 = .ok (.sipush 200, 3) := by decide +kernel
theorem dX11_isPurse_8 : decode cX11_isPurse 8 = .ok (.if_icmp .gt 7, 3) := by decide +kernel
theorem dX11_isPurse_11 : decode cX11_isPurse 11 = .ok (.iconst 1, 1) := by decide +kernel
theorem dX11_isPurse_12 : decode cX11_isPurse 12 = .ok (.goto 4, 3) := by decide +kernel
theorem dX11_isPurse_15 : decode cX11_isPurse 15 = .ok (.iconst 0, 1) := by decide +kernel
theorem dX11_isPurse_16 : decode cX11_isPurse 16 = .ok (.ireturn, 1) := by decide +kernel
theorem dX11_isBundle_0 : decode cX11_isBundle 0 = .ok (.iload_n 0, 1) := by decide +kernel
theorem dX11_isBundle_1 : decode cX11_isBundle 1 = .ok (.ifCond .lt 14, 3) := by decide +kernel
theorem dX11_isBundle_4 : decode cX11_isBundle 4 = .ok (.iload_n 0, 1) := by decide +kernel
theorem dX11_isBundle_5 : decode cX11_isBundle 5 = .ok (.sipush 1024, 3) := by decide +kernel
theorem dX11_isBundle_8 : decode cX11_isBundle 8 = .ok (.if_icmp .ge 7, 3) := by decide +kernel
theorem dX11_isBundle_11 : decode cX11_isBundle 11 = .ok (.iconst 1, 1) := by decide +kernel
theorem dX11_isBundle_12 : decode cX11_isBundle 12 = .ok (.goto 4, 3) := by decide +kernel
theorem dX11_isBundle_15 : decode cX11_isBundle 15 = .ok (.iconst 0, 1) := by decide +kernel
theorem dX11_isBundle_16 : decode cX11_isBundle 16 = .ok (.ireturn, 1) := by decide +kernel
theorem dX11_isWay_0 : decode cX11_isWay 0 = .ok (.iload_n 0, 1) := by decide +kernel
theorem dX11_isWay_1 : decode cX11_isWay 1 = .ok (.ifCond .lt 13, 3) := by decide +kernel
theorem dX11_isWay_4 : decode cX11_isWay 4 = .ok (.iload_n 0, 1) := by decide +kernel
theorem dX11_isWay_5 : decode cX11_isWay 5 = .ok (.bipush 6, 2) := by decide +kernel
theorem dX11_isWay_7 : decode cX11_isWay 7 = .ok (.if_icmp .ge 7, 3) := by decide +kernel
theorem dX11_isWay_10 : decode cX11_isWay 10 = .ok (.iconst 1, 1) := by decide +kernel
theorem dX11_isWay_11 : decode cX11_isWay 11 = .ok (.goto 4, 3) := by decide +kernel
theorem dX11_isWay_14 : decode cX11_isWay 14 = .ok (.iconst 0, 1) := by decide +kernel
theorem dX11_isWay_15 : decode cX11_isWay 15 = .ok (.ireturn, 1) := by decide +kernel
theorem dX11_contains_0 : decode cX11_contains 0 = .ok (.iload_n 0, 1) := by decide +kernel
theorem dX11_contains_1 : decode cX11_contains 1 = .ok (.iload_n 1, 1) := by decide +kernel
theorem dX11_contains_2 : decode cX11_contains 2 = .ok (.ishr, 1) := by decide +kernel
theorem dX11_contains_3 : decode cX11_contains 3 = .ok (.iconst 1, 1) := by decide +kernel
theorem dX11_contains_4 : decode cX11_contains 4 = .ok (.iand, 1) := by decide +kernel
theorem dX11_contains_5 : decode cX11_contains 5 = .ok (.ifCond .eq 7, 3) := by decide +kernel
theorem dX11_contains_8 : decode cX11_contains 8 = .ok (.iconst 1, 1) := by decide +kernel
theorem dX11_contains_9 : decode cX11_contains 9 = .ok (.goto 4, 3) := by decide +kernel
theorem dX11_contains_12 : decode cX11_contains 12 = .ok (.iconst 0, 1) := by decide +kernel
theorem dX11_contains_13 : decode cX11_contains 13 = .ok (.ireturn, 1) := by decide +kernel
theorem dX11_total_0 : decode cX11_total 0 = .ok (.iconst 0, 1) := by decide +kernel
theorem dX11_total_1 : decode cX11_total 1 = .ok (.istore_n 1, 1) := by decide +kernel
theorem dX11_total_2 : decode cX11_total 2 = .ok (.iconst 0, 1) := by decide +kernel
theorem dX11_total_3 : decode cX11_total 3 = .ok (.istore_n 2, 1) := by decide +kernel
theorem dX11_total_4 : decode cX11_total 4 = .ok (.iload_n 2, 1) := by decide +kernel
theorem dX11_total_5 : decode cX11_total 5 = .ok (.aload_n 0, 1) := by decide +kernel
theorem dX11_total_6 : decode cX11_total 6 = .ok (.arraylength, 1) := by decide +kernel
theorem dX11_total_7 : decode cX11_total 7 = .ok (.if_icmp .ge 15, 3) := by decide +kernel
theorem dX11_total_10 : decode cX11_total 10 = .ok (.iload_n 1, 1) := by decide +kernel
theorem dX11_total_11 : decode cX11_total 11 = .ok (.aload_n 0, 1) := by decide +kernel
theorem dX11_total_12 : decode cX11_total 12 = .ok (.iload_n 2, 1) := by decide +kernel
theorem dX11_total_13 : decode cX11_total 13 = .ok (.iaload, 1) := by decide +kernel
theorem dX11_total_14 : decode cX11_total 14 = .ok (.iadd, 1) := by decide +kernel
theorem dX11_total_15 : decode cX11_total 15 = .ok (.istore_n 1, 1) := by decide +kernel
theorem dX11_total_16 : decode cX11_total 16 = .ok (.iinc 2 1, 3) := by decide +kernel
theorem dX11_total_19 : decode cX11_total 19 = .ok (.goto (-15), 3) := by decide +kernel
theorem dX11_total_22 : decode cX11_total 22 = .ok (.iload_n 1, 1) := by decide +kernel
theorem dX11_total_23 : decode cX11_total 23 = .ok (.ireturn, 1) := by decide +kernel
theorem dJ11_isValidCodePoint_9a6ad_0 : decode cJ11_isValidCodePoint_9a6ad 0 = .ok (.iload_n 0, 1) := by decide +kernel
theorem dJ11_isValidCodePoint_9a6ad_1 : decode cJ11_isValidCodePoint_9a6ad 1 = .ok (.bipush 16, 2) := by decide +kernel
theorem dJ11_isValidCodePoint_9a6ad_3 : decode cJ11_isValidCodePoint_9a6ad 3 = .ok (.iushr, 1) := by decide +kernel
theorem dJ11_isValidCodePoint_9a6ad_4 : decode cJ11_isValidCodePoint_9a6ad 4 = .ok (.istore_n 1, 1) := by decide +kernel
theorem dJ11_isValidCodePoint_9a6ad_5 : decode cJ11_isValidCodePoint_9a6ad 5 = .ok (.iload_n 1, 1) := by decide +kernel
theorem dJ11_isValidCodePoint_9a6ad_6 : decode cJ11_isValidCodePoint_9a6ad 6 = .ok (.bipush 17, 2) := by decide +kernel
theorem dJ11_isValidCodePoint_9a6ad_8 : decode cJ11_isValidCodePoint_9a6ad 8 = .ok (.if_icmp .ge 7, 3) := by decide +kernel
theorem dJ11_isValidCodePoint_9a6ad_11 : decode cJ11_isValidCodePoint_9a6ad 11 = .ok (.iconst 1, 1) := by decide +kernel
theorem dJ11_isValidCodePoint_9a6ad_12 : decode cJ11_isValidCodePoint_9a6ad 12 = .ok (.goto 4, 3) := by decide +kernel
theorem dJ11_isValidCodePoint_9a6ad_15 : decode cJ11_isValidCodePoint_9a6ad 15 = .ok (.iconst 0, 1) := by decide +kernel
theorem dJ11_isValidCodePoint_9a6ad_16 : decode cJ11_isValidCodePoint_9a6ad 16 = .ok (.ireturn, 1) := by decide +kernel
theorem dJ11_highSurrogate_5068e_0 : decode cJ11_highSurrogate_5068e 0 = .ok (.iload_n 0, 1) := by decide +kernel
theorem dJ11_highSurrogate_5068e_1 : decode cJ11_highSurrogate_5068e 1 = .ok (.bipush 10, 2) := by decide +kernel
theorem dJ11_highSurrogate_5068e_3 : decode cJ11_highSurrogate_5068e 3 = .ok (.iushr, 1) := by decide +kernel
theorem dJ11_highSurrogate_5068e_4 : decode cJ11_highSurrogate_5068e 4 = .ok (.ldc 110, 2) := by decide +kernel
theorem dJ11_highSurrogate_5068e_6 : decode cJ11_highSurrogate_5068e 6 = .ok (.iadd, 1) := by decide +kernel
theorem dJ11_highSurrogate_5068e_7 : decode cJ11_highSurrogate_5068e 7 = .ok (.i2c, 1) := by decide +kernel
theorem dJ11_highSurrogate_5068e_8 : decode cJ11_highSurrogate_5068e 8 = .ok (.ireturn, 1) := by decide +kernel
theorem dJ11_lowSurrogate_5068e_0 : decode cJ11_lowSurrogate_5068e 0 = .ok (.iload_n 0, 1) := by decide +kernel
theorem dJ11_lowSurrogate_5068e_1 : decode cJ11_lowSurrogate_5068e 1 = .ok (.sipush 1023, 3) := by decide +kernel
theorem dJ11_lowSurrogate_5068e_4 : decode cJ11_lowSurrogate_5068e 4 = .ok (.iand, 1) := by decide +kernel
theorem dJ11_lowSurrogate_5068e_5 : decode cJ11_lowSurrogate_5068e 5 = .ok (.ldc 76, 2) := by decide +kernel
theorem dJ11_lowSurrogate_5068e_7 : decode cJ11_lowSurrogate_5068e 7 = .ok (.iadd, 1) := by decide +kernel
theorem dJ11_lowSurrogate_5068e_8 : decode cJ11_lowSurrogate_5068e 8 = .ok (.i2c, 1) := by decide +kernel
theorem dJ11_lowSurrogate_5068e_9 : decode cJ11_lowSurrogate_5068e 9 = .ok (.ireturn, 1) := by decide +kernel
theorem dJ6_bitCount_0f7a4_0 : decode cJ6_bitCount_0f7a4 0 = .ok (.iload_n 0, 1) := by decide +kernel
theorem dJ6_bitCount_0f7a4_1 : decode cJ6_bitCount_0f7a4 1 = .ok (.iload_n 0, 1) := by decide +kernel
theorem dJ6_bitCount_0f7a4_2 : decode cJ6_bitCount_0f7a4 2 = .ok (.iconst 1, 1) := by decide +kernel
theorem dJ6_bitCount_0f7a4_3 : decode cJ6_bitCount_0f7a4 3 = .ok (.iushr, 1) := by decide +kernel
theorem dJ6_bitCount_0f7a4_4 : decode cJ6_bitCount_0f7a4 4 = .ok (.ldc_w 265, 3) := by decide +kernel
theorem dJ6_bitCount_0f7a4_7 : decode cJ6_bitCount_0f7a4 7 = .ok (.iand, 1) := by decide +kernel
theorem dJ6_bitCount_0f7a4_8 : decode cJ6_bitCount_0f7a4 8 = .ok (.isub, 1) := by decide +kernel
theorem dJ6_bitCount_0f7a4_9 : decode cJ6_bitCount_0f7a4 9 = .ok (.istore_n 0, 1) := by decide +kernel
theorem dJ6_bitCount_0f7a4_10 : decode cJ6_bitCount_0f7a4 10 = .ok (.iload_n 0, 1) := by decide +kernel
theorem dJ6_bitCount_0f7a4_11 : decode cJ6_bitCount_0f7a4 11 = .ok (.ldc_w 266, 3) := by decide +kernel
theorem dJ6_bitCount_0f7a4_14 : decode cJ6_bitCount_0f7a4 14 = .ok (.iand, 1) := by decide +kernel
theorem dJ6_bitCount_0f7a4_15 : decode cJ6_bitCount_0f7a4 15 = .ok (.iload_n 0, 1) := by decide +kernel
theorem dJ6_bitCount_0f7a4_16 : decode cJ6_bitCount_0f7a4 16 = .ok (.iconst 2, 1) := by decide +kernel
theorem dJ6_bitCount_0f7a4_17 : decode cJ6_bitCount_0f7a4 17 = .ok (.iushr, 1) := by decide +kernel
theorem dJ6_bitCount_0f7a4_18 : decode cJ6_bitCount_0f7a4 18 = .ok (.ldc_w 266, 3) := by decide +kernel
theorem dJ6_bitCount_0f7a4_21 : decode cJ6_bitCount_0f7a4 21 = .ok (.iand, 1) := by decide +kernel
theorem dJ6_bitCount_0f7a4_22 : decode cJ6_bitCount_0f7a4 22 = .ok (.iadd, 1) := by decide +kernel
theorem dJ6_bitCount_0f7a4_23 : decode cJ6_bitCount_0f7a4 23 = .ok (.istore_n 0, 1) := by decide +kernel
theorem dJ6_bitCount_0f7a4_24 : decode cJ6_bitCount_0f7a4 24 = .ok (.iload_n 0, 1) := by decide +kernel
theorem dJ6_bitCount_0f7a4_25 : decode cJ6_bitCount_0f7a4 25 = .ok (.iload_n 0, 1) := by decide +kernel
theorem dJ6_bitCount_0f7a4_26 : decode cJ6_bitCount_0f7a4 26 = .ok (.iconst 4, 1) := by decide +kernel
theorem dJ6_bitCount_0f7a4_27 : decode cJ6_bitCount_0f7a4 27 = .ok (.iushr, 1) := by decide +kernel
theorem dJ6_bitCount_0f7a4_28 : decode cJ6_bitCount_0f7a4 28 = .ok (.iadd, 1) := by decide +kernel
theorem dJ6_bitCount_0f7a4_29 : decode cJ6_bitCount_0f7a4 29 = .ok (.ldc_w 267, 3) := by decide +kernel
theorem dJ6_bitCount_0f7a4_32 : decode cJ6_bitCount_0f7a4 32 = .ok (.iand, 1) := by decide +kernel
theorem dJ6_bitCount_0f7a4_33 : decode cJ6_bitCount_0f7a4 33 = .ok (.istore_n 0, 1) := by decide +kernel
theorem dJ6_bitCount_0f7a4_34 : decode cJ6_bitCount_0f7a4 34 = .ok (.iload_n 0, 1) := by decide +kernel
theorem dJ6_bitCount_0f7a4_35 : decode cJ6_bitCount_0f7a4 35 = .ok (.iload_n 0, 1) := by decide +kernel
theorem dJ6_bitCount_0f7a4_36 : decode cJ6_bitCount_0f7a4 36 = .ok (.bipush 8, 2) := by decide +kernel
theorem dJ6_bitCount_0f7a4_38 : decode cJ6_bitCount_0f7a4 38 = .ok (.iushr, 1) := by decide +kernel
theorem dJ6_bitCount_0f7a4_39 : decode cJ6_bitCount_0f7a4 39 = .ok (.iadd, 1) := by decide +kernel
theorem dJ6_bitCount_0f7a4_40 : decode cJ6_bitCount_0f7a4 40 = .ok (.istore_n 0, 1) := by decide +kernel
theorem dJ6_bitCount_0f7a4_41 : decode cJ6_bitCount_0f7a4 41 = .ok (.iload_n 0, 1) := by decide +kernel
theorem dJ6_bitCount_0f7a4_42 : decode cJ6_bitCount_0f7a4 42 = .ok (.iload_n 0, 1) := by decide +kernel
theorem dJ6_bitCount_0f7a4_43 : decode cJ6_bitCount_0f7a4 43 = .ok (.bipush 16, 2) := by decide +kernel
theorem dJ6_bitCount_0f7a4_45 : decode cJ6_bitCount_0f7a4 45 = .ok (.iushr, 1) := by decide +kernel
theorem dJ6_bitCount_0f7a4_46 : decode cJ6_bitCount_0f7a4 46 = .ok (.iadd, 1) := by decide +kernel
theorem dJ6_bitCount_0f7a4_47 : decode cJ6_bitCount_0f7a4 47 = .ok (.istore_n 0, 1) := by decide +kernel
theorem dJ6_bitCount_0f7a4_48 : decode cJ6_bitCount_0f7a4 48 = .ok (.iload_n 0, 1) := by decide +kernel
theorem dJ6_bitCount_0f7a4_49 : decode cJ6_bitCount_0f7a4 49 = .ok (.bipush 63, 2) := by decide +kernel
theorem dJ6_bitCount_0f7a4_51 : decode cJ6_bitCount_0f7a4 51 = .ok (.iand, 1) := by decide +kernel
theorem dJ6_bitCount_0f7a4_52 : decode cJ6_bitCount_0f7a4 52 = .ok (.ireturn, 1) := by decide +kernel
theorem dJ9_max_7cf53_0 : decode cJ9_max_7cf53 0 = .ok (.iload_n 0, 1) := by decide +kernel
theorem dJ9_max_7cf53_1 : decode cJ9_max_7cf53 1 = .ok (.iload_n 1, 1) := by decide +kernel
theorem dJ9_max_7cf53_2 : decode cJ9_max_7cf53 2 = .ok (.if_icmp .lt 7, 3) := by decide +kernel
theorem dJ9_max_7cf53_5 : decode cJ9_max_7cf53 5 = .ok (.iload_n 0, 1) := by decide +kernel
theorem dJ9_max_7cf53_6 : decode cJ9_max_7cf53 6 = .ok (.goto 4, 3) := by decide +kernel
theorem dJ9_max_7cf53_9 : decode cJ9_max_7cf53 9 = .ok (.iload_n 1, 1) := by decide +kernel
theorem dJ9_max_7cf53_10 : decode cJ9_max_7cf53 10 = .ok (.ireturn, 1) := by decide +kernel
theorem dJ9_max_f86c9_0 : decode cJ9_max_f86c9 0 = .ok (.lload_n 0, 1) := by decide +kernel
theorem dJ9_max_f86c9_1 : decode cJ9_max_f86c9 1 = .ok (.lload_n 2, 1) := by decide +kernel
theorem dJ9_max_f86c9_2 : decode cJ9_max_f86c9 2 = .ok (.lcmp, 1) := by decide +kernel
theorem dJ9_max_f86c9_3 : decode cJ9_max_f86c9 3 = .ok (.ifCond .lt 7, 3) := by decide +kernel
theorem dJ9_max_f86c9_6 : decode cJ9_max_f86c9 6 = .ok (.lload_n 0, 1) := by decide +kernel
theorem dJ9_max_f86c9_7 : decode cJ9_max_f86c9 7 = .ok (.goto 4, 3) := by decide +kernel
theorem dJ9_max_f86c9_10 : decode cJ9_max_f86c9 10 = .ok (.lload_n 2, 1) := by decide +kernel
theorem dJ9_max_f86c9_11 : decode cJ9_max_f86c9 11 = .ok (.lreturn, 1) := by decide +kernel
theorem dJ9_min_7cf53_0 : decode cJ9_min_7cf53 0 = .ok (.iload_n 0, 1) := by decide +kernel
theorem dJ9_min_7cf53_1 : decode cJ9_min_7cf53 1 = .ok (.iload_n 1, 1) := by decide +kernel
theorem dJ9_min_7cf53_2 : decode cJ9_min_7cf53 2 = .ok (.if_icmp .gt 7, 3) := by decide +kernel
theorem dJ9_min_7cf53_5 : decode cJ9_min_7cf53 5 = .ok (.iload_n 0, 1) := by decide +kernel
theorem dJ9_min_7cf53_6 : decode cJ9_min_7cf53 6 = .ok (.goto 4, 3) := by decide +kernel
theorem dJ9_min_7cf53_9 : decode cJ9_min_7cf53 9 = .ok (.iload_n 1, 1) := by decide +kernel
theorem dJ9_min_7cf53_10 : decode cJ9_min_7cf53 10 = .ok (.ireturn, 1) := by decide +kernel
theorem dJ9_min_f86c9_0 : decode cJ9_min_f86c9 0 = .ok (.lload_n 0, 1) := by decide +kernel
theorem dJ9_min_f86c9_1 : decode cJ9_min_f86c9 1 = .ok (.lload_n 2, 1) := by decide +kernel
theorem dJ9_min_f86c9_2 : decode cJ9_min_f86c9 2 = .ok (.lcmp, 1) := by decide +kernel
theorem dJ9_min_f86c9_3 : decode cJ9_min_f86c9 3 = .ok (.ifCond .gt 7, 3) := by decide +kernel
theorem dJ9_min_f86c9_6 : decode cJ9_min_f86c9 6 = .ok (.lload_n 0, 1) := by decide +kernel
theorem dJ9_min_f86c9_7 : decode cJ9_min_f86c9 7 = .ok (.goto 4, 3) := by decide +kernel
theorem dJ9_min_f86c9_10 : decode cJ9_min_f86c9 10 = .ok (.lload_n 2, 1) := by decide +kernel
theorem dJ9_min_f86c9_11 : decode cJ9_min_f86c9 11 = .ok (.lreturn, 1) := by decide +kernel
theorem dJ0_length_8abf5_0 : decode cJ0_length_8abf5 0 = .ok (.aload_n 0, 1) := by decide +kernel
theorem dJ0_length_8abf5_1 : decode cJ0_length_8abf5 1 = .ok (.getfield 9, 3) := by decide +kernel
theorem dJ0_length_8abf5_4 : decode cJ0_length_8abf5 4 = .ok (.arraylength, 1) := by decide +kernel
theorem dJ0_length_8abf5_5 : decode cJ0_length_8abf5 5 = .ok (.aload_n 0, 1) := by decide +kernel
theorem dJ0_length_8abf5_6 : decode cJ0_length_8abf5 6 = .ok (.invokevirtual 335, 3) := by decide +kernel
theorem dJ0_length_8abf5_9 : decode cJ0_length_8abf5 9 = .ok (.ishr, 1) := by decide +kernel
theorem dJ0_length_8abf5_10 : decode cJ0_length_8abf5 10 = .ok (.ireturn, 1) := by decide +kernel
theorem dJ0_charAt_5068e_0 : decode cJ0_charAt_5068e 0 = .ok (.aload_n 0, 1) := by decide +kernel
theorem dJ0_charAt_5068e_1 : decode cJ0_charAt_5068e 1 = .ok (.invokevirtual 492, 3) := by decide +kernel
theorem dJ0_charAt_5068e_4 : decode cJ0_charAt_5068e 4 = .ok (.ifCond .eq 12, 3) := by decide +kernel
theorem dJ0_charAt_5068e_7 : decode cJ0_charAt_5068e 7 = .ok (.aload_n 0, 1) := by decide +kernel
theorem dJ0_charAt_5068e_8 : decode cJ0_charAt_5068e 8 = .ok (.getfield 9, 3) := by decide +kernel
theorem dJ0_charAt_5068e_11 : decode cJ0_charAt_5068e 11 = .ok (.iload_n 1, 1) := by decide +kernel
theorem dJ0_charAt_5068e_12 : decode cJ0_charAt_5068e 12 = .ok (.invokestatic 495, 3) := by decide +kernel
theorem dJ0_charAt_5068e_15 : decode cJ0_charAt_5068e 15 = .ok (.ireturn, 1) := by decide +kernel
theorem dJ0_charAt_5068e_16 : decode cJ0_charAt_5068e 16 = .ok (.aload_n 0, 1) := by decide +kernel
theorem dJ0_charAt_5068e_17 : decode cJ0_charAt_5068e 17 = .ok (.getfield 9, 3) := by decide +kernel
theorem dJ0_charAt_5068e_20 : decode cJ0_charAt_5068e 20 = .ok (.iload_n 1, 1) := by decide +kernel
theorem dJ0_charAt_5068e_21 : decode cJ0_charAt_5068e 21 = .ok (.invokestatic 498, 3) := by decide +kernel
theorem dJ0_charAt_5068e_24 : decode cJ0_charAt_5068e 24 = .ok (.ireturn, 1) := by decide +kernel
theorem dJ0_indexOf_0f7a4_0 : decode cJ0_indexOf_0f7a4 0 = .ok (.aload_n 0, 1) := by decide +kernel
theorem dJ0_indexOf_0f7a4_1 : decode cJ0_indexOf_0f7a4 1 = .ok (.iload_n 1, 1) := by decide +kernel
theorem dJ0_indexOf_0f7a4_2 : decode cJ0_indexOf_0f7a4 2 = .ok (.iconst 0, 1) := by decide +kernel
theorem dJ0_indexOf_0f7a4_3 : decode cJ0_indexOf_0f7a4 3 = .ok (.invokevirtual 633, 3) := by decide +kernel
theorem dJ0_indexOf_0f7a4_6 : decode cJ0_indexOf_0f7a4 6 = .ok (.ireturn, 1) := by decide +kernel
theorem dJ0_indexOf_7cf53_0 : decode cJ0_indexOf_7cf53 0 = .ok (.aload_n 0, 1) := by decide +kernel
theorem dJ0_indexOf_7cf53_1 : decode cJ0_indexOf_7cf53 1 = .ok (.invokevirtual 492, 3) := by decide +kernel
theorem dJ0_indexOf_7cf53_4 : decode cJ0_indexOf_7cf53 4 = .ok (.ifCond .eq 19, 3) := by decide +kernel
theorem dJ0_indexOf_7cf53_7 : decode cJ0_indexOf_7cf53 7 = .ok (.aload_n 0, 1) := by decide +kernel
theorem dJ0_indexOf_7cf53_8 : decode cJ0_indexOf_7cf53 8 = .ok (.getfield 9, 3) := by decide +kernel
theorem dJ0_indexOf_7cf53_11 : decode cJ0_indexOf_7cf53 11 = .ok (.iload_n 1, 1) := by decide +kernel
theorem dJ0_indexOf_7cf53_12 : decode cJ0_indexOf_7cf53 12 = .ok (.iload_n 2, 1) := by decide +kernel
theorem dJ0_indexOf_7cf53_13 : decode cJ0_indexOf_7cf53 13 = .ok (.aload_n 0, 1) := by decide +kernel
theorem dJ0_indexOf_7cf53_14 : decode cJ0_indexOf_7cf53 14 = .ok (.invokevirtual 505, 3) := by decide +kernel
theorem dJ0_indexOf_7cf53_17 : decode cJ0_indexOf_7cf53 17 = .ok (.invokestatic 637, 3) := by decide +kernel
theorem dJ0_indexOf_7cf53_20 : decode cJ0_indexOf_7cf53 20 = .ok (.goto 16, 3) := by decide +kernel
theorem dJ0_indexOf_7cf53_23 : decode cJ0_indexOf_7cf53 23 = .ok (.aload_n 0, 1) := by decide +kernel
theorem dJ0_indexOf_7cf53_24 : decode cJ0_indexOf_7cf53 24 = .ok (.getfield 9, 3) := by decide +kernel
theorem dJ0_indexOf_7cf53_27 : decode cJ0_indexOf_7cf53 27 = .ok (.iload_n 1, 1) := by decide +kernel
theorem dJ0_indexOf_7cf53_28 : decode cJ0_indexOf_7cf53 28 = .ok (.iload_n 2, 1) := by decide +kernel
theorem dJ0_indexOf_7cf53_29 : decode cJ0_indexOf_7cf53 29 = .ok (.aload_n 0, 1) := by decide +kernel
theorem dJ0_indexOf_7cf53_30 : decode cJ0_indexOf_7cf53 30 = .ok (.invokevirtual 505, 3) := by decide +kernel
theorem dJ0_indexOf_7cf53_33 : decode cJ0_indexOf_7cf53 33 = .ok (.invokestatic 640, 3) := by decide +kernel
theorem dJ0_indexOf_7cf53_36 : decode cJ0_indexOf_7cf53 36 = .ok (.ireturn, 1) := by decide +kernel
theorem dJ0_coder_7d493_0 : decode cJ0_coder_7d493 0 = .ok (.getstatic 38, 3) := by decide +kernel
theorem dJ0_coder_7d493_3 : decode cJ0_coder_7d493 3 = .ok (.ifCond .eq 10, 3) := by decide +kernel
theorem dJ0_coder_7d493_6 : decode cJ0_coder_7d493 6 = .ok (.aload_n 0, 1) := by decide +kernel
theorem dJ0_coder_7d493_7 : decode cJ0_coder_7d493 7 = .ok (.getfield 15, 3) := by decide +kernel
theorem dJ0_coder_7d493_10 : decode cJ0_coder_7d493 10 = .ok (.goto 4, 3) := by decide +kernel
theorem dJ0_coder_7d493_13 : decode cJ0_coder_7d493 13 = .ok (.iconst 1, 1) := by decide +kernel
theorem dJ0_coder_7d493_14 : decode cJ0_coder_7d493 14 = .ok (.ireturn, 1) := by decide +kernel
theorem dJ0_isLatin1_aae02_0 : decode cJ0_isLatin1_aae02 0 = .ok (.getstatic 38, 3) := by decide +kernel
theorem dJ0_isLatin1_aae02_3 : decode cJ0_isLatin1_aae02 3 = .ok (.ifCond .eq 14, 3) := by decide +kernel
theorem dJ0_isLatin1_aae02_6 : decode cJ0_isLatin1_aae02 6 = .ok (.aload_n 0, 1) := by decide +kernel
theorem dJ0_isLatin1_aae02_7 : decode cJ0_isLatin1_aae02 7 = .ok (.getfield 15, 3) := by decide +kernel
theorem dJ0_isLatin1_aae02_10 : decode cJ0_isLatin1_aae02 10 = .ok (.ifCond .ne 7, 3) := by decide +kernel
theorem dJ0_isLatin1_aae02_13 : decode cJ0_isLatin1_aae02 13 = .ok (.iconst 1, 1) := by decide +kernel
theorem dJ0_isLatin1_aae02_14 : decode cJ0_isLatin1_aae02 14 = .ok (.goto 4, 3) := by decide +kernel
theorem dJ0_isLatin1_aae02_17 : decode cJ0_isLatin1_aae02 17 = .ok (.iconst 0, 1) := by decide +kernel
theorem dJ0_isLatin1_aae02_18 : decode cJ0_isLatin1_aae02 18 = .ok (.ireturn, 1) := by decide +kernel
theorem dJ0_checkIndex_df160_0 : decode cJ0_checkIndex_df160 0 = .ok (.iload_n 0, 1) := by decide +kernel
theorem dJ0_checkIndex_df160_1 : decode cJ0_checkIndex_df160 1 = .ok (.iload_n 1, 1) := by decide +kernel
theorem dJ0_checkIndex_df160_2 : decode cJ0_checkIndex_df160 2 = .ok (.getstatic 1053, 3) := by decide +kernel
theorem dJ0_checkIndex_df160_5 : decode cJ0_checkIndex_df160 5 = .ok (.invokestatic 1059, 3) := by decide +kernel
theorem dJ0_checkIndex_df160_8 : decode cJ0_checkIndex_df160 8 = .ok (.pop, 1) := by decide +kernel
theorem dJ0_checkIndex_df160_9 : decode cJ0_checkIndex_df160 9 = .ok (.return_, 1) := by decide +kernel
theorem dJ0_checkBoundsBeginEnd_23922_0 : decode cJ0_checkBoundsBeginEnd_23922 0 = .ok (.iload_n 0, 1) := by decide +kernel
theorem dJ0_checkBoundsBeginEnd_23922_1 : decode cJ0_checkBoundsBeginEnd_23922 1 = .ok (.iload_n 1, 1) := by decide +kernel
theorem dJ0_checkBoundsBeginEnd_23922_2 : decode cJ0_checkBoundsBeginEnd_23922 2 = .ok (.iload_n 2, 1) := by decide +kernel
theorem dJ0_checkBoundsBeginEnd_23922_3 : decode cJ0_checkBoundsBeginEnd_23922 3 = .ok (.getstatic 1053, 3) := by decide +kernel
theorem dJ0_checkBoundsBeginEnd_23922_6 : decode cJ0_checkBoundsBeginEnd_23922 6 = .ok (.invokestatic 1062, 3) := by decide +kernel
theorem dJ0_checkBoundsBeginEnd_23922_9 : decode cJ0_checkBoundsBeginEnd_23922 9 = .ok (.pop, 1) := by decide +kernel
theorem dJ0_checkBoundsBeginEnd_23922_10 : decode cJ0_checkBoundsBeginEnd_23922 10 = .ok (.return_, 1) := by decide +kernel
theorem dJ1_charAt_3b067_0 : decode cJ1_charAt_3b067 0 = .ok (.iload_n 1, 1) := by decide +kernel
theorem dJ1_charAt_3b067_1 : decode cJ1_charAt_3b067 1 = .ok (.aload_n 0, 1) := by decide +kernel
theorem dJ1_charAt_3b067_2 : decode cJ1_charAt_3b067 2 = .ok (.arraylength, 1) := by decide +kernel
theorem dJ1_charAt_3b067_3 : decode cJ1_charAt_3b067 3 = .ok (.invokestatic 9, 3) := by decide +kernel
theorem dJ1_charAt_3b067_6 : decode cJ1_charAt_3b067 6 = .ok (.aload_n 0, 1) := by decide +kernel
theorem dJ1_charAt_3b067_7 : decode cJ1_charAt_3b067 7 = .ok (.iload_n 1, 1) := by decide +kernel
theorem dJ1_charAt_3b067_8 : decode cJ1_charAt_3b067 8 = .ok (.baload, 1) := by decide +kernel
theorem dJ1_charAt_3b067_9 : decode cJ1_charAt_3b067 9 = .ok (.sipush 255, 3) := by decide +kernel
theorem dJ1_charAt_3b067_12 : decode cJ1_charAt_3b067 12 = .ok (.iand, 1) := by decide +kernel
theorem dJ1_charAt_3b067_13 : decode cJ1_charAt_3b067 13 = .ok (.i2c, 1) := by decide +kernel
theorem dJ1_charAt_3b067_14 : decode cJ1_charAt_3b067 14 = .ok (.ireturn, 1) := by decide +kernel
theorem dJ1_canEncode_9a6ad_0 : decode cJ1_canEncode_9a6ad 0 = .ok (.iload_n 0, 1) := by decide +kernel
theorem dJ1_canEncode_9a6ad_1 : decode cJ1_canEncode_9a6ad 1 = .ok (.ifCond .lt 14, 3) := by decide +kernel
theorem dJ1_canEncode_9a6ad_4 : decode cJ1_canEncode_9a6ad 4 = .ok (.iload_n 0, 1) := by decide +kernel
theorem dJ1_canEncode_9a6ad_5 : decode cJ1_canEncode_9a6ad 5 = .ok (.sipush 255, 3) := by decide +kernel
theorem dJ1_canEncode_9a6ad_8 : decode cJ1_canEncode_9a6ad 8 = .ok (.if_icmp .gt 7, 3) := by decide +kernel
theorem dJ1_canEncode_9a6ad_11 : decode cJ1_canEncode_9a6ad 11 = .ok (.iconst 1, 1) := by decide +kernel
theorem dJ1_canEncode_9a6ad_12 : decode cJ1_canEncode_9a6ad 12 = .ok (.goto 4, 3) := by decide +kernel
theorem dJ1_canEncode_9a6ad_15 : decode cJ1_canEncode_9a6ad 15 = .ok (.iconst 0, 1) := by decide +kernel
theorem dJ1_canEncode_9a6ad_16 : decode cJ1_canEncode_9a6ad 16 = .ok (.ireturn, 1) := by decide +kernel
theorem dJ1_indexOf_4cfef_0 : decode cJ1_indexOf_4cfef 0 = .ok (.iload_n 1, 1) := by decide +kernel
theorem dJ1_indexOf_4cfef_1 : decode cJ1_indexOf_4cfef 1 = .ok (.invokestatic 88, 3) := by decide +kernel
theorem dJ1_indexOf_4cfef_4 : decode cJ1_indexOf_4cfef 4 = .ok (.ifCond .ne 5, 3) := by decide +kernel
theorem dJ1_indexOf_4cfef_7 : decode cJ1_indexOf_4cfef 7 = .ok (.iconst (-1), 1) := by decide +kernel
theorem dJ1_indexOf_4cfef_8 : decode cJ1_indexOf_4cfef 8 = .ok (.ireturn, 1) := by decide +kernel
theorem dJ1_indexOf_4cfef_9 : decode cJ1_indexOf_4cfef 9 = .ok (.iload_n 2, 1) := by decide +kernel
theorem dJ1_indexOf_4cfef_10 : decode cJ1_indexOf_4cfef 10 = .ok (.iconst 0, 1) := by decide +kernel
theorem dJ1_indexOf_4cfef_11 : decode cJ1_indexOf_4cfef 11 = .ok (.invokestatic 92, 3) := by decide +kernel
theorem dJ1_indexOf_4cfef_14 : decode cJ1_indexOf_4cfef 14 = .ok (.istore_n 2, 1) := by decide +kernel
theorem dJ1_indexOf_4cfef_15 : decode cJ1_indexOf_4cfef 15 = .ok (.iload_n 3, 1) := by decide +kernel
theorem dJ1_indexOf_4cfef_16 : decode cJ1_indexOf_4cfef 16 = .ok (.aload_n 0, 1) := by decide +kernel
theorem dJ1_indexOf_4cfef_17 : decode cJ1_indexOf_4cfef 17 = .ok (.arraylength, 1) := by decide +kernel
theorem dJ1_indexOf_4cfef_18 : decode cJ1_indexOf_4cfef 18 = .ok (.invokestatic 38, 3) := by decide +kernel
theorem dJ1_indexOf_4cfef_21 : decode cJ1_indexOf_4cfef 21 = .ok (.istore_n 3, 1) := by decide +kernel
theorem dJ1_indexOf_4cfef_22 : decode cJ1_indexOf_4cfef 22 = .ok (.iload_n 2, 1) := by decide +kernel
theorem dJ1_indexOf_4cfef_23 : decode cJ1_indexOf_4cfef 23 = .ok (.iload_n 3, 1) := by decide +kernel
theorem dJ1_indexOf_4cfef_24 : decode cJ1_indexOf_4cfef 24 = .ok (.if_icmp .lt 5, 3) := by decide +kernel
theorem dJ1_indexOf_4cfef_27 : decode cJ1_indexOf_4cfef 27 = .ok (.iconst (-1), 1) := by decide +kernel
theorem dJ1_indexOf_4cfef_28 : decode cJ1_indexOf_4cfef 28 = .ok (.ireturn, 1) := by decide +kernel
theorem dJ1_indexOf_4cfef_29 : decode cJ1_indexOf_4cfef 29 = .ok (.aload_n 0, 1) := by decide +kernel
theorem dJ1_indexOf_4cfef_30 : decode cJ1_indexOf_4cfef 30 = .ok (.iload_n 1, 1) := by decide +kernel
theorem dJ1_indexOf_4cfef_31 : decode cJ1_indexOf_4cfef 31 = .ok (.iload_n 2, 1) := by decide +kernel
theorem dJ1_indexOf_4cfef_32 : decode cJ1_indexOf_4cfef 32 = .ok (.iload_n 3, 1) := by decide +kernel
theorem dJ1_indexOf_4cfef_33 : decode cJ1_indexOf_4cfef 33 = .ok (.invokestatic 95, 3) := by decide +kernel
theorem dJ1_indexOf_4cfef_36 : decode cJ1_indexOf_4cfef 36 = .ok (.ireturn, 1) := by decide +kernel
theorem dJ1_indexOfChar_4cfef_0 : decode cJ1_indexOfChar_4cfef 0 = .ok (.iload_n 1, 1) := by decide +kernel
theorem dJ1_indexOfChar_4cfef_1 : decode cJ1_indexOfChar_4cfef 1 = .ok (.i2b, 1) := by decide +kernel
theorem dJ1_indexOfChar_4cfef_2 : decode cJ1_indexOfChar_4cfef 2 = .ok (.istore 4, 2) := by decide +kernel
theorem dJ1_indexOfChar_4cfef_4 : decode cJ1_indexOfChar_4cfef 4 = .ok (.iload_n 2, 1) := by decide +kernel
theorem dJ1_indexOfChar_4cfef_5 : decode cJ1_indexOfChar_4cfef 5 = .ok (.istore 5, 2) := by decide +kernel
theorem dJ1_indexOfChar_4cfef_7 : decode cJ1_indexOfChar_4cfef 7 = .ok (.iload 5, 2) := by decide +kernel
theorem dJ1_indexOfChar_4cfef_9 : decode cJ1_indexOfChar_4cfef 9 = .ok (.iload_n 3, 1) := by decide +kernel
theorem dJ1_indexOfChar_4cfef_10 : decode cJ1_indexOfChar_4cfef 10 = .ok (.if_icmp .ge 21, 3) := by decide +kernel
theorem dJ1_indexOfChar_4cfef_13 : decode cJ1_indexOfChar_4cfef 13 = .ok (.aload_n 0, 1) := by decide +kernel
theorem dJ1_indexOfChar_4cfef_14 : decode cJ1_indexOfChar_4cfef 14 = .ok (.iload 5, 2) := by decide +kernel
theorem dJ1_indexOfChar_4cfef_16 : decode cJ1_indexOfChar_4cfef 16 = .ok (.baload, 1) := by decide +kernel
theorem dJ1_indexOfChar_4cfef_17 : decode cJ1_indexOfChar_4cfef 17 = .ok (.iload 4, 2) := by decide +kernel
theorem dJ1_indexOfChar_4cfef_19 : decode cJ1_indexOfChar_4cfef 19 = .ok (.if_icmp .ne 6, 3) := by decide +kernel
theorem dJ1_indexOfChar_4cfef_22 : decode cJ1_indexOfChar_4cfef 22 = .ok (.iload 5, 2) := by decide +kernel
theorem dJ1_indexOfChar_4cfef_24 : decode cJ1_indexOfChar_4cfef 24 = .ok (.ireturn, 1) := by decide +kernel
theorem dJ1_indexOfChar_4cfef_25 : decode cJ1_indexOfChar_4cfef 25 = .ok (.iinc 5 1, 3) := by decide +kernel
theorem dJ1_indexOfChar_4cfef_28 : decode cJ1_indexOfChar_4cfef 28 = .ok (.goto (-21), 3) := by decide +kernel
theorem dJ1_indexOfChar_4cfef_31 : decode cJ1_indexOfChar_4cfef 31 = .ok (.iconst (-1), 1) := by decide +kernel
theorem dJ1_indexOfChar_4cfef_32 : decode cJ1_indexOfChar_4cfef 32 = .ok (.ireturn, 1) := by decide +kernel
theorem dJ2_getChar_3b067_0 : decode cJ2_getChar_3b067 0 = .ok (.getstatic 44, 3) := by decide +kernel
theorem dJ2_getChar_3b067_3 : decode cJ2_getChar_3b067 3 = .ok (.ifCond .ne 25, 3) := by decide +kernel
theorem dJ2_getChar_3b067_6 : decode cJ2_getChar_3b067 6 = .ok (.iload_n 1, 1) := by decide +kernel
theorem dJ2_getChar_3b067_7 : decode cJ2_getChar_3b067 7 = .ok (.ifCond .lt 11, 3) := by decide +kernel
theorem dJ2_getChar_3b067_10 : decode cJ2_getChar_3b067 10 = .ok (.iload_n 1, 1) := by decide +kernel
theorem dJ2_getChar_3b067_11 : decode cJ2_getChar_3b067 11 = .ok (.aload_n 0, 1) := by decide +kernel
theorem dJ2_getChar_3b067_12 : decode cJ2_getChar_3b067 12 = .ok (.invokestatic 48, 3) := by decide +kernel
theorem dJ2_getChar_3b067_15 : decode cJ2_getChar_3b067 15 = .ok (.if_icmp .lt 13, 3) := by decide +kernel
theorem dJ2_getChar_3b067_18 : decode cJ2_getChar_3b067 18 = .ok (.new 52, 3) := by decide +kernel
theorem dJ2_getChar_3b067_21 : decode cJ2_getChar_3b067 21 = .ok (.dup, 1) := by decide +kernel
theorem dJ2_getChar_3b067_22 : decode cJ2_getChar_3b067 22 = .ok (.ldc 54, 2) := by decide +kernel
theorem dJ2_getChar_3b067_24 : decode cJ2_getChar_3b067 24 = .ok (.invokespecial 56, 3) := by decide +kernel
theorem dJ2_getChar_3b067_27 : decode cJ2_getChar_3b067 27 = .ok (.athrow, 1) := by decide +kernel
theorem dJ2_getChar_3b067_28 : decode cJ2_getChar_3b067 28 = .ok (.iload_n 1, 1) := by decide +kernel
theorem dJ2_getChar_3b067_29 : decode cJ2_getChar_3b067 29 = .ok (.iconst 1, 1) := by decide +kernel
theorem dJ2_getChar_3b067_30 : decode cJ2_getChar_3b067 30 = .ok (.ishl, 1) := by decide +kernel
theorem dJ2_getChar_3b067_31 : decode cJ2_getChar_3b067 31 = .ok (.istore_n 1, 1) := by decide +kernel
theorem dJ2_getChar_3b067_32 : decode cJ2_getChar_3b067 32 = .ok (.aload_n 0, 1) := by decide +kernel
theorem dJ2_getChar_3b067_33 : decode cJ2_getChar_3b067 33 = .ok (.iload_n 1, 1) := by decide +kernel
theorem dJ2_getChar_3b067_34 : decode cJ2_getChar_3b067 34 = .ok (.iinc 1 1, 3) := by decide +kernel
theorem dJ2_getChar_3b067_37 : decode cJ2_getChar_3b067 37 = .ok (.baload, 1) := by decide +kernel
theorem dJ2_getChar_3b067_38 : decode cJ2_getChar_3b067 38 = .ok (.sipush 255, 3) := by decide +kernel
theorem dJ2_getChar_3b067_41 : decode cJ2_getChar_3b067 41 = .ok (.iand, 1) := by decide +kernel
theorem dJ2_getChar_3b067_42 : decode cJ2_getChar_3b067 42 = .ok (.getstatic 59, 3) := by decide +kernel
theorem dJ2_getChar_3b067_45 : decode cJ2_getChar_3b067 45 = .ok (.ishl, 1) := by decide +kernel
theorem dJ2_getChar_3b067_46 : decode cJ2_getChar_3b067 46 = .ok (.aload_n 0, 1) := by decide +kernel
theorem dJ2_getChar_3b067_47 : decode cJ2_getChar_3b067 47 = .ok (.iload_n 1, 1) := by decide +kernel
theorem dJ2_getChar_3b067_48 : decode cJ2_getChar_3b067 48 = .ok (.baload, 1) := by decide +kernel
theorem dJ2_getChar_3b067_49 : decode cJ2_getChar_3b067 49 = .ok (.sipush 255, 3) := by decide +kernel
theorem dJ2_getChar_3b067_52 : decode cJ2_getChar_3b067 52 = .ok (.iand, 1) := by decide +kernel
theorem dJ2_getChar_3b067_53 : decode cJ2_getChar_3b067 53 = .ok (.getstatic 63, 3) := by decide +kernel
theorem dJ2_getChar_3b067_56 : decode cJ2_getChar_3b067 56 = .ok (.ishl, 1) := by decide +kernel
theorem dJ2_getChar_3b067_57 : decode cJ2_getChar_3b067 57 = .ok (.ior, 1) := by decide +kernel
theorem dJ2_getChar_3b067_58 : decode cJ2_getChar_3b067 58 = .ok (.i2c, 1) := by decide +kernel
theorem dJ2_getChar_3b067_59 : decode cJ2_getChar_3b067 59 = .ok (.ireturn, 1) := by decide +kernel
theorem dJ2_length_9d52b_0 : decode cJ2_length_9d52b 0 = .ok (.aload_n 0, 1) := by decide +kernel
theorem dJ2_length_9d52b_1 : decode cJ2_length_9d52b 1 = .ok (.arraylength, 1) := by decide +kernel
theorem dJ2_length_9d52b_2 : decode cJ2_length_9d52b 2 = .ok (.iconst 1, 1) := by decide +kernel
theorem dJ2_length_9d52b_3 : decode cJ2_length_9d52b 3 = .ok (.ishr, 1) := by decide +kernel
theorem dJ2_length_9d52b_4 : decode cJ2_length_9d52b 4 = .ok (.ireturn, 1) := by decide +kernel
theorem dJ2_indexOf_4cfef_0 : decode cJ2_indexOf_4cfef 0 = .ok (.iload_n 2, 1) := by decide +kernel
theorem dJ2_indexOf_4cfef_1 : decode cJ2_indexOf_4cfef 1 = .ok (.iconst 0, 1) := by decide +kernel
theorem dJ2_indexOf_4cfef_2 : decode cJ2_indexOf_4cfef 2 = .ok (.invokestatic 224, 3) := by decide +kernel
theorem dJ2_indexOf_4cfef_5 : decode cJ2_indexOf_4cfef 5 = .ok (.istore_n 2, 1) := by decide +kernel
theorem dJ2_indexOf_4cfef_6 : decode cJ2_indexOf_4cfef 6 = .ok (.iload_n 3, 1) := by decide +kernel
theorem dJ2_indexOf_4cfef_7 : decode cJ2_indexOf_4cfef 7 = .ok (.aload_n 0, 1) := by decide +kernel
theorem dJ2_indexOf_4cfef_8 : decode cJ2_indexOf_4cfef 8 = .ok (.arraylength, 1) := by decide +kernel
theorem dJ2_indexOf_4cfef_9 : decode cJ2_indexOf_4cfef 9 = .ok (.iconst 1, 1) := by decide +kernel
theorem dJ2_indexOf_4cfef_10 : decode cJ2_indexOf_4cfef 10 = .ok (.ishr, 1) := by decide +kernel
theorem dJ2_indexOf_4cfef_11 : decode cJ2_indexOf_4cfef 11 = .ok (.invokestatic 183, 3) := by decide +kernel
theorem dJ2_indexOf_4cfef_14 : decode cJ2_indexOf_4cfef 14 = .ok (.istore_n 3, 1) := by decide +kernel
theorem dJ2_indexOf_4cfef_15 : decode cJ2_indexOf_4cfef 15 = .ok (.iload_n 2, 1) := by decide +kernel
theorem dJ2_indexOf_4cfef_16 : decode cJ2_indexOf_4cfef 16 = .ok (.iload_n 3, 1) := by decide +kernel
theorem dJ2_indexOf_4cfef_17 : decode cJ2_indexOf_4cfef 17 = .ok (.if_icmp .lt 5, 3) := by decide +kernel
theorem dJ2_indexOf_4cfef_20 : decode cJ2_indexOf_4cfef 20 = .ok (.iconst (-1), 1) := by decide +kernel
theorem dJ2_indexOf_4cfef_21 : decode cJ2_indexOf_4cfef 21 = .ok (.ireturn, 1) := by decide +kernel
theorem dJ2_indexOf_4cfef_22 : decode cJ2_indexOf_4cfef 22 = .ok (.iload_n 1, 1) := by decide +kernel
theorem dJ2_indexOf_4cfef_23 : decode cJ2_indexOf_4cfef 23 = .ok (.ldc 227, 2) := by decide +kernel
theorem dJ2_indexOf_4cfef_25 : decode cJ2_indexOf_4cfef 25 = .ok (.if_icmp .ge 11, 3) := by decide +kernel
theorem dJ2_indexOf_4cfef_28 : decode cJ2_indexOf_4cfef 28 = .ok (.aload_n 0, 1) := by decide +kernel
theorem dJ2_indexOf_4cfef_29 : decode cJ2_indexOf_4cfef 29 = .ok (.iload_n 1, 1) := by decide +kernel
theorem dJ2_indexOf_4cfef_30 : decode cJ2_indexOf_4cfef 30 = .ok (.iload_n 2, 1) := by decide +kernel
theorem dJ2_indexOf_4cfef_31 : decode cJ2_indexOf_4cfef 31 = .ok (.iload_n 3, 1) := by decide +kernel
theorem dJ2_indexOf_4cfef_32 : decode cJ2_indexOf_4cfef 32 = .ok (.invokestatic 228, 3) := by decide +kernel
theorem dJ2_indexOf_4cfef_35 : decode cJ2_indexOf_4cfef 35 = .ok (.ireturn, 1) := by decide +kernel
theorem dJ2_indexOf_4cfef_36 : decode cJ2_indexOf_4cfef 36 = .ok (.aload_n 0, 1) := by decide +kernel
theorem dJ2_indexOf_4cfef_37 : decode cJ2_indexOf_4cfef 37 = .ok (.iload_n 1, 1) := by decide +kernel
theorem dJ2_indexOf_4cfef_38 : decode cJ2_indexOf_4cfef 38 = .ok (.iload_n 2, 1) := by decide +kernel
theorem dJ2_indexOf_4cfef_39 : decode cJ2_indexOf_4cfef 39 = .ok (.iload_n 3, 1) := by decide +kernel
theorem dJ2_indexOf_4cfef_40 : decode cJ2_indexOf_4cfef 40 = .ok (.invokestatic 232, 3) := by decide +kernel
theorem dJ2_indexOf_4cfef_43 : decode cJ2_indexOf_4cfef 43 = .ok (.ireturn, 1) := by decide +kernel
theorem dJ2_indexOfChar_4cfef_0 : decode cJ2_indexOfChar_4cfef 0 = .ok (.iload_n 2, 1) := by decide +kernel
theorem dJ2_indexOfChar_4cfef_1 : decode cJ2_indexOfChar_4cfef 1 = .ok (.iload_n 3, 1) := by decide +kernel
theorem dJ2_indexOfChar_4cfef_2 : decode cJ2_indexOfChar_4cfef 2 = .ok (.aload_n 0, 1) := by decide +kernel
theorem dJ2_indexOfChar_4cfef_3 : decode cJ2_indexOfChar_4cfef 3 = .ok (.invokestatic 96, 3) := by decide +kernel
theorem dJ2_indexOfChar_4cfef_6 : decode cJ2_indexOfChar_4cfef 6 = .ok (.aload_n 0, 1) := by decide +kernel
theorem dJ2_indexOfChar_4cfef_7 : decode cJ2_indexOfChar_4cfef 7 = .ok (.iload_n 1, 1) := by decide +kernel
theorem dJ2_indexOfChar_4cfef_8 : decode cJ2_indexOfChar_4cfef 8 = .ok (.iload_n 2, 1) := by decide +kernel
theorem dJ2_indexOfChar_4cfef_9 : decode cJ2_indexOfChar_4cfef 9 = .ok (.iload_n 3, 1) := by decide +kernel
theorem dJ2_indexOfChar_4cfef_10 : decode cJ2_indexOfChar_4cfef 10 = .ok (.invokestatic 244, 3) := by decide +kernel
theorem dJ2_indexOfChar_4cfef_13 : decode cJ2_indexOfChar_4cfef 13 = .ok (.ireturn, 1) := by decide +kernel
theorem dJ2_indexOfCharUnsafe_4cfef_0 : decode cJ2_indexOfCharUnsafe_4cfef 0 = .ok (.iload_n 2, 1) := by decide +kernel
theorem dJ2_indexOfCharUnsafe_4cfef_1 : decode cJ2_indexOfCharUnsafe_4cfef 1 = .ok (.istore 4, 2) := by decide +kernel
theorem dJ2_indexOfCharUnsafe_4cfef_3 : decode cJ2_indexOfCharUnsafe_4cfef 3 = .ok (.iload 4, 2) := by decide +kernel
theorem dJ2_indexOfCharUnsafe_4cfef_5 : decode cJ2_indexOfCharUnsafe_4cfef 5 = .ok (.iload_n 3, 1) := by decide +kernel
theorem dJ2_indexOfCharUnsafe_4cfef_6 : decode cJ2_indexOfCharUnsafe_4cfef 6 = .ok (.if_icmp .ge 22, 3) := by decide +kernel
theorem dJ2_indexOfCharUnsafe_4cfef_9 : decode cJ2_indexOfCharUnsafe_4cfef 9 = .ok (.aload_n 0, 1) := by decide +kernel
theorem dJ2_indexOfCharUnsafe_4cfef_10 : decode cJ2_indexOfCharUnsafe_4cfef 10 = .ok (.iload 4, 2) := by decide +kernel
theorem dJ2_indexOfCharUnsafe_4cfef_12 : decode cJ2_indexOfCharUnsafe_4cfef 12 = .ok (.invokestatic 71, 3) := by decide +kernel
theorem dJ2_indexOfCharUnsafe_4cfef_15 : decode cJ2_indexOfCharUnsafe_4cfef 15 = .ok (.iload_n 1, 1) := by decide +kernel
theorem dJ2_indexOfCharUnsafe_4cfef_16 : decode cJ2_indexOfCharUnsafe_4cfef 16 = .ok (.if_icmp .ne 6, 3) := by decide +kernel
theorem dJ2_indexOfCharUnsafe_4cfef_19 : decode cJ2_indexOfCharUnsafe_4cfef 19 = .ok (.iload 4, 2) := by decide +kernel
theorem dJ2_indexOfCharUnsafe_4cfef_21 : decode cJ2_indexOfCharUnsafe_4cfef 21 = .ok (.ireturn, 1) := by decide +kernel
theorem dJ2_indexOfCharUnsafe_4cfef_22 : decode cJ2_indexOfCharUnsafe_4cfef 22 = .ok (.iinc 4 1, 3) := by decide +kernel
theorem dJ2_indexOfCharUnsafe_4cfef_25 : decode cJ2_indexOfCharUnsafe_4cfef 25 = .ok (.goto (-22), 3) := by decide +kernel
theorem dJ2_indexOfCharUnsafe_4cfef_28 : decode cJ2_indexOfCharUnsafe_4cfef 28 = .ok (.iconst (-1), 1) := by decide +kernel
theorem dJ2_indexOfCharUnsafe_4cfef_29 : decode cJ2_indexOfCharUnsafe_4cfef 29 = .ok (.ireturn, 1) := by decide +kernel
theorem dJ2_indexOfSupplementary_4cfef_0 : decode cJ2_indexOfSupplementary_4cfef 0 = .ok (.iload_n 1, 1) := by decide +kernel
theorem dJ2_indexOfSupplementary_4cfef_1 : decode cJ2_indexOfSupplementary_4cfef 1 = .ok (.invokestatic 164, 3) := by decide +kernel
theorem dJ2_indexOfSupplementary_4cfef_4 : decode cJ2_indexOfSupplementary_4cfef 4 = .ok (.ifCond .eq 65, 3) := by decide +kernel
theorem dJ2_indexOfSupplementary_4cfef_7 : decode cJ2_indexOfSupplementary_4cfef 7 = .ok (.iload_n 1, 1) := by decide +kernel
theorem dJ2_indexOfSupplementary_4cfef_8 : decode cJ2_indexOfSupplementary_4cfef 8 = .ok (.invokestatic 157, 3) := by decide +kernel
theorem dJ2_indexOfSupplementary_4cfef_11 : decode cJ2_indexOfSupplementary_4cfef 11 = .ok (.istore 4, 2) := by decide +kernel
theorem dJ2_indexOfSupplementary_4cfef_13 : decode cJ2_indexOfSupplementary_4cfef 13 = .ok (.iload_n 1, 1) := by decide +kernel
theorem dJ2_indexOfSupplementary_4cfef_14 : decode cJ2_indexOfSupplementary_4cfef 14 = .ok (.invokestatic 161, 3) := by decide +kernel
theorem dJ2_indexOfSupplementary_4cfef_17 : decode cJ2_indexOfSupplementary_4cfef 17 = .ok (.istore 5, 2) := by decide +kernel
theorem dJ2_indexOfSupplementary_4cfef_19 : decode cJ2_indexOfSupplementary_4cfef 19 = .ok (.iload_n 2, 1) := by decide +kernel
theorem dJ2_indexOfSupplementary_4cfef_20 : decode cJ2_indexOfSupplementary_4cfef 20 = .ok (.iload_n 3, 1) := by decide +kernel
theorem dJ2_indexOfSupplementary_4cfef_21 : decode cJ2_indexOfSupplementary_4cfef 21 = .ok (.aload_n 0, 1) := by decide +kernel
theorem dJ2_indexOfSupplementary_4cfef_22 : decode cJ2_indexOfSupplementary_4cfef 22 = .ok (.invokestatic 96, 3) := by decide +kernel
theorem dJ2_indexOfSupplementary_4cfef_25 : decode cJ2_indexOfSupplementary_4cfef 25 = .ok (.iload_n 2, 1) := by decide +kernel
theorem dJ2_indexOfSupplementary_4cfef_26 : decode cJ2_indexOfSupplementary_4cfef 26 = .ok (.istore 6, 2) := by decide +kernel
theorem dJ2_indexOfSupplementary_4cfef_28 : decode cJ2_indexOfSupplementary_4cfef 28 = .ok (.iload 6, 2) := by decide +kernel
theorem dJ2_indexOfSupplementary_4cfef_30 : decode cJ2_indexOfSupplementary_4cfef 30 = .ok (.iload_n 3, 1) := by decide +kernel
theorem dJ2_indexOfSupplementary_4cfef_31 : decode cJ2_indexOfSupplementary_4cfef 31 = .ok (.iconst 1, 1) := by decide +kernel
theorem dJ2_indexOfSupplementary_4cfef_32 : decode cJ2_indexOfSupplementary_4cfef 32 = .ok (.isub, 1) := by decide +kernel
theorem dJ2_indexOfSupplementary_4cfef_33 : decode cJ2_indexOfSupplementary_4cfef 33 = .ok (.if_icmp .ge 36, 3) := by decide +kernel
theorem dJ2_indexOfSupplementary_4cfef_36 : decode cJ2_indexOfSupplementary_4cfef 36 = .ok (.aload_n 0, 1) := by decide +kernel
theorem dJ2_indexOfSupplementary_4cfef_37 : decode cJ2_indexOfSupplementary_4cfef 37 = .ok (.iload 6, 2) := by decide +kernel
theorem dJ2_indexOfSupplementary_4cfef_39 : decode cJ2_indexOfSupplementary_4cfef 39 = .ok (.invokestatic 71, 3) := by decide +kernel
theorem dJ2_indexOfSupplementary_4cfef_42 : decode cJ2_indexOfSupplementary_4cfef 42 = .ok (.iload 4, 2) := by decide +kernel
theorem dJ2_indexOfSupplementary_4cfef_44 : decode cJ2_indexOfSupplementary_4cfef 44 = .ok (.if_icmp .ne 19, 3) := by decide +kernel
theorem dJ2_indexOfSupplementary_4cfef_47 : decode cJ2_indexOfSupplementary_4cfef 47 = .ok (.aload_n 0, 1) := by decide +kernel
theorem dJ2_indexOfSupplementary_4cfef_48 : decode cJ2_indexOfSupplementary_4cfef 48 = .ok (.iload 6, 2) := by decide +kernel
theorem dJ2_indexOfSupplementary_4cfef_50 : decode cJ2_indexOfSupplementary_4cfef 50 = .ok (.iconst 1, 1) := by decide +kernel
theorem dJ2_indexOfSupplementary_4cfef_51 : decode cJ2_indexOfSupplementary_4cfef 51 = .ok (.iadd, 1) := by decide +kernel
theorem dJ2_indexOfSupplementary_4cfef_52 : decode cJ2_indexOfSupplementary_4cfef 52 = .ok (.invokestatic 71, 3) := by decide +kernel
theorem dJ2_indexOfSupplementary_4cfef_55 : decode cJ2_indexOfSupplementary_4cfef 55 = .ok (.iload 5, 2) := by decide +kernel
theorem dJ2_indexOfSupplementary_4cfef_57 : decode cJ2_indexOfSupplementary_4cfef 57 = .ok (.if_icmp .ne 6, 3) := by decide +kernel
theorem dJ2_indexOfSupplementary_4cfef_60 : decode cJ2_indexOfSupplementary_4cfef 60 = .ok (.iload 6, 2) := by decide +kernel
theorem dJ2_indexOfSupplementary_4cfef_62 : decode cJ2_indexOfSupplementary_4cfef 62 = .ok (.ireturn, 1) := by decide +kernel
theorem dJ2_indexOfSupplementary_4cfef_63 : decode cJ2_indexOfSupplementary_4cfef 63 = .ok (.iinc 6 1, 3) := by decide +kernel
theorem dJ2_indexOfSupplementary_4cfef_66 : decode cJ2_indexOfSupplementary_4cfef 66 = .ok (.goto (-38), 3) := by decide +kernel
theorem dJ2_indexOfSupplementary_4cfef_69 : decode cJ2_indexOfSupplementary_4cfef 69 = .ok (.iconst (-1), 1) := by decide +kernel
theorem dJ2_indexOfSupplementary_4cfef_70 : decode cJ2_indexOfSupplementary_4cfef 70 = .ok (.ireturn, 1) := by decide +kernel
theorem dJ2_charAt_3b067_0 : decode cJ2_charAt_3b067 0 = .ok (.iload_n 1, 1) := by decide +kernel
theorem dJ2_charAt_3b067_1 : decode cJ2_charAt_3b067 1 = .ok (.aload_n 0, 1) := by decide +kernel
theorem dJ2_charAt_3b067_2 : decode cJ2_charAt_3b067 2 = .ok (.invokestatic 67, 3) := by decide +kernel
theorem dJ2_charAt_3b067_5 : decode cJ2_charAt_3b067 5 = .ok (.aload_n 0, 1) := by decide +kernel
theorem dJ2_charAt_3b067_6 : decode cJ2_charAt_3b067 6 = .ok (.iload_n 1, 1) := by decide +kernel
theorem dJ2_charAt_3b067_7 : decode cJ2_charAt_3b067 7 = .ok (.invokestatic 71, 3) := by decide +kernel
theorem dJ2_charAt_3b067_10 : decode cJ2_charAt_3b067 10 = .ok (.ireturn, 1) := by decide +kernel
theorem dJ2_checkIndex_2214a_0 : decode cJ2_checkIndex_2214a 0 = .ok (.iload_n 0, 1) := by decide +kernel
theorem dJ2_checkIndex_2214a_1 : decode cJ2_checkIndex_2214a 1 = .ok (.aload_n 1, 1) := by decide +kernel
theorem dJ2_checkIndex_2214a_2 : decode cJ2_checkIndex_2214a 2 = .ok (.invokestatic 48, 3) := by decide +kernel
theorem dJ2_checkIndex_2214a_5 : decode cJ2_checkIndex_2214a 5 = .ok (.invokestatic 414, 3) := by decide +kernel
theorem dJ2_checkIndex_2214a_8 : decode cJ2_checkIndex_2214a 8 = .ok (.return_, 1) := by decide +kernel
theorem dJ2_checkBoundsBeginEnd_d044e_0 : decode cJ2_checkBoundsBeginEnd_d044e 0 = .ok (.iload_n 0, 1) := by decide +kernel
theorem dJ2_checkBoundsBeginEnd_d044e_1 : decode cJ2_checkBoundsBeginEnd_d044e 1 = .ok (.iload_n 1, 1) := by decide +kernel
theorem dJ2_checkBoundsBeginEnd_d044e_2 : decode cJ2_checkBoundsBeginEnd_d044e 2 = .ok (.aload_n 2, 1) := by decide +kernel
theorem dJ2_checkBoundsBeginEnd_d044e_3 : decode cJ2_checkBoundsBeginEnd_d044e 3 = .ok (.invokestatic 48, 3) := by decide +kernel
theorem dJ2_checkBoundsBeginEnd_d044e_6 : decode cJ2_checkBoundsBeginEnd_d044e 6 = .ok (.invokestatic 241, 3) := by decide +kernel
theorem dJ2_checkBoundsBeginEnd_d044e_9 : decode cJ2_checkBoundsBeginEnd_d044e 9 = .ok (.return_, 1) := by decide +kernel
theorem dJ7_fill_53178_0 : decode cJ7_fill_53178 0 = .ok (.iconst 0, 1) := by decide +kernel
theorem dJ7_fill_53178_1 : decode cJ7_fill_53178 1 = .ok (.istore_n 2, 1) := by decide +kernel
theorem dJ7_fill_53178_2 : decode cJ7_fill_53178 2 = .ok (.aload_n 0, 1) := by decide +kernel
theorem dJ7_fill_53178_3 : decode cJ7_fill_53178 3 = .ok (.arraylength, 1) := by decide +kernel
theorem dJ7_fill_53178_4 : decode cJ7_fill_53178 4 = .ok (.istore_n 3, 1) := by decide +kernel
theorem dJ7_fill_53178_5 : decode cJ7_fill_53178 5 = .ok (.iload_n 2, 1) := by decide +kernel
theorem dJ7_fill_53178_6 : decode cJ7_fill_53178 6 = .ok (.iload_n 3, 1) := by decide +kernel
theorem dJ7_fill_53178_7 : decode cJ7_fill_53178 7 = .ok (.if_icmp .ge 13, 3) := by decide +kernel
theorem dJ7_fill_53178_10 : decode cJ7_fill_53178 10 = .ok (.aload_n 0, 1) := by decide +kernel
theorem dJ7_fill_53178_11 : decode cJ7_fill_53178 11 = .ok (.iload_n 2, 1) := by decide +kernel
theorem dJ7_fill_53178_12 : decode cJ7_fill_53178 12 = .ok (.iload_n 1, 1) := by decide +kernel
theorem dJ7_fill_53178_13 : decode cJ7_fill_53178 13 = .ok (.iastore, 1) := by decide +kernel
theorem dJ7_fill_53178_14 : decode cJ7_fill_53178 14 = .ok (.iinc 2 1, 3) := by decide +kernel
theorem dJ7_fill_53178_17 : decode cJ7_fill_53178 17 = .ok (.goto (-12), 3) := by decide +kernel
theorem dJ7_fill_53178_20 : decode cJ7_fill_53178 20 = .ok (.return_, 1) := by decide +kernel
theorem dJ3_checkIndex_8e157_0 : decode cJ3_checkIndex_8e157 0 = .ok (.iload_n 0, 1) := by decide +kernel
theorem dJ3_checkIndex_8e157_1 : decode cJ3_checkIndex_8e157 1 = .ok (.ifCond .lt 8, 3) := by decide +kernel
theorem dJ3_checkIndex_8e157_4 : decode cJ3_checkIndex_8e157 4 = .ok (.iload_n 0, 1) := by decide +kernel
theorem dJ3_checkIndex_8e157_5 : decode cJ3_checkIndex_8e157 5 = .ok (.iload_n 1, 1) := by decide +kernel
theorem dJ3_checkIndex_8e157_6 : decode cJ3_checkIndex_8e157 6 = .ok (.if_icmp .lt 10, 3) := by decide +kernel
theorem dJ3_checkIndex_8e157_9 : decode cJ3_checkIndex_8e157 9 = .ok (.aload_n 2, 1) := by decide +kernel
theorem dJ3_checkIndex_8e157_10 : decode cJ3_checkIndex_8e157 10 = .ok (.iload_n 0, 1) := by decide +kernel
theorem dJ3_checkIndex_8e157_11 : decode cJ3_checkIndex_8e157 11 = .ok (.iload_n 1, 1) := by decide +kernel
theorem dJ3_checkIndex_8e157_12 : decode cJ3_checkIndex_8e157 12 = .ok (.invokestatic 95, 3) := by decide +kernel
theorem dJ3_checkIndex_8e157_15 : decode cJ3_checkIndex_8e157 15 = .ok (.athrow, 1) := by decide +kernel
theorem dJ3_checkIndex_8e157_16 : decode cJ3_checkIndex_8e157 16 = .ok (.iload_n 0, 1) := by decide +kernel
theorem dJ3_checkIndex_8e157_17 : decode cJ3_checkIndex_8e157 17 = .ok (.ireturn, 1) := by decide +kernel
theorem dJ3_checkFromToIndex_8c36e_0 : decode cJ3_checkFromToIndex_8c36e 0 = .ok (.iload_n 0, 1) := by decide +kernel
theorem dJ3_checkFromToIndex_8c36e_1 : decode cJ3_checkFromToIndex_8c36e 1 = .ok (.ifCond .lt 13, 3) := by decide +kernel
theorem dJ3_checkFromToIndex_8c36e_4 : decode cJ3_checkFromToIndex_8c36e 4 = .ok (.iload_n 0, 1) := by decide +kernel
theorem dJ3_checkFromToIndex_8c36e_5 : decode cJ3_checkFromToIndex_8c36e 5 = .ok (.iload_n 1, 1) := by decide +kernel
theorem dJ3_checkFromToIndex_8c36e_6 : decode cJ3_checkFromToIndex_8c36e 6 = .ok (.if_icmp .gt 8, 3) := by decide +kernel
theorem dJ3_checkFromToIndex_8c36e_9 : decode cJ3_checkFromToIndex_8c36e 9 = .ok (.iload_n 1, 1) := by decide +kernel
theorem dJ3_checkFromToIndex_8c36e_10 : decode cJ3_checkFromToIndex_8c36e 10 = .ok (.iload_n 2, 1) := by decide +kernel
theorem dJ3_checkFromToIndex_8c36e_11 : decode cJ3_checkFromToIndex_8c36e 11 = .ok (.if_icmp .le 11, 3) := by decide +kernel
theorem dJ3_checkFromToIndex_8c36e_14 : decode cJ3_checkFromToIndex_8c36e 14 = .ok (.aload_n 3, 1) := by decide +kernel
theorem dJ3_checkFromToIndex_8c36e_15 : decode cJ3_checkFromToIndex_8c36e 15 = .ok (.iload_n 0, 1) := by decide +kernel
theorem dJ3_checkFromToIndex_8c36e_16 : decode cJ3_checkFromToIndex_8c36e 16 = .ok (.iload_n 1, 1) := by decide +kernel
theorem dJ3_checkFromToIndex_8c36e_17 : decode cJ3_checkFromToIndex_8c36e 17 = .ok (.iload_n 2, 1) := by decide +kernel
theorem dJ3_checkFromToIndex_8c36e_18 : decode cJ3_checkFromToIndex_8c36e 18 = .ok (.invokestatic 99, 3) := by decide +kernel
theorem dJ3_checkFromToIndex_8c36e_21 : decode cJ3_checkFromToIndex_8c36e 21 = .ok (.athrow, 1) := by decide +kernel
theorem dJ3_checkFromToIndex_8c36e_22 : decode cJ3_checkFromToIndex_8c36e 22 = .ok (.iload_n 0, 1) := by decide +kernel
theorem dJ3_checkFromToIndex_8c36e_23 : decode cJ3_checkFromToIndex_8c36e 23 = .ok (.ireturn, 1) := by decide +kernel
