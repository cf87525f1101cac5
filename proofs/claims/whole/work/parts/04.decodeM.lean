/-! decode rows, by program -/
theorem dM_init_0 : decode cM_init 0 = .ok (.aload_n 0, 1) := by decide +kernel
theorem dM_init_1 : decode cM_init 1 = .ok (.invokespecial 1, 3) := by decide +kernel
theorem dM_init_4 : decode cM_init 4 = .ok (.aload_n 0, 1) := by decide +kernel
theorem dM_init_5 : decode cM_init 5 = .ok (.iconst (-1), 1) := by decide +kernel
theorem dM_init_6 : decode cM_init 6 = .ok (.putfield 7, 3) := by decide +kernel
theorem dM_init_9 : decode cM_init 9 = .ok (.aload_n 0, 1) := by decide +kernel
theorem dM_init_10 : decode cM_init 10 = .ok (.sipush 128, 3) := by decide +kernel
theorem dM_init_13 : decode cM_init 13 = .ok (.newarray .int, 2) := by decide +kernel
theorem dM_init_15 : decode cM_init 15 = .ok (.putfield 13, 3) := by decide +kernel
theorem dM_init_18 : decode cM_init 18 = .ok (.aload_n 0, 1) := by decide +kernel
theorem dM_init_19 : decode cM_init 19 = .ok (.bipush 30, 2) := by decide +kernel
theorem dM_init_21 : decode cM_init 21 = .ok (.newarray .boolean, 2) := by decide +kernel
theorem dM_init_23 : decode cM_init 23 = .ok (.putfield 17, 3) := by decide +kernel
theorem dM_init_26 : decode cM_init 26 = .ok (.aload_n 0, 1) := by decide +kernel
theorem dM_init_27 : decode cM_init 27 = .ok (.bipush 30, 2) := by decide +kernel
theorem dM_init_29 : decode cM_init 29 = .ok (.newarray .long, 2) := by decide +kernel
theorem dM_init_31 : decode cM_init 31 = .ok (.putfield 21, 3) := by decide +kernel
theorem dM_init_34 : decode cM_init 34 = .ok (.aload_n 0, 1) := by decide +kernel
theorem dM_init_35 : decode cM_init 35 = .ok (.bipush 30, 2) := by decide +kernel
theorem dM_init_37 : decode cM_init 37 = .ok (.newarray .int, 2) := by decide +kernel
theorem dM_init_39 : decode cM_init 39 = .ok (.putfield 25, 3) := by decide +kernel
theorem dM_init_42 : decode cM_init 42 = .ok (.aload_n 0, 1) := by decide +kernel
theorem dM_init_43 : decode cM_init 43 = .ok (.bipush 6, 2) := by decide +kernel
theorem dM_init_45 : decode cM_init 45 = .ok (.newarray .boolean, 2) := by decide +kernel
theorem dM_init_47 : decode cM_init 47 = .ok (.putfield 28, 3) := by decide +kernel
theorem dM_init_50 : decode cM_init 50 = .ok (.aload_n 0, 1) := by decide +kernel
theorem dM_init_51 : decode cM_init 51 = .ok (.bipush 6, 2) := by decide +kernel
theorem dM_init_53 : decode cM_init 53 = .ok (.newarray .boolean, 2) := by decide +kernel
theorem dM_init_55 : decode cM_init 55 = .ok (.putfield 31, 3) := by decide +kernel
theorem dM_init_58 : decode cM_init 58 = .ok (.aload_n 0, 1) := by decide +kernel
theorem dM_init_59 : decode cM_init 59 = .ok (.iconst 2, 1) := by decide +kernel
theorem dM_init_60 : decode cM_init 60 = .ok (.newarray .boolean, 2) := by decide +kernel
theorem dM_init_62 : decode cM_init 62 = .ok (.putfield 34, 3) := by decide +kernel
theorem dM_init_65 : decode cM_init 65 = .ok (.aload_n 0, 1) := by decide +kernel
theorem dM_init_66 : decode cM_init 66 = .ok (.iconst 2, 1) := by decide +kernel
theorem dM_init_67 : decode cM_init 67 = .ok (.newarray .int, 2) := by decide +kernel
theorem dM_init_69 : decode cM_init 69 = .ok (.putfield 37, 3) := by decide +kernel
theorem dM_init_72 : decode cM_init 72 = .ok (.aload_n 0, 1) := by decide +kernel
theorem dM_init_73 : decode cM_init 73 = .ok (.iconst 2, 1) := by decide +kernel
theorem dM_init_74 : decode cM_init 74 = .ok (.newarray .boolean, 2) := by decide +kernel
theorem dM_init_76 : decode cM_init 76 = .ok (.putfield 40, 3) := by decide +kernel
theorem dM_init_79 : decode cM_init 79 = .ok (.aload_n 0, 1) := by decide +kernel
theorem dM_init_80 : decode cM_init 80 = .ok (.iconst 2, 1) := by decide +kernel
theorem dM_init_81 : decode cM_init 81 = .ok (.newarray .int, 2) := by decide +kernel
theorem dM_init_83 : decode cM_init 83 = .ok (.putfield 43, 3) := by decide +kernel
theorem dM_init_86 : decode cM_init 86 = .ok (.aload_n 0, 1) := by decide +kernel
theorem dM_init_87 : decode cM_init 87 = .ok (.iconst 2, 1) := by decide +kernel
theorem dM_init_88 : decode cM_init 88 = .ok (.newarray .int, 2) := by decide +kernel
theorem dM_init_90 : decode cM_init 90 = .ok (.putfield 46, 3) := by decide +kernel
theorem dM_init_93 : decode cM_init 93 = .ok (.aload_n 0, 1) := by decide +kernel
theorem dM_init_94 : decode cM_init 94 = .ok (.iconst 2, 1) := by decide +kernel
theorem dM_init_95 : decode cM_init 95 = .ok (.newarray .boolean, 2) := by decide +kernel
theorem dM_init_97 : decode cM_init 97 = .ok (.putfield 49, 3) := by decide +kernel
theorem dM_init_100 : decode cM_init 100 = .ok (.aload_n 0, 1) := by decide +kernel
theorem dM_init_101 : decode cM_init 101 = .ok (.bipush 6, 2) := by decide +kernel
theorem dM_init_103 : decode cM_init 103 = .ok (.newarray .long, 2) := by decide +kernel
theorem dM_init_105 : decode cM_init 105 = .ok (.putfield 52, 3) := by decide +kernel
theorem dM_init_108 : decode cM_init 108 = .ok (.aload_n 0, 1) := by decide +kernel
theorem dM_init_109 : decode cM_init 109 = .ok (.bipush 16, 2) := by decide +kernel
theorem dM_init_111 : decode cM_init 111 = .ok (.newarray .long, 2) := by decide +kernel
theorem dM_init_113 : decode cM_init 113 = .ok (.putfield 55, 3) := by decide +kernel
theorem dM_init_116 : decode cM_init 116 = .ok (.iload_n 1, 1) := by decide +kernel
theorem dM_init_117 : decode cM_init 117 = .ok (.bipush 12, 2) := by decide +kernel
theorem dM_init_119 : decode cM_init 119 = .ok (.bipush 60, 2) := by decide +kernel
theorem dM_init_121 : decode cM_init 121 = .ok (.invokestatic 58, 3) := by decide +kernel
theorem dM_init_124 : decode cM_init 124 = .ok (.istore 5, 2) := by decide +kernel
theorem dM_init_126 : decode cM_init 126 = .ok (.aload_n 0, 1) := by decide +kernel
theorem dM_init_127 : decode cM_init 127 = .ok (.iload 5, 2) := by decide +kernel
theorem dM_init_129 : decode cM_init 129 = .ok (.iconst 3, 1) := by decide +kernel
theorem dM_init_130 : decode cM_init 130 = .ok (.isub, 1) := by decide +kernel
theorem dM_init_131 : decode cM_init 131 = .ok (.putfield 62, 3) := by decide +kernel
theorem dM_init_134 : decode cM_init 134 = .ok (.aload_n 0, 1) := by decide +kernel
theorem dM_init_135 : decode cM_init 135 = .ok (.sipush 128, 3) := by decide +kernel
theorem dM_init_138 : decode cM_init 138 = .ok (.iload 5, 2) := by decide +kernel
theorem dM_init_140 : decode cM_init 140 = .ok (.imul, 1) := by decide +kernel
theorem dM_init_141 : decode cM_init 141 = .ok (.putfield 65, 3) := by decide +kernel
theorem dM_init_144 : decode cM_init 144 = .ok (.aload_n 0, 1) := by decide +kernel
theorem dM_init_145 : decode cM_init 145 = .ok (.iload_n 2, 1) := by decide +kernel
theorem dM_init_146 : decode cM_init 146 = .ok (.iconst 1, 1) := by decide +kernel
theorem dM_init_147 : decode cM_init 147 = .ok (.bipush 6, 2) := by decide +kernel
theorem dM_init_149 : decode cM_init 149 = .ok (.invokestatic 58, 3) := by decide +kernel
theorem dM_init_152 : decode cM_init 152 = .ok (.putfield 68, 3) := by decide +kernel
theorem dM_init_155 : decode cM_init 155 = .ok (.aload_n 0, 1) := by decide +kernel
theorem dM_init_156 : decode cM_init 156 = .ok (.bipush 64, 2) := by decide +kernel
theorem dM_init_158 : decode cM_init 158 = .ok (.iload_n 3, 1) := by decide +kernel
theorem dM_init_159 : decode cM_init 159 = .ok (.iconst 1, 1) := by decide +kernel
theorem dM_init_160 : decode cM_init 160 = .ok (.bipush 8, 2) := by decide +kernel
theorem dM_init_162 : decode cM_init 162 = .ok (.invokestatic 58, 3) := by decide +kernel
theorem dM_init_165 : decode cM_init 165 = .ok (.imul, 1) := by decide +kernel
theorem dM_init_166 : decode cM_init 166 = .ok (.putfield 71, 3) := by decide +kernel
theorem dM_init_169 : decode cM_init 169 = .ok (.aload_n 0, 1) := by decide +kernel
theorem dM_init_170 : decode cM_init 170 = .ok (.iload 4, 2) := by decide +kernel
theorem dM_init_172 : decode cM_init 172 = .ok (.iconst 1, 1) := by decide +kernel
theorem dM_init_173 : decode cM_init 173 = .ok (.ldc 74, 2) := by decide +kernel
theorem dM_init_175 : decode cM_init 175 = .ok (.invokestatic 58, 3) := by decide +kernel
theorem dM_init_178 : decode cM_init 178 = .ok (.putfield 75, 3) := by decide +kernel
theorem dM_init_181 : decode cM_init 181 = .ok (.return_, 1) := by decide +kernel
theorem dM_bound_0 : decode cM_bound 0 = .ok (.iload_n 0, 1) := by decide +kernel
theorem dM_bound_1 : decode cM_bound 1 = .ok (.iload_n 1, 1) := by decide +kernel
theorem dM_bound_2 : decode cM_bound 2 = .ok (.if_icmp .ge 7, 3) := by decide +kernel
theorem dM_bound_5 : decode cM_bound 5 = .ok (.iload_n 1, 1) := by decide +kernel
theorem dM_bound_6 : decode cM_bound 6 = .ok (.goto 13, 3) := by decide +kernel
theorem dM_bound_9 : decode cM_bound 9 = .ok (.iload_n 0, 1) := by decide +kernel
theorem dM_bound_10 : decode cM_bound 10 = .ok (.iload_n 2, 1) := by decide +kernel
theorem dM_bound_11 : decode cM_bound 11 = .ok (.if_icmp .le 7, 3) := by decide +kernel
theorem dM_bound_14 : decode cM_bound 14 = .ok (.iload_n 2, 1) := by decide +kernel
theorem dM_bound_15 : decode cM_bound 15 = .ok (.goto 4, 3) := by decide +kernel
theorem dM_bound_18 : decode cM_bound 18 = .ok (.iload_n 0, 1) := by decide +kernel
theorem dM_bound_19 : decode cM_bound 19 = .ok (.ireturn, 1) := by decide +kernel
theorem dM_in_0 : decode cM_in 0 = .ok (.iload_n 1, 1) := by decide +kernel
theorem dM_in_1 : decode cM_in 1 = .ok (.iload_n 0, 1) := by decide +kernel
theorem dM_in_2 : decode cM_in 2 = .ok (.if_icmp .gt 12, 3) := by decide +kernel
theorem dM_in_5 : decode cM_in 5 = .ok (.iload_n 0, 1) := by decide +kernel
theorem dM_in_6 : decode cM_in 6 = .ok (.iload_n 2, 1) := by decide +kernel
theorem dM_in_7 : decode cM_in 7 = .ok (.if_icmp .gt 7, 3) := by decide +kernel
theorem dM_in_10 : decode cM_in 10 = .ok (.iconst 1, 1) := by decide +kernel
theorem dM_in_11 : decode cM_in 11 = .ok (.goto 4, 3) := by decide +kernel
theorem dM_in_14 : decode cM_in 14 = .ok (.iconst 0, 1) := by decide +kernel
theorem dM_in_15 : decode cM_in 15 = .ok (.ireturn, 1) := by decide +kernel
theorem dM_down_0 : decode cM_down 0 = .ok (.iload_n 0, 1) := by decide +kernel
theorem dM_down_1 : decode cM_down 1 = .ok (.iload_n 1, 1) := by decide +kernel
theorem dM_down_2 : decode cM_down 2 = .ok (.idiv, 1) := by decide +kernel
theorem dM_down_3 : decode cM_down 3 = .ok (.istore_n 2, 1) := by decide +kernel
theorem dM_down_4 : decode cM_down 4 = .ok (.iload_n 2, 1) := by decide +kernel
theorem dM_down_5 : decode cM_down 5 = .ok (.iload_n 1, 1) := by decide +kernel
theorem dM_down_6 : decode cM_down 6 = .ok (.imul, 1) := by decide +kernel
theorem dM_down_7 : decode cM_down 7 = .ok (.iload_n 0, 1) := by decide +kernel
theorem dM_down_8 : decode cM_down 8 = .ok (.if_icmp .le 9, 3) := by decide +kernel
theorem dM_down_11 : decode cM_down 11 = .ok (.iload_n 2, 1) := by decide +kernel
theorem dM_down_12 : decode cM_down 12 = .ok (.iconst 1, 1) := by decide +kernel
theorem dM_down_13 : decode cM_down 13 = .ok (.isub, 1) := by decide +kernel
theorem dM_down_14 : decode cM_down 14 = .ok (.goto 4, 3) := by decide +kernel
theorem dM_down_17 : decode cM_down 17 = .ok (.iload_n 2, 1) := by decide +kernel
theorem dM_down_18 : decode cM_down 18 = .ok (.ireturn, 1) := by decide +kernel
theorem dM_set_0 : decode cM_set 0 = .ok (.iload_n 1, 1) := by decide +kernel
theorem dM_set_1 : decode cM_set 1 = .ok (.iconst 0, 1) := by decide +kernel
theorem dM_set_2 : decode cM_set 2 = .ok (.iconst 1, 1) := by decide +kernel
theorem dM_set_3 : decode cM_set 3 = .ok (.invokestatic 78, 3) := by decide +kernel
theorem dM_set_6 : decode cM_set 6 = .ok (.ifCond .eq 27, 3) := by decide +kernel
theorem dM_set_9 : decode cM_set 9 = .ok (.iload_n 2, 1) := by decide +kernel
theorem dM_set_10 : decode cM_set 10 = .ok (.iconst 0, 1) := by decide +kernel
theorem dM_set_11 : decode cM_set 11 = .ok (.bipush 7, 2) := by decide +kernel
theorem dM_set_13 : decode cM_set 13 = .ok (.invokestatic 78, 3) := by decide +kernel
theorem dM_set_16 : decode cM_set 16 = .ok (.ifCond .eq 17, 3) := by decide +kernel
theorem dM_set_19 : decode cM_set 19 = .ok (.iload_n 3, 1) := by decide +kernel
theorem dM_set_20 : decode cM_set 20 = .ok (.iconst 0, 1) := by decide +kernel
theorem dM_set_21 : decode cM_set 21 = .ok (.bipush 7, 2) := by decide +kernel
theorem dM_set_23 : decode cM_set 23 = .ok (.invokestatic 78, 3) := by decide +kernel
theorem dM_set_26 : decode cM_set 26 = .ok (.ifCond .eq 7, 3) := by decide +kernel
theorem dM_set_29 : decode cM_set 29 = .ok (.iconst 1, 1) := by decide +kernel
theorem dM_set_30 : decode cM_set 30 = .ok (.goto 4, 3) := by decide +kernel
theorem dM_set_33 : decode cM_set 33 = .ok (.iconst 0, 1) := by decide +kernel
theorem dM_set_34 : decode cM_set 34 = .ok (.istore 5, 2) := by decide +kernel
theorem dM_set_36 : decode cM_set 36 = .ok (.iload 5, 2) := by decide +kernel
theorem dM_set_38 : decode cM_set 38 = .ok (.ifCond .eq 25, 3) := by decide +kernel
theorem dM_set_41 : decode cM_set 41 = .ok (.iload 4, 2) := by decide +kernel
theorem dM_set_43 : decode cM_set 43 = .ok (.iconst 0, 1) := by decide +kernel
theorem dM_set_44 : decode cM_set 44 = .ok (.iload_n 1, 1) := by decide +kernel
theorem dM_set_45 : decode cM_set 45 = .ok (.ifCond .ne 9, 3) := by decide +kernel
theorem dM_set_48 : decode cM_set 48 = .ok (.sipush 2047, 3) := by decide +kernel
theorem dM_set_51 : decode cM_set 51 = .ok (.goto 6, 3) := by decide +kernel
theorem dM_set_54 : decode cM_set 54 = .ok (.sipush 32000, 3) := by decide +kernel
theorem dM_set_57 : decode cM_set 57 = .ok (.invokestatic 78, 3) := by decide +kernel
theorem dM_set_60 : decode cM_set 60 = .ok (.ifCond .ne 5, 3) := by decide +kernel
theorem dM_set_63 : decode cM_set 63 = .ok (.iconst 0, 1) := by decide +kernel
theorem dM_set_64 : decode cM_set 64 = .ok (.ireturn, 1) := by decide +kernel
theorem dM_set_65 : decode cM_set 65 = .ok (.aload_n 0, 1) := by decide +kernel
theorem dM_set_66 : decode cM_set 66 = .ok (.getfield 13, 3) := by decide +kernel
theorem dM_set_69 : decode cM_set 69 = .ok (.bipush 64, 2) := by decide +kernel
theorem dM_set_71 : decode cM_set 71 = .ok (.iload_n 1, 1) := by decide +kernel
theorem dM_set_72 : decode cM_set 72 = .ok (.imul, 1) := by decide +kernel
theorem dM_set_73 : decode cM_set 73 = .ok (.bipush 8, 2) := by decide +kernel
theorem dM_set_75 : decode cM_set 75 = .ok (.iload_n 2, 1) := by decide +kernel
theorem dM_set_76 : decode cM_set 76 = .ok (.imul, 1) := by decide +kernel
theorem dM_set_77 : decode cM_set 77 = .ok (.iadd, 1) := by decide +kernel
theorem dM_set_78 : decode cM_set 78 = .ok (.iload_n 3, 1) := by decide +kernel
theorem dM_set_79 : decode cM_set 79 = .ok (.iadd, 1) := by decide +kernel
theorem dM_set_80 : decode cM_set 80 = .ok (.iload 4, 2) := by decide +kernel
theorem dM_set_82 : decode cM_set 82 = .ok (.iastore, 1) := by decide +kernel
theorem dM_set_83 : decode cM_set 83 = .ok (.iconst 1, 1) := by decide +kernel
theorem dM_set_84 : decode cM_set 84 = .ok (.ireturn, 1) := by decide +kernel
theorem dM_look_0 : decode cM_look 0 = .ok (.iload_n 1, 1) := by decide +kernel
theorem dM_look_1 : decode cM_look 1 = .ok (.iconst 0, 1) := by decide +kernel
theorem dM_look_2 : decode cM_look 2 = .ok (.iconst 1, 1) := by decide +kernel
theorem dM_look_3 : decode cM_look 3 = .ok (.invokestatic 78, 3) := by decide +kernel
theorem dM_look_6 : decode cM_look 6 = .ok (.ifCond .eq 25, 3) := by decide +kernel
theorem dM_look_9 : decode cM_look 9 = .ok (.iload_n 2, 1) := by decide +kernel
theorem dM_look_10 : decode cM_look 10 = .ok (.iconst 0, 1) := by decide +kernel
theorem dM_look_11 : decode cM_look 11 = .ok (.sipush 1791, 3) := by decide +kernel
theorem dM_look_14 : decode cM_look 14 = .ok (.invokestatic 78, 3) := by decide +kernel
theorem dM_look_17 : decode cM_look 17 = .ok (.ifCond .eq 14, 3) := by decide +kernel
theorem dM_look_20 : decode cM_look 20 = .ok (.iload_n 3, 1) := by decide +kernel
theorem dM_look_21 : decode cM_look 21 = .ok (.iconst 0, 1) := by decide +kernel
theorem dM_look_22 : decode cM_look 22 = .ok (.sipush 1791, 3) := by decide +kernel
theorem dM_look_25 : decode cM_look 25 = .ok (.invokestatic 78, 3) := by decide +kernel
theorem dM_look_28 : decode cM_look 28 = .ok (.ifCond .ne 5, 3) := by decide +kernel
theorem dM_look_31 : decode cM_look 31 = .ok (.iconst (-1), 1) := by decide +kernel
theorem dM_look_32 : decode cM_look 32 = .ok (.ireturn, 1) := by decide +kernel
theorem dM_look_33 : decode cM_look 33 = .ok (.ldc2_w 82, 3) := by decide +kernel
theorem dM_look_36 : decode cM_look 36 = .ok (.lstore 4, 2) := by decide +kernel
theorem dM_look_38 : decode cM_look 38 = .ok (.iconst 0, 1) := by decide +kernel
theorem dM_look_39 : decode cM_look 39 = .ok (.istore 6, 2) := by decide +kernel
theorem dM_look_41 : decode cM_look 41 = .ok (.iload 6, 2) := by decide +kernel
theorem dM_look_43 : decode cM_look 43 = .ok (.iconst 4, 1) := by decide +kernel
theorem dM_look_44 : decode cM_look 44 = .ok (.if_icmp .ge 120, 3) := by decide +kernel
theorem dM_look_47 : decode cM_look 47 = .ok (.iload_n 2, 1) := by decide +kernel
theorem dM_look_48 : decode cM_look 48 = .ok (.sipush 256, 3) := by decide +kernel
theorem dM_look_51 : decode cM_look 51 = .ok (.idiv, 1) := by decide +kernel
theorem dM_look_52 : decode cM_look 52 = .ok (.iload 6, 2) := by decide +kernel
theorem dM_look_54 : decode cM_look 54 = .ok (.iconst 2, 1) := by decide +kernel
theorem dM_look_55 : decode cM_look 55 = .ok (.irem, 1) := by decide +kernel
theorem dM_look_56 : decode cM_look 56 = .ok (.iadd, 1) := by decide +kernel
theorem dM_look_57 : decode cM_look 57 = .ok (.istore 7, 2) := by decide +kernel
theorem dM_look_59 : decode cM_look 59 = .ok (.iload_n 3, 1) := by decide +kernel
theorem dM_look_60 : decode cM_look 60 = .ok (.sipush 256, 3) := by decide +kernel
theorem dM_look_63 : decode cM_look 63 = .ok (.idiv, 1) := by decide +kernel
theorem dM_look_64 : decode cM_look 64 = .ok (.iload 6, 2) := by decide +kernel
theorem dM_look_66 : decode cM_look 66 = .ok (.iconst 2, 1) := by decide +kernel
theorem dM_look_67 : decode cM_look 67 = .ok (.idiv, 1) := by decide +kernel
theorem dM_look_68 : decode cM_look 68 = .ok (.iadd, 1) := by decide +kernel
theorem dM_look_69 : decode cM_look 69 = .ok (.istore 8, 2) := by decide +kernel
theorem dM_look_71 : decode cM_look 71 = .ok (.iload 6, 2) := by decide +kernel
theorem dM_look_73 : decode cM_look 73 = .ok (.iconst 2, 1) := by decide +kernel
theorem dM_look_74 : decode cM_look 74 = .ok (.irem, 1) := by decide +kernel
theorem dM_look_75 : decode cM_look 75 = .ok (.ifCond .ne 15, 3) := by decide +kernel
theorem dM_look_78 : decode cM_look 78 = .ok (.sipush 256, 3) := by decide +kernel
theorem dM_look_81 : decode cM_look 81 = .ok (.iload_n 2, 1) := by decide +kernel
theorem dM_look_82 : decode cM_look 82 = .ok (.sipush 256, 3) := by decide +kernel
theorem dM_look_85 : decode cM_look 85 = .ok (.irem, 1) := by decide +kernel
theorem dM_look_86 : decode cM_look 86 = .ok (.isub, 1) := by decide +kernel
theorem dM_look_87 : decode cM_look 87 = .ok (.goto 8, 3) := by decide +kernel
theorem dM_look_90 : decode cM_look 90 = .ok (.iload_n 2, 1) := by decide +kernel
theorem dM_look_91 : decode cM_look 91 = .ok (.sipush 256, 3) := by decide +kernel
theorem dM_look_94 : decode cM_look 94 = .ok (.irem, 1) := by decide +kernel
theorem dM_look_95 : decode cM_look 95 = .ok (.istore 9, 2) := by decide +kernel
theorem dM_look_97 : decode cM_look 97 = .ok (.iload 6, 2) := by decide +kernel
theorem dM_look_99 : decode cM_look 99 = .ok (.iconst 2, 1) := by decide +kernel
theorem dM_look_100 : decode cM_look 100 = .ok (.idiv, 1) := by decide +kernel
theorem dM_look_101 : decode cM_look 101 = .ok (.ifCond .ne 15, 3) := by decide +kernel
theorem dM_look_104 : decode cM_look 104 = .ok (.sipush 256, 3) := by decide +kernel
theorem dM_look_107 : decode cM_look 107 = .ok (.iload_n 3, 1) := by decide +kernel
theorem dM_look_108 : decode cM_look 108 = .ok (.sipush 256, 3) := by decide +kernel
theorem dM_look_111 : decode cM_look 111 = .ok (.irem, 1) := by decide +kernel
theorem dM_look_112 : decode cM_look 112 = .ok (.isub, 1) := by decide +kernel
theorem dM_look_113 : decode cM_look 113 = .ok (.goto 8, 3) := by decide +kernel
theorem dM_look_116 : decode cM_look 116 = .ok (.iload_n 3, 1) := by decide +kernel
theorem dM_look_117 : decode cM_look 117 = .ok (.sipush 256, 3) := by decide +kernel
theorem dM_look_120 : decode cM_look 120 = .ok (.irem, 1) := by decide +kernel
theorem dM_look_121 : decode cM_look 121 = .ok (.istore 10, 2) := by decide +kernel
theorem dM_look_123 : decode cM_look 123 = .ok (.iload 9, 2) := by decide +kernel
theorem dM_look_125 : decode cM_look 125 = .ok (.iload 10, 2) := by decide +kernel
theorem dM_look_127 : decode cM_look 127 = .ok (.imul, 1) := by decide +kernel
theorem dM_look_128 : decode cM_look 128 = .ok (.i2l, 1) := by decide +kernel
theorem dM_look_129 : decode cM_look 129 = .ok (.lstore 11, 2) := by decide +kernel
theorem dM_look_131 : decode cM_look 131 = .ok (.lload 4, 2) := by decide +kernel
theorem dM_look_133 : decode cM_look 133 = .ok (.lload 11, 2) := by decide +kernel
theorem dM_look_135 : decode cM_look 135 = .ok (.aload_n 0, 1) := by decide +kernel
theorem dM_look_136 : decode cM_look 136 = .ok (.getfield 13, 3) := by decide +kernel
theorem dM_look_139 : decode cM_look 139 = .ok (.bipush 64, 2) := by decide +kernel
theorem dM_look_141 : decode cM_look 141 = .ok (.iload_n 1, 1) := by decide +kernel
theorem dM_look_142 : decode cM_look 142 = .ok (.imul, 1) := by decide +kernel
theorem dM_look_143 : decode cM_look 143 = .ok (.bipush 8, 2) := by decide +kernel
theorem dM_look_145 : decode cM_look 145 = .ok (.iload 7, 2) := by decide +kernel
theorem dM_look_147 : decode cM_look 147 = .ok (.imul, 1) := by decide +kernel
theorem dM_look_148 : decode cM_look 148 = .ok (.iadd, 1) := by decide +kernel
theorem dM_look_149 : decode cM_look 149 = .ok (.iload 8, 2) := by decide +kernel
theorem dM_look_151 : decode cM_look 151 = .ok (.iadd, 1) := by decide +kernel
theorem dM_look_152 : decode cM_look 152 = .ok (.iaload, 1) := by decide +kernel
theorem dM_look_153 : decode cM_look 153 = .ok (.i2l, 1) := by decide +kernel
theorem dM_look_154 : decode cM_look 154 = .ok (.lmul, 1) := by decide +kernel
theorem dM_look_155 : decode cM_look 155 = .ok (.ladd, 1) := by decide +kernel
theorem dM_look_156 : decode cM_look 156 = .ok (.lstore 4, 2) := by decide +kernel
theorem dM_look_158 : decode cM_look 158 = .ok (.iinc 6 1, 3) := by decide +kernel
theorem dM_look_161 : decode cM_look 161 = .ok (.goto (-120), 3) := by decide +kernel
theorem dM_look_164 : decode cM_look 164 = .ok (.lload 4, 2) := by decide +kernel
theorem dM_look_166 : decode cM_look 166 = .ok (.ldc2_w 84, 3) := by decide +kernel
theorem dM_look_169 : decode cM_look 169 = .ok (.ldiv, 1) := by decide +kernel
theorem dM_look_170 : decode cM_look 170 = .ok (.l2i, 1) := by decide +kernel
theorem dM_look_171 : decode cM_look 171 = .ok (.ireturn, 1) := by decide +kernel
theorem dM_present_0 : decode cM_present 0 = .ok (.aload_n 0, 1) := by decide +kernel
theorem dM_present_1 : decode cM_present 1 = .ok (.getfield 86, 3) := by decide +kernel
theorem dM_present_4 : decode cM_present 4 = .ok (.lconst 0, 1) := by decide +kernel
theorem dM_present_5 : decode cM_present 5 = .ok (.lcmp, 1) := by decide +kernel
theorem dM_present_6 : decode cM_present 6 = .ok (.ifCond .ne 7, 3) := by decide +kernel
theorem dM_present_9 : decode cM_present 9 = .ok (.lconst 0, 1) := by decide +kernel
theorem dM_present_10 : decode cM_present 10 = .ok (.goto 11, 3) := by decide +kernel
theorem dM_present_13 : decode cM_present 13 = .ok (.ldc2_w 90, 3) := by decide +kernel
theorem dM_present_16 : decode cM_present 16 = .ok (.aload_n 0, 1) := by decide +kernel
theorem dM_present_17 : decode cM_present 17 = .ok (.getfield 86, 3) := by decide +kernel
theorem dM_present_20 : decode cM_present 20 = .ok (.ldiv, 1) := by decide +kernel
theorem dM_present_21 : decode cM_present 21 = .ok (.lstore_n 2, 1) := by decide +kernel
theorem dM_present_22 : decode cM_present 22 = .ok (.aload_n 0, 1) := by decide +kernel
theorem dM_present_23 : decode cM_present 23 = .ok (.iconst 0, 1) := by decide +kernel
theorem dM_present_24 : decode cM_present 24 = .ok (.invokevirtual 92, 3) := by decide +kernel
theorem dM_present_27 : decode cM_present 27 = .ok (.istore 4, 2) := by decide +kernel
theorem dM_present_29 : decode cM_present 29 = .ok (.aload_n 0, 1) := by decide +kernel
theorem dM_present_30 : decode cM_present 30 = .ok (.iload_n 1, 1) := by decide +kernel
theorem dM_present_31 : decode cM_present 31 = .ok (.lload_n 2, 1) := by decide +kernel
theorem dM_present_32 : decode cM_present 32 = .ok (.ldc2_w 96, 3) := by decide +kernel
theorem dM_present_35 : decode cM_present 35 = .ok (.lcmp, 1) := by decide +kernel
theorem dM_present_36 : decode cM_present 36 = .ok (.ifCond .le 9, 3) := by decide +kernel
theorem dM_present_39 : decode cM_present 39 = .ok (.sipush 1791, 3) := by decide +kernel
theorem dM_present_42 : decode cM_present 42 = .ok (.goto 5, 3) := by decide +kernel
theorem dM_present_45 : decode cM_present 45 = .ok (.lload_n 2, 1) := by decide +kernel
theorem dM_present_46 : decode cM_present 46 = .ok (.l2i, 1) := by decide +kernel
theorem dM_present_47 : decode cM_present 47 = .ok (.bipush 7, 2) := by decide +kernel
theorem dM_present_49 : decode cM_present 49 = .ok (.iload 4, 2) := by decide +kernel
theorem dM_present_51 : decode cM_present 51 = .ok (.imul, 1) := by decide +kernel
theorem dM_present_52 : decode cM_present 52 = .ok (.iconst 4, 1) := by decide +kernel
theorem dM_present_53 : decode cM_present 53 = .ok (.idiv, 1) := by decide +kernel
theorem dM_present_54 : decode cM_present 54 = .ok (.invokevirtual 98, 3) := by decide +kernel
theorem dM_present_57 : decode cM_present 57 = .ok (.ireturn, 1) := by decide +kernel
theorem dM_amount_0 : decode cM_amount 0 = .ok (.aload_n 0, 1) := by decide +kernel
theorem dM_amount_1 : decode cM_amount 1 = .ok (.iconst 1, 1) := by decide +kernel
theorem dM_amount_2 : decode cM_amount 2 = .ok (.invokevirtual 92, 3) := by decide +kernel
theorem dM_amount_5 : decode cM_amount 5 = .ok (.istore_n 1, 1) := by decide +kernel
theorem dM_amount_6 : decode cM_amount 6 = .ok (.iload_n 1, 1) := by decide +kernel
theorem dM_amount_7 : decode cM_amount 7 = .ok (.bipush 80, 2) := by decide +kernel
theorem dM_amount_9 : decode cM_amount 9 = .ok (.if_icmp .ge 10, 3) := by decide +kernel
theorem dM_amount_12 : decode cM_amount 12 = .ok (.bipush 80, 2) := by decide +kernel
theorem dM_amount_14 : decode cM_amount 14 = .ok (.iload_n 1, 1) := by decide +kernel
theorem dM_amount_15 : decode cM_amount 15 = .ok (.isub, 1) := by decide +kernel
theorem dM_amount_16 : decode cM_amount 16 = .ok (.goto 4, 3) := by decide +kernel
theorem dM_amount_19 : decode cM_amount 19 = .ok (.iconst 0, 1) := by decide +kernel
theorem dM_amount_20 : decode cM_amount 20 = .ok (.istore_n 2, 1) := by decide +kernel
theorem dM_amount_21 : decode cM_amount 21 = .ok (.aload_n 0, 1) := by decide +kernel
theorem dM_amount_22 : decode cM_amount 22 = .ok (.iconst 1, 1) := by decide +kernel
theorem dM_amount_23 : decode cM_amount 23 = .ok (.invokevirtual 101, 3) := by decide +kernel
theorem dM_amount_26 : decode cM_amount 26 = .ok (.istore_n 3, 1) := by decide +kernel
theorem dM_amount_27 : decode cM_amount 27 = .ok (.iload_n 3, 1) := by decide +kernel
theorem dM_amount_28 : decode cM_amount 28 = .ok (.bipush 100, 2) := by decide +kernel
theorem dM_amount_30 : decode cM_amount 30 = .ok (.iload_n 2, 1) := by decide +kernel
theorem dM_amount_31 : decode cM_amount 31 = .ok (.iadd, 1) := by decide +kernel
theorem dM_amount_32 : decode cM_amount 32 = .ok (.imul, 1) := by decide +kernel
theorem dM_amount_33 : decode cM_amount 33 = .ok (.bipush 100, 2) := by decide +kernel
theorem dM_amount_35 : decode cM_amount 35 = .ok (.idiv, 1) := by decide +kernel
theorem dM_amount_36 : decode cM_amount 36 = .ok (.ireturn, 1) := by decide +kernel
theorem dM_corner_0 : decode cM_corner 0 = .ok (.iload_n 0, 1) := by decide +kernel
theorem dM_corner_1 : decode cM_corner 1 = .ok (.ifCond .ne 9, 3) := by decide +kernel
theorem dM_corner_4 : decode cM_corner 4 = .ok (.sipush 140, 3) := by decide +kernel
theorem dM_corner_7 : decode cM_corner 7 = .ok (.goto 35, 3) := by decide +kernel
theorem dM_corner_10 : decode cM_corner 10 = .ok (.iload_n 0, 1) := by decide +kernel
theorem dM_corner_11 : decode cM_corner 11 = .ok (.iconst 1, 1) := by decide +kernel
theorem dM_corner_12 : decode cM_corner 12 = .ok (.if_icmp .ne 8, 3) := by decide +kernel
theorem dM_corner_15 : decode cM_corner 15 = .ok (.bipush 90, 2) := by decide +kernel
theorem dM_corner_17 : decode cM_corner 17 = .ok (.goto 25, 3) := by decide +kernel
theorem dM_corner_20 : decode cM_corner 20 = .ok (.iload_n 0, 1) := by decide +kernel
theorem dM_corner_21 : decode cM_corner 21 = .ok (.iconst 2, 1) := by decide +kernel
theorem dM_corner_22 : decode cM_corner 22 = .ok (.if_icmp .ne 8, 3) := by decide +kernel
theorem dM_corner_25 : decode cM_corner 25 = .ok (.bipush 60, 2) := by decide +kernel
theorem dM_corner_27 : decode cM_corner 27 = .ok (.goto 15, 3) := by decide +kernel
theorem dM_corner_30 : decode cM_corner 30 = .ok (.iload_n 0, 1) := by decide +kernel
theorem dM_corner_31 : decode cM_corner 31 = .ok (.iconst 3, 1) := by decide +kernel
theorem dM_corner_32 : decode cM_corner 32 = .ok (.if_icmp .ne 8, 3) := by decide +kernel
theorem dM_corner_35 : decode cM_corner 35 = .ok (.bipush 25, 2) := by decide +kernel
theorem dM_corner_37 : decode cM_corner 37 = .ok (.goto 5, 3) := by decide +kernel
theorem dM_corner_40 : decode cM_corner 40 = .ok (.bipush (-40), 2) := by decide +kernel
theorem dM_corner_42 : decode cM_corner 42 = .ok (.ireturn, 1) := by decide +kernel
theorem dM_valueOf_0 : decode cM_valueOf 0 = .ok (.aload_n 0, 1) := by decide +kernel
theorem dM_valueOf_1 : decode cM_valueOf 1 = .ok (.getfield 46, 3) := by decide +kernel
theorem dM_valueOf_4 : decode cM_valueOf 4 = .ok (.iload_n 1, 1) := by decide +kernel
theorem dM_valueOf_5 : decode cM_valueOf 5 = .ok (.iaload, 1) := by decide +kernel
theorem dM_valueOf_6 : decode cM_valueOf 6 = .ok (.iconst 3, 1) := by decide +kernel
theorem dM_valueOf_7 : decode cM_valueOf 7 = .ok (.if_icmp .lt 16, 3) := by decide +kernel
theorem dM_valueOf_10 : decode cM_valueOf 10 = .ok (.iload_n 1, 1) := by decide +kernel
theorem dM_valueOf_11 : decode cM_valueOf 11 = .ok (.ifCond .ne 9, 3) := by decide +kernel
theorem dM_valueOf_14 : decode cM_valueOf 14 = .ok (.sipush 400, 3) := by decide +kernel
theorem dM_valueOf_17 : decode cM_valueOf 17 = .ok (.goto 5, 3) := by decide +kernel
theorem dM_valueOf_20 : decode cM_valueOf 20 = .ok (.bipush 80, 2) := by decide +kernel
theorem dM_valueOf_22 : decode cM_valueOf 22 = .ok (.ireturn, 1) := by decide +kernel
theorem dM_valueOf_23 : decode cM_valueOf 23 = .ok (.aload_n 0, 1) := by decide +kernel
theorem dM_valueOf_24 : decode cM_valueOf 24 = .ok (.getfield 40, 3) := by decide +kernel
theorem dM_valueOf_27 : decode cM_valueOf 27 = .ok (.iload_n 1, 1) := by decide +kernel
theorem dM_valueOf_28 : decode cM_valueOf 28 = .ok (.baload, 1) := by decide +kernel
theorem dM_valueOf_29 : decode cM_valueOf 29 = .ok (.ifCond .ne 16, 3) := by decide +kernel
theorem dM_valueOf_32 : decode cM_valueOf 32 = .ok (.iload_n 1, 1) := by decide +kernel
theorem dM_valueOf_33 : decode cM_valueOf 33 = .ok (.ifCond .ne 9, 3) := by decide +kernel
theorem dM_valueOf_36 : decode cM_valueOf 36 = .ok (.sipush 512, 3) := by decide +kernel
theorem dM_valueOf_39 : decode cM_valueOf 39 = .ok (.goto 5, 3) := by decide +kernel
theorem dM_valueOf_42 : decode cM_valueOf 42 = .ok (.bipush 60, 2) := by decide +kernel
theorem dM_valueOf_44 : decode cM_valueOf 44 = .ok (.ireturn, 1) := by decide +kernel
theorem dM_valueOf_45 : decode cM_valueOf 45 = .ok (.aload_n 0, 1) := by decide +kernel
theorem dM_valueOf_46 : decode cM_valueOf 46 = .ok (.getfield 43, 3) := by decide +kernel
theorem dM_valueOf_49 : decode cM_valueOf 49 = .ok (.iload_n 1, 1) := by decide +kernel
theorem dM_valueOf_50 : decode cM_valueOf 50 = .ok (.iaload, 1) := by decide +kernel
theorem dM_valueOf_51 : decode cM_valueOf 51 = .ok (.istore_n 2, 1) := by decide +kernel
theorem dM_valueOf_52 : decode cM_valueOf 52 = .ok (.iload_n 1, 1) := by decide +kernel
theorem dM_valueOf_53 : decode cM_valueOf 53 = .ok (.ifCond .ne 5, 3) := by decide +kernel
theorem dM_valueOf_56 : decode cM_valueOf 56 = .ok (.iload_n 2, 1) := by decide +kernel
theorem dM_valueOf_57 : decode cM_valueOf 57 = .ok (.ireturn, 1) := by decide +kernel
theorem dM_valueOf_58 : decode cM_valueOf 58 = .ok (.iload_n 2, 1) := by decide +kernel
theorem dM_valueOf_59 : decode cM_valueOf 59 = .ok (.sipush 256, 3) := by decide +kernel
theorem dM_valueOf_62 : decode cM_valueOf 62 = .ok (.idiv, 1) := by decide +kernel
theorem dM_valueOf_63 : decode cM_valueOf 63 = .ok (.istore_n 3, 1) := by decide +kernel
theorem dM_valueOf_64 : decode cM_valueOf 64 = .ok (.iload_n 3, 1) := by decide +kernel
theorem dM_valueOf_65 : decode cM_valueOf 65 = .ok (.iconst 1, 1) := by decide +kernel
theorem dM_valueOf_66 : decode cM_valueOf 66 = .ok (.iadd, 1) := by decide +kernel
theorem dM_valueOf_67 : decode cM_valueOf 67 = .ok (.invokestatic 104, 3) := by decide +kernel
theorem dM_valueOf_70 : decode cM_valueOf 70 = .ok (.iload_n 3, 1) := by decide +kernel
theorem dM_valueOf_71 : decode cM_valueOf 71 = .ok (.invokestatic 104, 3) := by decide +kernel
theorem dM_valueOf_74 : decode cM_valueOf 74 = .ok (.isub, 1) := by decide +kernel
theorem dM_valueOf_75 : decode cM_valueOf 75 = .ok (.istore 4, 2) := by decide +kernel
theorem dM_valueOf_77 : decode cM_valueOf 77 = .ok (.iload_n 3, 1) := by decide +kernel
theorem dM_valueOf_78 : decode cM_valueOf 78 = .ok (.invokestatic 104, 3) := by decide +kernel
theorem dM_valueOf_81 : decode cM_valueOf 81 = .ok (.iload 4, 2) := by decide +kernel
theorem dM_valueOf_83 : decode cM_valueOf 83 = .ok (.iload_n 2, 1) := by decide +kernel
theorem dM_valueOf_84 : decode cM_valueOf 84 = .ok (.sipush 256, 3) := by decide +kernel
theorem dM_valueOf_87 : decode cM_valueOf 87 = .ok (.irem, 1) := by decide +kernel
theorem dM_valueOf_88 : decode cM_valueOf 88 = .ok (.imul, 1) := by decide +kernel
theorem dM_valueOf_89 : decode cM_valueOf 89 = .ok (.sipush 256, 3) := by decide +kernel
theorem dM_valueOf_92 : decode cM_valueOf 92 = .ok (.invokestatic 107, 3) := by decide +kernel
theorem dM_valueOf_95 : decode cM_valueOf 95 = .ok (.iadd, 1) := by decide +kernel
theorem dM_valueOf_96 : decode cM_valueOf 96 = .ok (.ireturn, 1) := by decide +kernel
theorem dM_value_0 : decode cM_value 0 = .ok (.iload_n 1, 1) := by decide +kernel
theorem dM_value_1 : decode cM_value 1 = .ok (.iconst 0, 1) := by decide +kernel
theorem dM_value_2 : decode cM_value 2 = .ok (.iconst 1, 1) := by decide +kernel
theorem dM_value_3 : decode cM_value 3 = .ok (.invokestatic 78, 3) := by decide +kernel
theorem dM_value_6 : decode cM_value 6 = .ok (.ifCond .eq 11, 3) := by decide +kernel
theorem dM_value_9 : decode cM_value 9 = .ok (.aload_n 0, 1) := by decide +kernel
theorem dM_value_10 : decode cM_value 10 = .ok (.iload_n 1, 1) := by decide +kernel
theorem dM_value_11 : decode cM_value 11 = .ok (.invokevirtual 92, 3) := by decide +kernel
theorem dM_value_14 : decode cM_value 14 = .ok (.goto 4, 3) := by decide +kernel
theorem dM_value_17 : decode cM_value 17 = .ok (.iconst 0, 1) := by decide +kernel
theorem dM_value_18 : decode cM_value 18 = .ok (.ireturn, 1) := by decide +kernel
theorem dM_count_0 : decode cM_count 0 = .ok (.iload_n 1, 1) := by decide +kernel
theorem dM_count_1 : decode cM_count 1 = .ok (.iconst 0, 1) := by decide +kernel
theorem dM_count_2 : decode cM_count 2 = .ok (.iconst 1, 1) := by decide +kernel
theorem dM_count_3 : decode cM_count 3 = .ok (.invokestatic 78, 3) := by decide +kernel
theorem dM_count_6 : decode cM_count 6 = .ok (.ifCond .eq 12, 3) := by decide +kernel
theorem dM_count_9 : decode cM_count 9 = .ok (.aload_n 0, 1) := by decide +kernel
theorem dM_count_10 : decode cM_count 10 = .ok (.getfield 46, 3) := by decide +kernel
theorem dM_count_13 : decode cM_count 13 = .ok (.iload_n 1, 1) := by decide +kernel
theorem dM_count_14 : decode cM_count 14 = .ok (.iaload, 1) := by decide +kernel
theorem dM_count_15 : decode cM_count 15 = .ok (.goto 4, 3) := by decide +kernel
theorem dM_count_18 : decode cM_count 18 = .ok (.iconst (-1), 1) := by decide +kernel
theorem dM_count_19 : decode cM_count 19 = .ok (.ireturn, 1) := by decide +kernel
theorem dM_sample_0 : decode cM_sample 0 = .ok (.iload_n 1, 1) := by decide +kernel
theorem dM_sample_1 : decode cM_sample 1 = .ok (.iconst 0, 1) := by decide +kernel
theorem dM_sample_2 : decode cM_sample 2 = .ok (.iconst 1, 1) := by decide +kernel
theorem dM_sample_3 : decode cM_sample 3 = .ok (.invokestatic 78, 3) := by decide +kernel
theorem dM_sample_6 : decode cM_sample 6 = .ok (.ifCond .ne 5, 3) := by decide +kernel
theorem dM_sample_9 : decode cM_sample 9 = .ok (.iconst 0, 1) := by decide +kernel
theorem dM_sample_10 : decode cM_sample 10 = .ok (.ireturn, 1) := by decide +kernel
theorem dM_sample_11 : decode cM_sample 11 = .ok (.iload_n 2, 1) := by decide +kernel
theorem dM_sample_12 : decode cM_sample 12 = .ok (.bipush 16, 2) := by decide +kernel
theorem dM_sample_14 : decode cM_sample 14 = .ok (.sipush 1007, 3) := by decide +kernel
theorem dM_sample_17 : decode cM_sample 17 = .ok (.invokestatic 78, 3) := by decide +kernel
theorem dM_sample_20 : decode cM_sample 20 = .ok (.istore_n 3, 1) := by decide +kernel
theorem dM_sample_21 : decode cM_sample 21 = .ok (.iload_n 3, 1) := by decide +kernel
theorem dM_sample_22 : decode cM_sample 22 = .ok (.ifCond .eq 47, 3) := by decide +kernel
theorem dM_sample_25 : decode cM_sample 25 = .ok (.aload_n 0, 1) := by decide +kernel
theorem dM_sample_26 : decode cM_sample 26 = .ok (.getfield 34, 3) := by decide +kernel
theorem dM_sample_29 : decode cM_sample 29 = .ok (.iload_n 1, 1) := by decide +kernel
theorem dM_sample_30 : decode cM_sample 30 = .ok (.baload, 1) := by decide +kernel
theorem dM_sample_31 : decode cM_sample 31 = .ok (.ifCond .eq 38, 3) := by decide +kernel
theorem dM_sample_34 : decode cM_sample 34 = .ok (.aload_n 0, 1) := by decide +kernel
theorem dM_sample_35 : decode cM_sample 35 = .ok (.getfield 37, 3) := by decide +kernel
theorem dM_sample_38 : decode cM_sample 38 = .ok (.iload_n 1, 1) := by decide +kernel
theorem dM_sample_39 : decode cM_sample 39 = .ok (.iaload, 1) := by decide +kernel
theorem dM_sample_40 : decode cM_sample 40 = .ok (.bipush 16, 2) := by decide +kernel
theorem dM_sample_42 : decode cM_sample 42 = .ok (.sipush 1007, 3) := by decide +kernel
theorem dM_sample_45 : decode cM_sample 45 = .ok (.invokestatic 78, 3) := by decide +kernel
theorem dM_sample_48 : decode cM_sample 48 = .ok (.ifCond .eq 21, 3) := by decide +kernel
theorem dM_sample_51 : decode cM_sample 51 = .ok (.aload_n 0, 1) := by decide +kernel
theorem dM_sample_52 : decode cM_sample 52 = .ok (.getfield 37, 3) := by decide +kernel
theorem dM_sample_55 : decode cM_sample 55 = .ok (.iload_n 1, 1) := by decide +kernel
theorem dM_sample_56 : decode cM_sample 56 = .ok (.iaload, 1) := by decide +kernel
theorem dM_sample_57 : decode cM_sample 57 = .ok (.iload_n 2, 1) := by decide +kernel
theorem dM_sample_58 : decode cM_sample 58 = .ok (.isub, 1) := by decide +kernel
theorem dM_sample_59 : decode cM_sample 59 = .ok (.sipush (-256), 3) := by decide +kernel
theorem dM_sample_62 : decode cM_sample 62 = .ok (.sipush 256, 3) := by decide +kernel
theorem dM_sample_65 : decode cM_sample 65 = .ok (.invokestatic 78, 3) := by decide +kernel
theorem dM_sample_68 : decode cM_sample 68 = .ok (.istore_n 3, 1) := by decide +kernel
theorem dM_sample_69 : decode cM_sample 69 = .ok (.aload_n 0, 1) := by decide +kernel
theorem dM_sample_70 : decode cM_sample 70 = .ok (.getfield 34, 3) := by decide +kernel
theorem dM_sample_73 : decode cM_sample 73 = .ok (.iload_n 1, 1) := by decide +kernel
theorem dM_sample_74 : decode cM_sample 74 = .ok (.iconst 1, 1) := by decide +kernel
theorem dM_sample_75 : decode cM_sample 75 = .ok (.bastore, 1) := by decide +kernel
theorem dM_sample_76 : decode cM_sample 76 = .ok (.aload_n 0, 1) := by decide +kernel
theorem dM_sample_77 : decode cM_sample 77 = .ok (.getfield 37, 3) := by decide +kernel
theorem dM_sample_80 : decode cM_sample 80 = .ok (.iload_n 1, 1) := by decide +kernel
theorem dM_sample_81 : decode cM_sample 81 = .ok (.iload_n 2, 1) := by decide +kernel
theorem dM_sample_82 : decode cM_sample 82 = .ok (.iastore, 1) := by decide +kernel
theorem dM_sample_83 : decode cM_sample 83 = .ok (.iload_n 3, 1) := by decide +kernel
theorem dM_sample_84 : decode cM_sample 84 = .ok (.ifCond .eq 46, 3) := by decide +kernel
theorem dM_sample_87 : decode cM_sample 87 = .ok (.aload_n 0, 1) := by decide +kernel
theorem dM_sample_88 : decode cM_sample 88 = .ok (.getfield 40, 3) := by decide +kernel
theorem dM_sample_91 : decode cM_sample 91 = .ok (.iload_n 1, 1) := by decide +kernel
theorem dM_sample_92 : decode cM_sample 92 = .ok (.iconst 1, 1) := by decide +kernel
theorem dM_sample_93 : decode cM_sample 93 = .ok (.bastore, 1) := by decide +kernel
theorem dM_sample_94 : decode cM_sample 94 = .ok (.aload_n 0, 1) := by decide +kernel
theorem dM_sample_95 : decode cM_sample 95 = .ok (.getfield 43, 3) := by decide +kernel
theorem dM_sample_98 : decode cM_sample 98 = .ok (.iload_n 1, 1) := by decide +kernel
theorem dM_sample_99 : decode cM_sample 99 = .ok (.iload_n 2, 1) := by decide +kernel
theorem dM_sample_100 : decode cM_sample 100 = .ok (.iastore, 1) := by decide +kernel
theorem dM_sample_101 : decode cM_sample 101 = .ok (.aload_n 0, 1) := by decide +kernel
theorem dM_sample_102 : decode cM_sample 102 = .ok (.getfield 46, 3) := by decide +kernel
theorem dM_sample_105 : decode cM_sample 105 = .ok (.iload_n 1, 1) := by decide +kernel
theorem dM_sample_106 : decode cM_sample 106 = .ok (.aload_n 0, 1) := by decide +kernel
theorem dM_sample_107 : decode cM_sample 107 = .ok (.getfield 46, 3) := by decide +kernel
theorem dM_sample_110 : decode cM_sample 110 = .ok (.iload_n 1, 1) := by decide +kernel
theorem dM_sample_111 : decode cM_sample 111 = .ok (.iaload, 1) := by decide +kernel
theorem dM_sample_112 : decode cM_sample 112 = .ok (.ifCond .ne 7, 3) := by decide +kernel
theorem dM_sample_115 : decode cM_sample 115 = .ok (.iconst 0, 1) := by decide +kernel
theorem dM_sample_116 : decode cM_sample 116 = .ok (.goto 11, 3) := by decide +kernel
theorem dM_sample_119 : decode cM_sample 119 = .ok (.aload_n 0, 1) := by decide +kernel
theorem dM_sample_120 : decode cM_sample 120 = .ok (.getfield 46, 3) := by decide +kernel
theorem dM_sample_123 : decode cM_sample 123 = .ok (.iload_n 1, 1) := by decide +kernel
theorem dM_sample_124 : decode cM_sample 124 = .ok (.iaload, 1) := by decide +kernel
theorem dM_sample_125 : decode cM_sample 125 = .ok (.iconst 1, 1) := by decide +kernel
theorem dM_sample_126 : decode cM_sample 126 = .ok (.isub, 1) := by decide +kernel
theorem dM_sample_127 : decode cM_sample 127 = .ok (.iastore, 1) := by decide +kernel
theorem dM_sample_128 : decode cM_sample 128 = .ok (.iconst 1, 1) := by decide +kernel
theorem dM_sample_129 : decode cM_sample 129 = .ok (.ireturn, 1) := by decide +kernel
theorem dM_sample_130 : decode cM_sample 130 = .ok (.aload_n 0, 1) := by decide +kernel
theorem dM_sample_131 : decode cM_sample 131 = .ok (.getfield 46, 3) := by decide +kernel
theorem dM_sample_134 : decode cM_sample 134 = .ok (.iload_n 1, 1) := by decide +kernel
theorem dM_sample_135 : decode cM_sample 135 = .ok (.iaload, 1) := by decide +kernel
theorem dM_sample_136 : decode cM_sample 136 = .ok (.iconst 2, 1) := by decide +kernel
theorem dM_sample_137 : decode cM_sample 137 = .ok (.if_icmp .ne 7, 3) := by decide +kernel
theorem dM_sample_140 : decode cM_sample 140 = .ok (.iconst 1, 1) := by decide +kernel
theorem dM_sample_141 : decode cM_sample 141 = .ok (.goto 4, 3) := by decide +kernel
theorem dM_sample_144 : decode cM_sample 144 = .ok (.iconst 0, 1) := by decide +kernel
theorem dM_sample_145 : decode cM_sample 145 = .ok (.istore 4, 2) := by decide +kernel
theorem dM_sample_147 : decode cM_sample 147 = .ok (.aload_n 0, 1) := by decide +kernel
theorem dM_sample_148 : decode cM_sample 148 = .ok (.getfield 46, 3) := by decide +kernel
theorem dM_sample_151 : decode cM_sample 151 = .ok (.iload_n 1, 1) := by decide +kernel
theorem dM_sample_152 : decode cM_sample 152 = .ok (.aload_n 0, 1) := by decide +kernel
theorem dM_sample_153 : decode cM_sample 153 = .ok (.getfield 46, 3) := by decide +kernel
theorem dM_sample_156 : decode cM_sample 156 = .ok (.iload_n 1, 1) := by decide +kernel
theorem dM_sample_157 : decode cM_sample 157 = .ok (.iaload, 1) := by decide +kernel
theorem dM_sample_158 : decode cM_sample 158 = .ok (.bipush 6, 2) := by decide +kernel
theorem dM_sample_160 : decode cM_sample 160 = .ok (.if_icmp .ne 8, 3) := by decide +kernel
theorem dM_sample_163 : decode cM_sample 163 = .ok (.bipush 6, 2) := by decide +kernel
theorem dM_sample_165 : decode cM_sample 165 = .ok (.goto 11, 3) := by decide +kernel
theorem dM_sample_168 : decode cM_sample 168 = .ok (.aload_n 0, 1) := by decide +kernel
theorem dM_sample_169 : decode cM_sample 169 = .ok (.getfield 46, 3) := by decide +kernel
theorem dM_sample_172 : decode cM_sample 172 = .ok (.iload_n 1, 1) := by decide +kernel
theorem dM_sample_173 : decode cM_sample 173 = .ok (.iaload, 1) := by decide +kernel
theorem dM_sample_174 : decode cM_sample 174 = .ok (.iconst 1, 1) := by decide +kernel
theorem dM_sample_175 : decode cM_sample 175 = .ok (.iadd, 1) := by decide +kernel
theorem dM_sample_176 : decode cM_sample 176 = .ok (.iastore, 1) := by decide +kernel
theorem dM_sample_177 : decode cM_sample 177 = .ok (.iload 4, 2) := by decide +kernel
theorem dM_sample_179 : decode cM_sample 179 = .ok (.ifCond .eq 61, 3) := by decide +kernel
theorem dM_sample_182 : decode cM_sample 182 = .ok (.aload_n 0, 1) := by decide +kernel
theorem dM_sample_183 : decode cM_sample 183 = .ok (.getfield 49, 3) := by decide +kernel
theorem dM_sample_186 : decode cM_sample 186 = .ok (.iload_n 1, 1) := by decide +kernel
theorem dM_sample_187 : decode cM_sample 187 = .ok (.baload, 1) := by decide +kernel
theorem dM_sample_188 : decode cM_sample 188 = .ok (.ifCond .ne 52, 3) := by decide +kernel
theorem dM_sample_191 : decode cM_sample 191 = .ok (.aload_n 0, 1) := by decide +kernel
theorem dM_sample_192 : decode cM_sample 192 = .ok (.getfield 49, 3) := by decide +kernel
theorem dM_sample_195 : decode cM_sample 195 = .ok (.iload_n 1, 1) := by decide +kernel
theorem dM_sample_196 : decode cM_sample 196 = .ok (.iconst 1, 1) := by decide +kernel
theorem dM_sample_197 : decode cM_sample 197 = .ok (.bastore, 1) := by decide +kernel
theorem dM_sample_198 : decode cM_sample 198 = .ok (.aload_n 0, 1) := by decide +kernel
theorem dM_sample_199 : decode cM_sample 199 = .ok (.getfield 52, 3) := by decide +kernel
theorem dM_sample_202 : decode cM_sample 202 = .ok (.iconst 3, 1) := by decide +kernel
theorem dM_sample_203 : decode cM_sample 203 = .ok (.iload_n 1, 1) := by decide +kernel
theorem dM_sample_204 : decode cM_sample 204 = .ok (.imul, 1) := by decide +kernel
theorem dM_sample_205 : decode cM_sample 205 = .ok (.aload_n 0, 1) := by decide +kernel
theorem dM_sample_206 : decode cM_sample 206 = .ok (.getfield 111, 3) := by decide +kernel
theorem dM_sample_209 : decode cM_sample 209 = .ok (.lastore, 1) := by decide +kernel
theorem dM_sample_210 : decode cM_sample 210 = .ok (.aload_n 0, 1) := by decide +kernel
theorem dM_sample_211 : decode cM_sample 211 = .ok (.getfield 52, 3) := by decide +kernel
theorem dM_sample_214 : decode cM_sample 214 = .ok (.iconst 3, 1) := by decide +kernel
theorem dM_sample_215 : decode cM_sample 215 = .ok (.iload_n 1, 1) := by decide +kernel
theorem dM_sample_216 : decode cM_sample 216 = .ok (.imul, 1) := by decide +kernel
theorem dM_sample_217 : decode cM_sample 217 = .ok (.iconst 1, 1) := by decide +kernel
theorem dM_sample_218 : decode cM_sample 218 = .ok (.iadd, 1) := by decide +kernel
theorem dM_sample_219 : decode cM_sample 219 = .ok (.aload_n 0, 1) := by decide +kernel
theorem dM_sample_220 : decode cM_sample 220 = .ok (.getfield 86, 3) := by decide +kernel
theorem dM_sample_223 : decode cM_sample 223 = .ok (.lastore, 1) := by decide +kernel
theorem dM_sample_224 : decode cM_sample 224 = .ok (.aload_n 0, 1) := by decide +kernel
theorem dM_sample_225 : decode cM_sample 225 = .ok (.getfield 52, 3) := by decide +kernel
theorem dM_sample_228 : decode cM_sample 228 = .ok (.iconst 3, 1) := by decide +kernel
theorem dM_sample_229 : decode cM_sample 229 = .ok (.iload_n 1, 1) := by decide +kernel
theorem dM_sample_230 : decode cM_sample 230 = .ok (.imul, 1) := by decide +kernel
theorem dM_sample_231 : decode cM_sample 231 = .ok (.iconst 2, 1) := by decide +kernel
theorem dM_sample_232 : decode cM_sample 232 = .ok (.iadd, 1) := by decide +kernel
theorem dM_sample_233 : decode cM_sample 233 = .ok (.aload_n 0, 1) := by decide +kernel
theorem dM_sample_234 : decode cM_sample 234 = .ok (.iconst 0, 1) := by decide +kernel
theorem dM_sample_235 : decode cM_sample 235 = .ok (.invokevirtual 92, 3) := by decide +kernel
theorem dM_sample_238 : decode cM_sample 238 = .ok (.i2l, 1) := by decide +kernel
theorem dM_sample_239 : decode cM_sample 239 = .ok (.lastore, 1) := by decide +kernel
theorem dM_sample_240 : decode cM_sample 240 = .ok (.iconst 0, 1) := by decide +kernel
theorem dM_sample_241 : decode cM_sample 241 = .ok (.ireturn, 1) := by decide +kernel
theorem dM_frame_0 : decode cM_frame 0 = .ok (.iload_n 1, 1) := by decide +kernel
theorem dM_frame_1 : decode cM_frame 1 = .ok (.iconst 0, 1) := by decide +kernel
theorem dM_frame_2 : decode cM_frame 2 = .ok (.iconst 1, 1) := by decide +kernel
theorem dM_frame_3 : decode cM_frame 3 = .ok (.invokestatic 78, 3) := by decide +kernel
theorem dM_frame_6 : decode cM_frame 6 = .ok (.ifCond .eq 34, 3) := by decide +kernel
theorem dM_frame_9 : decode cM_frame 9 = .ok (.iload_n 2, 1) := by decide +kernel
theorem dM_frame_10 : decode cM_frame 10 = .ok (.iconst 0, 1) := by decide +kernel
theorem dM_frame_11 : decode cM_frame 11 = .ok (.iconst 2, 1) := by decide +kernel
theorem dM_frame_12 : decode cM_frame 12 = .ok (.invokestatic 78, 3) := by decide +kernel
theorem dM_frame_15 : decode cM_frame 15 = .ok (.ifCond .eq 25, 3) := by decide +kernel
theorem dM_frame_18 : decode cM_frame 18 = .ok (.aload_n 0, 1) := by decide +kernel
theorem dM_frame_19 : decode cM_frame 19 = .ok (.getfield 49, 3) := by decide +kernel
theorem dM_frame_22 : decode cM_frame 22 = .ok (.iload_n 1, 1) := by decide +kernel
theorem dM_frame_23 : decode cM_frame 23 = .ok (.baload, 1) := by decide +kernel
theorem dM_frame_24 : decode cM_frame 24 = .ok (.ifCond .eq 16, 3) := by decide +kernel
theorem dM_frame_27 : decode cM_frame 27 = .ok (.aload_n 0, 1) := by decide +kernel
theorem dM_frame_28 : decode cM_frame 28 = .ok (.getfield 52, 3) := by decide +kernel
theorem dM_frame_31 : decode cM_frame 31 = .ok (.iconst 3, 1) := by decide +kernel
theorem dM_frame_32 : decode cM_frame 32 = .ok (.iload_n 1, 1) := by decide +kernel
theorem dM_frame_33 : decode cM_frame 33 = .ok (.imul, 1) := by decide +kernel
theorem dM_frame_34 : decode cM_frame 34 = .ok (.iload_n 2, 1) := by decide +kernel
theorem dM_frame_35 : decode cM_frame 35 = .ok (.iadd, 1) := by decide +kernel
theorem dM_frame_36 : decode cM_frame 36 = .ok (.laload, 1) := by decide +kernel
theorem dM_frame_37 : decode cM_frame 37 = .ok (.goto 6, 3) := by decide +kernel
theorem dM_frame_40 : decode cM_frame 40 = .ok (.ldc2_w 114, 3) := by decide +kernel
theorem dM_frame_43 : decode cM_frame 43 = .ok (.lreturn, 1) := by decide +kernel
theorem dM_clear_0 : decode cM_clear 0 = .ok (.aload_n 0, 1) := by decide +kernel
theorem dM_clear_1 : decode cM_clear 1 = .ok (.getfield 49, 3) := by decide +kernel
theorem dM_clear_4 : decode cM_clear 4 = .ok (.iconst 0, 1) := by decide +kernel
theorem dM_clear_5 : decode cM_clear 5 = .ok (.baload, 1) := by decide +kernel
theorem dM_clear_6 : decode cM_clear 6 = .ok (.ifCond .eq 7, 3) := by decide +kernel
theorem dM_clear_9 : decode cM_clear 9 = .ok (.iconst 1, 1) := by decide +kernel
theorem dM_clear_10 : decode cM_clear 10 = .ok (.goto 4, 3) := by decide +kernel
theorem dM_clear_13 : decode cM_clear 13 = .ok (.iconst 0, 1) := by decide +kernel
theorem dM_clear_14 : decode cM_clear 14 = .ok (.aload_n 0, 1) := by decide +kernel
theorem dM_clear_15 : decode cM_clear 15 = .ok (.getfield 49, 3) := by decide +kernel
theorem dM_clear_18 : decode cM_clear 18 = .ok (.iconst 1, 1) := by decide +kernel
theorem dM_clear_19 : decode cM_clear 19 = .ok (.baload, 1) := by decide +kernel
theorem dM_clear_20 : decode cM_clear 20 = .ok (.ifCond .eq 7, 3) := by decide +kernel
theorem dM_clear_23 : decode cM_clear 23 = .ok (.iconst 1, 1) := by decide +kernel
theorem dM_clear_24 : decode cM_clear 24 = .ok (.goto 4, 3) := by decide +kernel
theorem dM_clear_27 : decode cM_clear 27 = .ok (.iconst 0, 1) := by decide +kernel
theorem dM_clear_28 : decode cM_clear 28 = .ok (.iadd, 1) := by decide +kernel
theorem dM_clear_29 : decode cM_clear 29 = .ok (.istore_n 1, 1) := by decide +kernel
theorem dM_clear_30 : decode cM_clear 30 = .ok (.aload_n 0, 1) := by decide +kernel
theorem dM_clear_31 : decode cM_clear 31 = .ok (.getfield 49, 3) := by decide +kernel
theorem dM_clear_34 : decode cM_clear 34 = .ok (.iconst 0, 1) := by decide +kernel
theorem dM_clear_35 : decode cM_clear 35 = .ok (.iconst 0, 1) := by decide +kernel
theorem dM_clear_36 : decode cM_clear 36 = .ok (.bastore, 1) := by decide +kernel
theorem dM_clear_37 : decode cM_clear 37 = .ok (.aload_n 0, 1) := by decide +kernel
theorem dM_clear_38 : decode cM_clear 38 = .ok (.getfield 49, 3) := by decide +kernel
theorem dM_clear_41 : decode cM_clear 41 = .ok (.iconst 1, 1) := by decide +kernel
theorem dM_clear_42 : decode cM_clear 42 = .ok (.iconst 0, 1) := by decide +kernel
theorem dM_clear_43 : decode cM_clear 43 = .ok (.bastore, 1) := by decide +kernel
theorem dM_clear_44 : decode cM_clear 44 = .ok (.iload_n 1, 1) := by decide +kernel
theorem dM_clear_45 : decode cM_clear 45 = .ok (.ireturn, 1) := by decide +kernel
theorem dM_plan_0 : decode cM_plan 0 = .ok (.bipush 6, 2) := by decide +kernel
theorem dM_plan_2 : decode cM_plan 2 = .ok (.iload_n 1, 1) := by decide +kernel
theorem dM_plan_3 : decode cM_plan 3 = .ok (.imul, 1) := by decide +kernel
theorem dM_plan_4 : decode cM_plan 4 = .ok (.iload_n 2, 1) := by decide +kernel
theorem dM_plan_5 : decode cM_plan 5 = .ok (.iadd, 1) := by decide +kernel
theorem dM_plan_6 : decode cM_plan 6 = .ok (.istore 5, 2) := by decide +kernel
theorem dM_plan_8 : decode cM_plan 8 = .ok (.aload_n 0, 1) := by decide +kernel
theorem dM_plan_9 : decode cM_plan 9 = .ok (.getfield 17, 3) := by decide +kernel
theorem dM_plan_12 : decode cM_plan 12 = .ok (.iload 5, 2) := by decide +kernel
theorem dM_plan_14 : decode cM_plan 14 = .ok (.iconst 1, 1) := by decide +kernel
theorem dM_plan_15 : decode cM_plan 15 = .ok (.bastore, 1) := by decide +kernel
theorem dM_plan_16 : decode cM_plan 16 = .ok (.aload_n 0, 1) := by decide +kernel
theorem dM_plan_17 : decode cM_plan 17 = .ok (.getfield 21, 3) := by decide +kernel
theorem dM_plan_20 : decode cM_plan 20 = .ok (.iload 5, 2) := by decide +kernel
theorem dM_plan_22 : decode cM_plan 22 = .ok (.lload_n 3, 1) := by decide +kernel
theorem dM_plan_23 : decode cM_plan 23 = .ok (.lastore, 1) := by decide +kernel
theorem dM_plan_24 : decode cM_plan 24 = .ok (.aload_n 0, 1) := by decide +kernel
theorem dM_plan_25 : decode cM_plan 25 = .ok (.aload_n 0, 1) := by decide +kernel
theorem dM_plan_26 : decode cM_plan 26 = .ok (.getfield 116, 3) := by decide +kernel
theorem dM_plan_29 : decode cM_plan 29 = .ok (.iconst 1, 1) := by decide +kernel
theorem dM_plan_30 : decode cM_plan 30 = .ok (.iadd, 1) := by decide +kernel
theorem dM_plan_31 : decode cM_plan 31 = .ok (.putfield 116, 3) := by decide +kernel
theorem dM_plan_34 : decode cM_plan 34 = .ok (.aload_n 0, 1) := by decide +kernel
theorem dM_plan_35 : decode cM_plan 35 = .ok (.getfield 25, 3) := by decide +kernel
theorem dM_plan_38 : decode cM_plan 38 = .ok (.iload 5, 2) := by decide +kernel
theorem dM_plan_40 : decode cM_plan 40 = .ok (.aload_n 0, 1) := by decide +kernel
theorem dM_plan_41 : decode cM_plan 41 = .ok (.getfield 116, 3) := by decide +kernel
theorem dM_plan_44 : decode cM_plan 44 = .ok (.iastore, 1) := by decide +kernel
theorem dM_plan_45 : decode cM_plan 45 = .ok (.return_, 1) := by decide +kernel
theorem dM_nextEvent_0 : decode cM_nextEvent 0 = .ok (.iconst (-1), 1) := by decide +kernel
theorem dM_nextEvent_1 : decode cM_nextEvent 1 = .ok (.istore_n 1, 1) := by decide +kernel
theorem dM_nextEvent_2 : decode cM_nextEvent 2 = .ok (.iconst 0, 1) := by decide +kernel
theorem dM_nextEvent_3 : decode cM_nextEvent 3 = .ok (.istore_n 2, 1) := by decide +kernel
theorem dM_nextEvent_4 : decode cM_nextEvent 4 = .ok (.iload_n 2, 1) := by decide +kernel
theorem dM_nextEvent_5 : decode cM_nextEvent 5 = .ok (.bipush 30, 2) := by decide +kernel
theorem dM_nextEvent_7 : decode cM_nextEvent 7 = .ok (.if_icmp .ge 71, 3) := by decide +kernel
theorem dM_nextEvent_10 : decode cM_nextEvent 10 = .ok (.aload_n 0, 1) := by decide +kernel
theorem dM_nextEvent_11 : decode cM_nextEvent 11 = .ok (.getfield 17, 3) := by decide +kernel
theorem dM_nextEvent_14 : decode cM_nextEvent 14 = .ok (.iload_n 2, 1) := by decide +kernel
theorem dM_nextEvent_15 : decode cM_nextEvent 15 = .ok (.baload, 1) := by decide +kernel
theorem dM_nextEvent_16 : decode cM_nextEvent 16 = .ok (.ifCond .eq 56, 3) := by decide +kernel
theorem dM_nextEvent_19 : decode cM_nextEvent 19 = .ok (.iload_n 1, 1) := by decide +kernel
theorem dM_nextEvent_20 : decode cM_nextEvent 20 = .ok (.ifCond .lt 50, 3) := by decide +kernel
theorem dM_nextEvent_23 : decode cM_nextEvent 23 = .ok (.aload_n 0, 1) := by decide +kernel
theorem dM_nextEvent_24 : decode cM_nextEvent 24 = .ok (.getfield 21, 3) := by decide +kernel
theorem dM_nextEvent_27 : decode cM_nextEvent 27 = .ok (.iload_n 2, 1) := by decide +kernel
theorem dM_nextEvent_28 : decode cM_nextEvent 28 = .ok (.laload, 1) := by decide +kernel
theorem dM_nextEvent_29 : decode cM_nextEvent 29 = .ok (.aload_n 0, 1) := by decide +kernel
theorem dM_nextEvent_30 : decode cM_nextEvent 30 = .ok (.getfield 21, 3) := by decide +kernel
theorem dM_nextEvent_33 : decode cM_nextEvent 33 = .ok (.iload_n 1, 1) := by decide +kernel
theorem dM_nextEvent_34 : decode cM_nextEvent 34 = .ok (.laload, 1) := by decide +kernel
theorem dM_nextEvent_35 : decode cM_nextEvent 35 = .ok (.lcmp, 1) := by decide +kernel
theorem dM_nextEvent_36 : decode cM_nextEvent 36 = .ok (.ifCond .lt 34, 3) := by decide +kernel
theorem dM_nextEvent_39 : decode cM_nextEvent 39 = .ok (.aload_n 0, 1) := by decide +kernel
theorem dM_nextEvent_40 : decode cM_nextEvent 40 = .ok (.getfield 21, 3) := by decide +kernel
theorem dM_nextEvent_43 : decode cM_nextEvent 43 = .ok (.iload_n 2, 1) := by decide +kernel
theorem dM_nextEvent_44 : decode cM_nextEvent 44 = .ok (.laload, 1) := by decide +kernel
theorem dM_nextEvent_45 : decode cM_nextEvent 45 = .ok (.aload_n 0, 1) := by decide +kernel
theorem dM_nextEvent_46 : decode cM_nextEvent 46 = .ok (.getfield 21, 3) := by decide +kernel
theorem dM_nextEvent_49 : decode cM_nextEvent 49 = .ok (.iload_n 1, 1) := by decide +kernel
theorem dM_nextEvent_50 : decode cM_nextEvent 50 = .ok (.laload, 1) := by decide +kernel
theorem dM_nextEvent_51 : decode cM_nextEvent 51 = .ok (.lcmp, 1) := by decide +kernel
theorem dM_nextEvent_52 : decode cM_nextEvent 52 = .ok (.ifCond .ne 20, 3) := by decide +kernel
theorem dM_nextEvent_55 : decode cM_nextEvent 55 = .ok (.aload_n 0, 1) := by decide +kernel
theorem dM_nextEvent_56 : decode cM_nextEvent 56 = .ok (.getfield 25, 3) := by decide +kernel
theorem dM_nextEvent_59 : decode cM_nextEvent 59 = .ok (.iload_n 2, 1) := by decide +kernel
theorem dM_nextEvent_60 : decode cM_nextEvent 60 = .ok (.iaload, 1) := by decide +kernel
theorem dM_nextEvent_61 : decode cM_nextEvent 61 = .ok (.aload_n 0, 1) := by decide +kernel
theorem dM_nextEvent_62 : decode cM_nextEvent 62 = .ok (.getfield 25, 3) := by decide +kernel
theorem dM_nextEvent_65 : decode cM_nextEvent 65 = .ok (.iload_n 1, 1) := by decide +kernel
theorem dM_nextEvent_66 : decode cM_nextEvent 66 = .ok (.iaload, 1) := by decide +kernel
theorem dM_nextEvent_67 : decode cM_nextEvent 67 = .ok (.if_icmp .ge 5, 3) := by decide +kernel
theorem dM_nextEvent_70 : decode cM_nextEvent 70 = .ok (.iload_n 2, 1) := by decide +kernel
theorem dM_nextEvent_71 : decode cM_nextEvent 71 = .ok (.istore_n 1, 1) := by decide +kernel
theorem dM_nextEvent_72 : decode cM_nextEvent 72 = .ok (.iinc 2 1, 3) := by decide +kernel
theorem dM_nextEvent_75 : decode cM_nextEvent 75 = .ok (.goto (-71), 3) := by decide +kernel
theorem dM_nextEvent_78 : decode cM_nextEvent 78 = .ok (.iload_n 1, 1) := by decide +kernel
theorem dM_nextEvent_79 : decode cM_nextEvent 79 = .ok (.ireturn, 1) := by decide +kernel
theorem dM_switched_0 : decode cM_switched 0 = .ok (.bipush 15, 2) := by decide +kernel
theorem dM_switched_2 : decode cM_switched 2 = .ok (.istore 4, 2) := by decide +kernel
theorem dM_switched_4 : decode cM_switched 4 = .ok (.iload 4, 2) := by decide +kernel
theorem dM_switched_6 : decode cM_switched 6 = .ok (.ifCond .le 25, 3) := by decide +kernel
theorem dM_switched_9 : decode cM_switched 9 = .ok (.aload_n 0, 1) := by decide +kernel
theorem dM_switched_10 : decode cM_switched 10 = .ok (.getfield 55, 3) := by decide +kernel
theorem dM_switched_13 : decode cM_switched 13 = .ok (.iload 4, 2) := by decide +kernel
theorem dM_switched_15 : decode cM_switched 15 = .ok (.aload_n 0, 1) := by decide +kernel
theorem dM_switched_16 : decode cM_switched 16 = .ok (.getfield 55, 3) := by decide +kernel
theorem dM_switched_19 : decode cM_switched 19 = .ok (.iload 4, 2) := by decide +kernel
theorem dM_switched_21 : decode cM_switched 21 = .ok (.iconst 1, 1) := by decide +kernel
theorem dM_switched_22 : decode cM_switched 22 = .ok (.isub, 1) := by decide +kernel
theorem dM_switched_23 : decode cM_switched 23 = .ok (.laload, 1) := by decide +kernel
theorem dM_switched_24 : decode cM_switched 24 = .ok (.lastore, 1) := by decide +kernel
theorem dM_switched_25 : decode cM_switched 25 = .ok (.iinc 4 (-1), 3) := by decide +kernel
theorem dM_switched_28 : decode cM_switched 28 = .ok (.goto (-24), 3) := by decide +kernel
theorem dM_switched_31 : decode cM_switched 31 = .ok (.aload_n 0, 1) := by decide +kernel
theorem dM_switched_32 : decode cM_switched 32 = .ok (.getfield 55, 3) := by decide +kernel
theorem dM_switched_35 : decode cM_switched 35 = .ok (.iconst 0, 1) := by decide +kernel
theorem dM_switched_36 : decode cM_switched 36 = .ok (.aload_n 0, 1) := by decide +kernel
theorem dM_switched_37 : decode cM_switched 37 = .ok (.getfield 111, 3) := by decide +kernel
theorem dM_switched_40 : decode cM_switched 40 = .ok (.ldc2_w 119, 3) := by decide +kernel
theorem dM_switched_43 : decode cM_switched 43 = .ok (.lmul, 1) := by decide +kernel
theorem dM_switched_44 : decode cM_switched 44 = .ok (.iload_n 1, 1) := by decide +kernel
theorem dM_switched_45 : decode cM_switched 45 = .ok (.ifCond .eq 8, 3) := by decide +kernel
theorem dM_switched_48 : decode cM_switched 48 = .ok (.bipush 16, 2) := by decide +kernel
theorem dM_switched_50 : decode cM_switched 50 = .ok (.goto 4, 3) := by decide +kernel
theorem dM_switched_53 : decode cM_switched 53 = .ok (.iconst 0, 1) := by decide +kernel
theorem dM_switched_54 : decode cM_switched 54 = .ok (.i2l, 1) := by decide +kernel
theorem dM_switched_55 : decode cM_switched 55 = .ok (.ladd, 1) := by decide +kernel
theorem dM_switched_56 : decode cM_switched 56 = .ok (.iconst 2, 1) := by decide +kernel
theorem dM_switched_57 : decode cM_switched 57 = .ok (.iload_n 2, 1) := by decide +kernel
theorem dM_switched_58 : decode cM_switched 58 = .ok (.imul, 1) := by decide +kernel
theorem dM_switched_59 : decode cM_switched 59 = .ok (.i2l, 1) := by decide +kernel
theorem dM_switched_60 : decode cM_switched 60 = .ok (.ladd, 1) := by decide +kernel
theorem dM_switched_61 : decode cM_switched 61 = .ok (.iload_n 3, 1) := by decide +kernel
theorem dM_switched_62 : decode cM_switched 62 = .ok (.ifCond .eq 7, 3) := by decide +kernel
theorem dM_switched_65 : decode cM_switched 65 = .ok (.iconst 1, 1) := by decide +kernel
theorem dM_switched_66 : decode cM_switched 66 = .ok (.goto 4, 3) := by decide +kernel
theorem dM_switched_69 : decode cM_switched 69 = .ok (.iconst 0, 1) := by decide +kernel
theorem dM_switched_70 : decode cM_switched 70 = .ok (.i2l, 1) := by decide +kernel
theorem dM_switched_71 : decode cM_switched 71 = .ok (.ladd, 1) := by decide +kernel
theorem dM_switched_72 : decode cM_switched 72 = .ok (.lastore, 1) := by decide +kernel
theorem dM_switched_73 : decode cM_switched 73 = .ok (.aload_n 0, 1) := by decide +kernel
theorem dM_switched_74 : decode cM_switched 74 = .ok (.aload_n 0, 1) := by decide +kernel
theorem dM_switched_75 : decode cM_switched 75 = .ok (.getfield 121, 3) := by decide +kernel
theorem dM_switched_78 : decode cM_switched 78 = .ok (.iconst 1, 1) := by decide +kernel
theorem dM_switched_79 : decode cM_switched 79 = .ok (.iadd, 1) := by decide +kernel
theorem dM_switched_80 : decode cM_switched 80 = .ok (.putfield 121, 3) := by decide +kernel
theorem dM_switched_83 : decode cM_switched 83 = .ok (.iload_n 1, 1) := by decide +kernel
theorem dM_switched_84 : decode cM_switched 84 = .ok (.ifCond .eq 13, 3) := by decide +kernel
theorem dM_switched_87 : decode cM_switched 87 = .ok (.aload_n 0, 1) := by decide +kernel
theorem dM_switched_88 : decode cM_switched 88 = .ok (.getfield 31, 3) := by decide +kernel
theorem dM_switched_91 : decode cM_switched 91 = .ok (.iload_n 2, 1) := by decide +kernel
theorem dM_switched_92 : decode cM_switched 92 = .ok (.iload_n 3, 1) := by decide +kernel
theorem dM_switched_93 : decode cM_switched 93 = .ok (.bastore, 1) := by decide +kernel
theorem dM_switched_94 : decode cM_switched 94 = .ok (.goto 10, 3) := by decide +kernel
theorem dM_switched_97 : decode cM_switched 97 = .ok (.aload_n 0, 1) := by decide +kernel
theorem dM_switched_98 : decode cM_switched 98 = .ok (.getfield 28, 3) := by decide +kernel
theorem dM_switched_101 : decode cM_switched 101 = .ok (.iload_n 2, 1) := by decide +kernel
theorem dM_switched_102 : decode cM_switched 102 = .ok (.iload_n 3, 1) := by decide +kernel
theorem dM_switched_103 : decode cM_switched 103 = .ok (.bastore, 1) := by decide +kernel
theorem dM_switched_104 : decode cM_switched 104 = .ok (.return_, 1) := by decide +kernel
theorem dM_fire_0 : decode cM_fire 0 = .ok (.iload_n 1, 1) := by decide +kernel
theorem dM_fire_1 : decode cM_fire 1 = .ok (.bipush 6, 2) := by decide +kernel
theorem dM_fire_3 : decode cM_fire 3 = .ok (.idiv, 1) := by decide +kernel
theorem dM_fire_4 : decode cM_fire 4 = .ok (.istore_n 2, 1) := by decide +kernel
theorem dM_fire_5 : decode cM_fire 5 = .ok (.iload_n 1, 1) := by decide +kernel
theorem dM_fire_6 : decode cM_fire 6 = .ok (.bipush 6, 2) := by decide +kernel
theorem dM_fire_8 : decode cM_fire 8 = .ok (.irem, 1) := by decide +kernel
theorem dM_fire_9 : decode cM_fire 9 = .ok (.istore_n 3, 1) := by decide +kernel
theorem dM_fire_10 : decode cM_fire 10 = .ok (.aload_n 0, 1) := by decide +kernel
theorem dM_fire_11 : decode cM_fire 11 = .ok (.getfield 17, 3) := by decide +kernel
theorem dM_fire_14 : decode cM_fire 14 = .ok (.iload_n 1, 1) := by decide +kernel
theorem dM_fire_15 : decode cM_fire 15 = .ok (.iconst 0, 1) := by decide +kernel
theorem dM_fire_16 : decode cM_fire 16 = .ok (.bastore, 1) := by decide +kernel
theorem dM_fire_17 : decode cM_fire 17 = .ok (.iload_n 2, 1) := by decide +kernel
theorem dM_fire_18 : decode cM_fire 18 = .ok (.ifCond .ne 35, 3) := by decide +kernel
theorem dM_fire_21 : decode cM_fire 21 = .ok (.aload_n 0, 1) := by decide +kernel
theorem dM_fire_22 : decode cM_fire 22 = .ok (.getfield 28, 3) := by decide +kernel
theorem dM_fire_25 : decode cM_fire 25 = .ok (.iload_n 3, 1) := by decide +kernel
theorem dM_fire_26 : decode cM_fire 26 = .ok (.baload, 1) := by decide +kernel
theorem dM_fire_27 : decode cM_fire 27 = .ok (.ifCond .ne 26, 3) := by decide +kernel
theorem dM_fire_30 : decode cM_fire 30 = .ok (.aload_n 0, 1) := by decide +kernel
theorem dM_fire_31 : decode cM_fire 31 = .ok (.iconst 0, 1) := by decide +kernel
theorem dM_fire_32 : decode cM_fire 32 = .ok (.iload_n 3, 1) := by decide +kernel
theorem dM_fire_33 : decode cM_fire 33 = .ok (.iconst 1, 1) := by decide +kernel
theorem dM_fire_34 : decode cM_fire 34 = .ok (.invokevirtual 124, 3) := by decide +kernel
theorem dM_fire_37 : decode cM_fire 37 = .ok (.aload_n 0, 1) := by decide +kernel
theorem dM_fire_38 : decode cM_fire 38 = .ok (.iconst 2, 1) := by decide +kernel
theorem dM_fire_39 : decode cM_fire 39 = .ok (.iload_n 3, 1) := by decide +kernel
theorem dM_fire_40 : decode cM_fire 40 = .ok (.aload_n 0, 1) := by decide +kernel
theorem dM_fire_41 : decode cM_fire 41 = .ok (.getfield 111, 3) := by decide +kernel
theorem dM_fire_44 : decode cM_fire 44 = .ok (.aload_n 0, 1) := by decide +kernel
theorem dM_fire_45 : decode cM_fire 45 = .ok (.getfield 75, 3) := by decide +kernel
theorem dM_fire_48 : decode cM_fire 48 = .ok (.i2l, 1) := by decide +kernel
theorem dM_fire_49 : decode cM_fire 49 = .ok (.ladd, 1) := by decide +kernel
theorem dM_fire_50 : decode cM_fire 50 = .ok (.invokevirtual 128, 3) := by decide +kernel
theorem dM_fire_53 : decode cM_fire 53 = .ok (.iload_n 2, 1) := by decide +kernel
theorem dM_fire_54 : decode cM_fire 54 = .ok (.iconst 1, 1) := by decide +kernel
theorem dM_fire_55 : decode cM_fire 55 = .ok (.if_icmp .ne 39, 3) := by decide +kernel
theorem dM_fire_58 : decode cM_fire 58 = .ok (.aload_n 0, 1) := by decide +kernel
theorem dM_fire_59 : decode cM_fire 59 = .ok (.getfield 28, 3) := by decide +kernel
theorem dM_fire_62 : decode cM_fire 62 = .ok (.iload_n 3, 1) := by decide +kernel
theorem dM_fire_63 : decode cM_fire 63 = .ok (.baload, 1) := by decide +kernel
theorem dM_fire_64 : decode cM_fire 64 = .ok (.ifCond .eq 30, 3) := by decide +kernel
theorem dM_fire_67 : decode cM_fire 67 = .ok (.aload_n 0, 1) := by decide +kernel
theorem dM_fire_68 : decode cM_fire 68 = .ok (.iconst 0, 1) := by decide +kernel
theorem dM_fire_69 : decode cM_fire 69 = .ok (.iload_n 3, 1) := by decide +kernel
theorem dM_fire_70 : decode cM_fire 70 = .ok (.iconst 0, 1) := by decide +kernel
theorem dM_fire_71 : decode cM_fire 71 = .ok (.invokevirtual 124, 3) := by decide +kernel
theorem dM_fire_74 : decode cM_fire 74 = .ok (.aload_n 0, 1) := by decide +kernel
theorem dM_fire_75 : decode cM_fire 75 = .ok (.aload_n 0, 1) := by decide +kernel
theorem dM_fire_76 : decode cM_fire 76 = .ok (.getfield 132, 3) := by decide +kernel
theorem dM_fire_79 : decode cM_fire 79 = .ok (.iconst 1, 1) := by decide +kernel
theorem dM_fire_80 : decode cM_fire 80 = .ok (.iadd, 1) := by decide +kernel
theorem dM_fire_81 : decode cM_fire 81 = .ok (.putfield 132, 3) := by decide +kernel
theorem dM_fire_84 : decode cM_fire 84 = .ok (.aload_n 0, 1) := by decide +kernel
theorem dM_fire_85 : decode cM_fire 85 = .ok (.getfield 17, 3) := by decide +kernel
theorem dM_fire_88 : decode cM_fire 88 = .ok (.bipush 12, 2) := by decide +kernel
theorem dM_fire_90 : decode cM_fire 90 = .ok (.iload_n 3, 1) := by decide +kernel
theorem dM_fire_91 : decode cM_fire 91 = .ok (.iadd, 1) := by decide +kernel
theorem dM_fire_92 : decode cM_fire 92 = .ok (.iconst 0, 1) := by decide +kernel
theorem dM_fire_93 : decode cM_fire 93 = .ok (.bastore, 1) := by decide +kernel
theorem dM_fire_94 : decode cM_fire 94 = .ok (.iload_n 2, 1) := by decide +kernel
theorem dM_fire_95 : decode cM_fire 95 = .ok (.iconst 2, 1) := by decide +kernel
theorem dM_fire_96 : decode cM_fire 96 = .ok (.if_icmp .ne 20, 3) := by decide +kernel
theorem dM_fire_99 : decode cM_fire 99 = .ok (.aload_n 0, 1) := by decide +kernel
theorem dM_fire_100 : decode cM_fire 100 = .ok (.iconst 0, 1) := by decide +kernel
theorem dM_fire_101 : decode cM_fire 101 = .ok (.iload_n 3, 1) := by decide +kernel
theorem dM_fire_102 : decode cM_fire 102 = .ok (.iconst 0, 1) := by decide +kernel
theorem dM_fire_103 : decode cM_fire 103 = .ok (.invokevirtual 124, 3) := by decide +kernel
theorem dM_fire_106 : decode cM_fire 106 = .ok (.aload_n 0, 1) := by decide +kernel
theorem dM_fire_107 : decode cM_fire 107 = .ok (.aload_n 0, 1) := by decide +kernel
theorem dM_fire_108 : decode cM_fire 108 = .ok (.getfield 135, 3) := by decide +kernel
theorem dM_fire_111 : decode cM_fire 111 = .ok (.iconst 1, 1) := by decide +kernel
theorem dM_fire_112 : decode cM_fire 112 = .ok (.iadd, 1) := by decide +kernel
theorem dM_fire_113 : decode cM_fire 113 = .ok (.putfield 135, 3) := by decide +kernel
theorem dM_fire_116 : decode cM_fire 116 = .ok (.iload_n 2, 1) := by decide +kernel
theorem dM_fire_117 : decode cM_fire 117 = .ok (.iconst 3, 1) := by decide +kernel
theorem dM_fire_118 : decode cM_fire 118 = .ok (.if_icmp .ne 44, 3) := by decide +kernel
theorem dM_fire_121 : decode cM_fire 121 = .ok (.aload_n 0, 1) := by decide +kernel
theorem dM_fire_122 : decode cM_fire 122 = .ok (.getfield 31, 3) := by decide +kernel
theorem dM_fire_125 : decode cM_fire 125 = .ok (.iload_n 3, 1) := by decide +kernel
theorem dM_fire_126 : decode cM_fire 126 = .ok (.baload, 1) := by decide +kernel
theorem dM_fire_127 : decode cM_fire 127 = .ok (.ifCond .ne 35, 3) := by decide +kernel
theorem dM_fire_130 : decode cM_fire 130 = .ok (.aload_n 0, 1) := by decide +kernel
theorem dM_fire_131 : decode cM_fire 131 = .ok (.invokevirtual 138, 3) := by decide +kernel
theorem dM_fire_134 : decode cM_fire 134 = .ok (.istore 4, 2) := by decide +kernel
theorem dM_fire_136 : decode cM_fire 136 = .ok (.iload 4, 2) := by decide +kernel
theorem dM_fire_138 : decode cM_fire 138 = .ok (.ifCond .eq 24, 3) := by decide +kernel
theorem dM_fire_141 : decode cM_fire 141 = .ok (.aload_n 0, 1) := by decide +kernel
theorem dM_fire_142 : decode cM_fire 142 = .ok (.iconst 1, 1) := by decide +kernel
theorem dM_fire_143 : decode cM_fire 143 = .ok (.iload_n 3, 1) := by decide +kernel
theorem dM_fire_144 : decode cM_fire 144 = .ok (.iconst 1, 1) := by decide +kernel
theorem dM_fire_145 : decode cM_fire 145 = .ok (.invokevirtual 124, 3) := by decide +kernel
theorem dM_fire_148 : decode cM_fire 148 = .ok (.aload_n 0, 1) := by decide +kernel
theorem dM_fire_149 : decode cM_fire 149 = .ok (.iconst 4, 1) := by decide +kernel
theorem dM_fire_150 : decode cM_fire 150 = .ok (.iload_n 3, 1) := by decide +kernel
theorem dM_fire_151 : decode cM_fire 151 = .ok (.aload_n 0, 1) := by decide +kernel
theorem dM_fire_152 : decode cM_fire 152 = .ok (.getfield 111, 3) := by decide +kernel
theorem dM_fire_155 : decode cM_fire 155 = .ok (.iload 4, 2) := by decide +kernel
theorem dM_fire_157 : decode cM_fire 157 = .ok (.i2l, 1) := by decide +kernel
theorem dM_fire_158 : decode cM_fire 158 = .ok (.ladd, 1) := by decide +kernel
theorem dM_fire_159 : decode cM_fire 159 = .ok (.invokevirtual 128, 3) := by decide +kernel
theorem dM_fire_162 : decode cM_fire 162 = .ok (.iload_n 2, 1) := by decide +kernel
theorem dM_fire_163 : decode cM_fire 163 = .ok (.iconst 4, 1) := by decide +kernel
theorem dM_fire_164 : decode cM_fire 164 = .ok (.if_icmp .ne 10, 3) := by decide +kernel
theorem dM_fire_167 : decode cM_fire 167 = .ok (.aload_n 0, 1) := by decide +kernel
theorem dM_fire_168 : decode cM_fire 168 = .ok (.iconst 1, 1) := by decide +kernel
theorem dM_fire_169 : decode cM_fire 169 = .ok (.iload_n 3, 1) := by decide +kernel
theorem dM_fire_170 : decode cM_fire 170 = .ok (.iconst 0, 1) := by decide +kernel
theorem dM_fire_171 : decode cM_fire 171 = .ok (.invokevirtual 124, 3) := by decide +kernel
theorem dM_fire_174 : decode cM_fire 174 = .ok (.return_, 1) := by decide +kernel
theorem dM_advance_0 : decode cM_advance 0 = .ok (.iconst 1, 1) := by decide +kernel
theorem dM_advance_1 : decode cM_advance 1 = .ok (.istore_n 3, 1) := by decide +kernel
theorem dM_advance_2 : decode cM_advance 2 = .ok (.iconst 0, 1) := by decide +kernel
theorem dM_advance_3 : decode cM_advance 3 = .ok (.istore 4, 2) := by decide +kernel
theorem dM_advance_5 : decode cM_advance 5 = .ok (.iload 4, 2) := by decide +kernel
theorem dM_advance_7 : decode cM_advance 7 = .ok (.sipush 1000, 3) := by decide +kernel
theorem dM_advance_10 : decode cM_advance 10 = .ok (.if_icmp .ge 144, 3) := by decide +kernel
theorem dM_advance_13 : decode cM_advance 13 = .ok (.iload_n 3, 1) := by decide +kernel
theorem dM_advance_14 : decode cM_advance 14 = .ok (.ifCond .eq 140, 3) := by decide +kernel
theorem dM_advance_17 : decode cM_advance 17 = .ok (.aload_n 0, 1) := by decide +kernel
theorem dM_advance_18 : decode cM_advance 18 = .ok (.invokevirtual 142, 3) := by decide +kernel
theorem dM_advance_21 : decode cM_advance 21 = .ok (.istore 5, 2) := by decide +kernel
theorem dM_advance_23 : decode cM_advance 23 = .ok (.aload_n 0, 1) := by decide +kernel
theorem dM_advance_24 : decode cM_advance 24 = .ok (.getfield 86, 3) := by decide +kernel
theorem dM_advance_27 : decode cM_advance 27 = .ok (.lconst 0, 1) := by decide +kernel
theorem dM_advance_28 : decode cM_advance 28 = .ok (.lcmp, 1) := by decide +kernel
theorem dM_advance_29 : decode cM_advance 29 = .ok (.ifCond .le 25, 3) := by decide +kernel
theorem dM_advance_32 : decode cM_advance 32 = .ok (.aload_n 0, 1) := by decide +kernel
theorem dM_advance_33 : decode cM_advance 33 = .ok (.getfield 145, 3) := by decide +kernel
theorem dM_advance_36 : decode cM_advance 36 = .ok (.ldc2_w 148, 3) := by decide +kernel
theorem dM_advance_39 : decode cM_advance 39 = .ok (.aload_n 0, 1) := by decide +kernel
theorem dM_advance_40 : decode cM_advance 40 = .ok (.getfield 86, 3) := by decide +kernel
theorem dM_advance_43 : decode cM_advance 43 = .ok (.lmul, 1) := by decide +kernel
theorem dM_advance_44 : decode cM_advance 44 = .ok (.ladd, 1) := by decide +kernel
theorem dM_advance_45 : decode cM_advance 45 = .ok (.lload_n 1, 1) := by decide +kernel
theorem dM_advance_46 : decode cM_advance 46 = .ok (.lcmp, 1) := by decide +kernel
theorem dM_advance_47 : decode cM_advance 47 = .ok (.ifCond .gt 7, 3) := by decide +kernel
theorem dM_advance_50 : decode cM_advance 50 = .ok (.iconst 1, 1) := by decide +kernel
theorem dM_advance_51 : decode cM_advance 51 = .ok (.goto 4, 3) := by decide +kernel
theorem dM_advance_54 : decode cM_advance 54 = .ok (.iconst 0, 1) := by decide +kernel
theorem dM_advance_55 : decode cM_advance 55 = .ok (.istore 6, 2) := by decide +kernel
theorem dM_advance_57 : decode cM_advance 57 = .ok (.aload_n 0, 1) := by decide +kernel
theorem dM_advance_58 : decode cM_advance 58 = .ok (.getfield 145, 3) := by decide +kernel
theorem dM_advance_61 : decode cM_advance 61 = .ok (.ldc2_w 148, 3) := by decide +kernel
theorem dM_advance_64 : decode cM_advance 64 = .ok (.aload_n 0, 1) := by decide +kernel
theorem dM_advance_65 : decode cM_advance 65 = .ok (.getfield 86, 3) := by decide +kernel
theorem dM_advance_68 : decode cM_advance 68 = .ok (.lmul, 1) := by decide +kernel
theorem dM_advance_69 : decode cM_advance 69 = .ok (.ladd, 1) := by decide +kernel
theorem dM_advance_70 : decode cM_advance 70 = .ok (.lstore 7, 2) := by decide +kernel
theorem dM_advance_72 : decode cM_advance 72 = .ok (.iload 5, 2) := by decide +kernel
theorem dM_advance_74 : decode cM_advance 74 = .ok (.ifCond .lt 53, 3) := by decide +kernel
theorem dM_advance_77 : decode cM_advance 77 = .ok (.aload_n 0, 1) := by decide +kernel
theorem dM_advance_78 : decode cM_advance 78 = .ok (.getfield 21, 3) := by decide +kernel
theorem dM_advance_81 : decode cM_advance 81 = .ok (.iload 5, 2) := by decide +kernel
theorem dM_advance_83 : decode cM_advance 83 = .ok (.laload, 1) := by decide +kernel
theorem dM_advance_84 : decode cM_advance 84 = .ok (.lload_n 1, 1) := by decide +kernel
theorem dM_advance_85 : decode cM_advance 85 = .ok (.lcmp, 1) := by decide +kernel
theorem dM_advance_86 : decode cM_advance 86 = .ok (.ifCond .gt 41, 3) := by decide +kernel
theorem dM_advance_89 : decode cM_advance 89 = .ok (.iload 6, 2) := by decide +kernel
theorem dM_advance_91 : decode cM_advance 91 = .ok (.ifCond .eq 16, 3) := by decide +kernel
theorem dM_advance_94 : decode cM_advance 94 = .ok (.aload_n 0, 1) := by decide +kernel
theorem dM_advance_95 : decode cM_advance 95 = .ok (.getfield 21, 3) := by decide +kernel
theorem dM_advance_98 : decode cM_advance 98 = .ok (.iload 5, 2) := by decide +kernel
theorem dM_advance_100 : decode cM_advance 100 = .ok (.laload, 1) := by decide +kernel
theorem dM_advance_101 : decode cM_advance 101 = .ok (.lload 7, 2) := by decide +kernel
theorem dM_advance_103 : decode cM_advance 103 = .ok (.lcmp, 1) := by decide +kernel
theorem dM_advance_104 : decode cM_advance 104 = .ok (.ifCond .gt 23, 3) := by decide +kernel
theorem dM_advance_107 : decode cM_advance 107 = .ok (.aload_n 0, 1) := by decide +kernel
theorem dM_advance_108 : decode cM_advance 108 = .ok (.aload_n 0, 1) := by decide +kernel
theorem dM_advance_109 : decode cM_advance 109 = .ok (.getfield 21, 3) := by decide +kernel
theorem dM_advance_112 : decode cM_advance 112 = .ok (.iload 5, 2) := by decide +kernel
theorem dM_advance_114 : decode cM_advance 114 = .ok (.laload, 1) := by decide +kernel
theorem dM_advance_115 : decode cM_advance 115 = .ok (.putfield 111, 3) := by decide +kernel
theorem dM_advance_118 : decode cM_advance 118 = .ok (.aload_n 0, 1) := by decide +kernel
theorem dM_advance_119 : decode cM_advance 119 = .ok (.iload 5, 2) := by decide +kernel
theorem dM_advance_121 : decode cM_advance 121 = .ok (.invokevirtual 150, 3) := by decide +kernel
theorem dM_advance_124 : decode cM_advance 124 = .ok (.goto 24, 3) := by decide +kernel
theorem dM_advance_127 : decode cM_advance 127 = .ok (.iload 6, 2) := by decide +kernel
theorem dM_advance_129 : decode cM_advance 129 = .ok (.ifCond .eq 17, 3) := by decide +kernel
theorem dM_advance_132 : decode cM_advance 132 = .ok (.aload_n 0, 1) := by decide +kernel
theorem dM_advance_133 : decode cM_advance 133 = .ok (.lload 7, 2) := by decide +kernel
theorem dM_advance_135 : decode cM_advance 135 = .ok (.putfield 111, 3) := by decide +kernel
theorem dM_advance_138 : decode cM_advance 138 = .ok (.aload_n 0, 1) := by decide +kernel
theorem dM_advance_139 : decode cM_advance 139 = .ok (.iconst 0, 1) := by decide +kernel
theorem dM_advance_140 : decode cM_advance 140 = .ok (.invokevirtual 154, 3) := by decide +kernel
theorem dM_advance_143 : decode cM_advance 143 = .ok (.goto 5, 3) := by decide +kernel
theorem dM_advance_146 : decode cM_advance 146 = .ok (.iconst 0, 1) := by decide +kernel
theorem dM_advance_147 : decode cM_advance 147 = .ok (.istore_n 3, 1) := by decide +kernel
theorem dM_advance_148 : decode cM_advance 148 = .ok (.iinc 4 1, 3) := by decide +kernel
theorem dM_advance_151 : decode cM_advance 151 = .ok (.goto (-146), 3) := by decide +kernel
theorem dM_advance_154 : decode cM_advance 154 = .ok (.aload_n 0, 1) := by decide +kernel
theorem dM_advance_155 : decode cM_advance 155 = .ok (.lload_n 1, 1) := by decide +kernel
theorem dM_advance_156 : decode cM_advance 156 = .ok (.putfield 111, 3) := by decide +kernel
theorem dM_advance_159 : decode cM_advance 159 = .ok (.return_, 1) := by decide +kernel
theorem dM_lose_0 : decode cM_lose 0 = .ok (.aload_n 0, 1) := by decide +kernel
theorem dM_lose_1 : decode cM_lose 1 = .ok (.getfield 158, 3) := by decide +kernel
theorem dM_lose_4 : decode cM_lose 4 = .ok (.iconst 3, 1) := by decide +kernel
theorem dM_lose_5 : decode cM_lose 5 = .ok (.if_icmp .ne 7, 3) := by decide +kernel
theorem dM_lose_8 : decode cM_lose 8 = .ok (.iconst 1, 1) := by decide +kernel
theorem dM_lose_9 : decode cM_lose 9 = .ok (.goto 4, 3) := by decide +kernel
theorem dM_lose_12 : decode cM_lose 12 = .ok (.iconst 0, 1) := by decide +kernel
theorem dM_lose_13 : decode cM_lose 13 = .ok (.istore_n 2, 1) := by decide +kernel
theorem dM_lose_14 : decode cM_lose 14 = .ok (.aload_n 0, 1) := by decide +kernel
theorem dM_lose_15 : decode cM_lose 15 = .ok (.iconst 0, 1) := by decide +kernel
theorem dM_lose_16 : decode cM_lose 16 = .ok (.putfield 158, 3) := by decide +kernel
theorem dM_lose_19 : decode cM_lose 19 = .ok (.aload_n 0, 1) := by decide +kernel
theorem dM_lose_20 : decode cM_lose 20 = .ok (.lconst 0, 1) := by decide +kernel
theorem dM_lose_21 : decode cM_lose 21 = .ok (.putfield 86, 3) := by decide +kernel
theorem dM_lose_24 : decode cM_lose 24 = .ok (.aload_n 0, 1) := by decide +kernel
theorem dM_lose_25 : decode cM_lose 25 = .ok (.iconst (-1), 1) := by decide +kernel
theorem dM_lose_26 : decode cM_lose 26 = .ok (.putfield 7, 3) := by decide +kernel
theorem dM_lose_29 : decode cM_lose 29 = .ok (.aload_n 0, 1) := by decide +kernel
theorem dM_lose_30 : decode cM_lose 30 = .ok (.iload_n 1, 1) := by decide +kernel
theorem dM_lose_31 : decode cM_lose 31 = .ok (.putfield 161, 3) := by decide +kernel
theorem dM_lose_34 : decode cM_lose 34 = .ok (.iload_n 2, 1) := by decide +kernel
theorem dM_lose_35 : decode cM_lose 35 = .ok (.ifCond .eq 7, 3) := by decide +kernel
theorem dM_lose_38 : decode cM_lose 38 = .ok (.aload_n 0, 1) := by decide +kernel
theorem dM_lose_39 : decode cM_lose 39 = .ok (.invokevirtual 165, 3) := by decide +kernel
theorem dM_lose_42 : decode cM_lose 42 = .ok (.return_, 1) := by decide +kernel
theorem dM_cease_0 : decode cM_cease 0 = .ok (.aload_n 0, 1) := by decide +kernel
theorem dM_cease_1 : decode cM_cease 1 = .ok (.aload_n 0, 1) := by decide +kernel
theorem dM_cease_2 : decode cM_cease 2 = .ok (.getfield 168, 3) := by decide +kernel
theorem dM_cease_5 : decode cM_cease 5 = .ok (.iconst 1, 1) := by decide +kernel
theorem dM_cease_6 : decode cM_cease 6 = .ok (.iadd, 1) := by decide +kernel
theorem dM_cease_7 : decode cM_cease 7 = .ok (.putfield 168, 3) := by decide +kernel
theorem dM_cease_10 : decode cM_cease 10 = .ok (.iconst 0, 1) := by decide +kernel
theorem dM_cease_11 : decode cM_cease 11 = .ok (.istore_n 1, 1) := by decide +kernel
theorem dM_cease_12 : decode cM_cease 12 = .ok (.iload_n 1, 1) := by decide +kernel
theorem dM_cease_13 : decode cM_cease 13 = .ok (.bipush 30, 2) := by decide +kernel
theorem dM_cease_15 : decode cM_cease 15 = .ok (.if_icmp .ge 16, 3) := by decide +kernel
theorem dM_cease_18 : decode cM_cease 18 = .ok (.aload_n 0, 1) := by decide +kernel
theorem dM_cease_19 : decode cM_cease 19 = .ok (.getfield 17, 3) := by decide +kernel
theorem dM_cease_22 : decode cM_cease 22 = .ok (.iload_n 1, 1) := by decide +kernel
theorem dM_cease_23 : decode cM_cease 23 = .ok (.iconst 0, 1) := by decide +kernel
theorem dM_cease_24 : decode cM_cease 24 = .ok (.bastore, 1) := by decide +kernel
theorem dM_cease_25 : decode cM_cease 25 = .ok (.iinc 1 1, 3) := by decide +kernel
theorem dM_cease_28 : decode cM_cease 28 = .ok (.goto (-16), 3) := by decide +kernel
theorem dM_cease_31 : decode cM_cease 31 = .ok (.iconst 0, 1) := by decide +kernel
theorem dM_cease_32 : decode cM_cease 32 = .ok (.istore_n 1, 1) := by decide +kernel
theorem dM_cease_33 : decode cM_cease 33 = .ok (.iload_n 1, 1) := by decide +kernel
theorem dM_cease_34 : decode cM_cease 34 = .ok (.bipush 6, 2) := by decide +kernel
theorem dM_cease_36 : decode cM_cease 36 = .ok (.if_icmp .ge 25, 3) := by decide +kernel
theorem dM_cease_39 : decode cM_cease 39 = .ok (.aload_n 0, 1) := by decide +kernel
theorem dM_cease_40 : decode cM_cease 40 = .ok (.getfield 28, 3) := by decide +kernel
theorem dM_cease_43 : decode cM_cease 43 = .ok (.iload_n 1, 1) := by decide +kernel
theorem dM_cease_44 : decode cM_cease 44 = .ok (.baload, 1) := by decide +kernel
theorem dM_cease_45 : decode cM_cease 45 = .ok (.ifCond .eq 10, 3) := by decide +kernel
theorem dM_cease_48 : decode cM_cease 48 = .ok (.aload_n 0, 1) := by decide +kernel
theorem dM_cease_49 : decode cM_cease 49 = .ok (.iconst 0, 1) := by decide +kernel
theorem dM_cease_50 : decode cM_cease 50 = .ok (.iload_n 1, 1) := by decide +kernel
theorem dM_cease_51 : decode cM_cease 51 = .ok (.iconst 0, 1) := by decide +kernel
theorem dM_cease_52 : decode cM_cease 52 = .ok (.invokevirtual 124, 3) := by decide +kernel
theorem dM_cease_55 : decode cM_cease 55 = .ok (.iinc 1 1, 3) := by decide +kernel
theorem dM_cease_58 : decode cM_cease 58 = .ok (.goto (-25), 3) := by decide +kernel
theorem dM_cease_61 : decode cM_cease 61 = .ok (.iconst 0, 1) := by decide +kernel
theorem dM_cease_62 : decode cM_cease 62 = .ok (.istore_n 1, 1) := by decide +kernel
theorem dM_cease_63 : decode cM_cease 63 = .ok (.iload_n 1, 1) := by decide +kernel
theorem dM_cease_64 : decode cM_cease 64 = .ok (.bipush 6, 2) := by decide +kernel
theorem dM_cease_66 : decode cM_cease 66 = .ok (.if_icmp .ge 25, 3) := by decide +kernel
theorem dM_cease_69 : decode cM_cease 69 = .ok (.aload_n 0, 1) := by decide +kernel
theorem dM_cease_70 : decode cM_cease 70 = .ok (.getfield 31, 3) := by decide +kernel
theorem dM_cease_73 : decode cM_cease 73 = .ok (.iload_n 1, 1) := by decide +kernel
theorem dM_cease_74 : decode cM_cease 74 = .ok (.baload, 1) := by decide +kernel
theorem dM_cease_75 : decode cM_cease 75 = .ok (.ifCond .eq 10, 3) := by decide +kernel
theorem dM_cease_78 : decode cM_cease 78 = .ok (.aload_n 0, 1) := by decide +kernel
theorem dM_cease_79 : decode cM_cease 79 = .ok (.iconst 1, 1) := by decide +kernel
theorem dM_cease_80 : decode cM_cease 80 = .ok (.iload_n 1, 1) := by decide +kernel
theorem dM_cease_81 : decode cM_cease 81 = .ok (.iconst 0, 1) := by decide +kernel
theorem dM_cease_82 : decode cM_cease 82 = .ok (.invokevirtual 124, 3) := by decide +kernel
theorem dM_cease_85 : decode cM_cease 85 = .ok (.iinc 1 1, 3) := by decide +kernel
theorem dM_cease_88 : decode cM_cease 88 = .ok (.goto (-25), 3) := by decide +kernel
theorem dM_cease_91 : decode cM_cease 91 = .ok (.return_, 1) := by decide +kernel
theorem dM_plainInterval_0 : decode cM_plainInterval 0 = .ok (.aload_n 0, 1) := by decide +kernel
theorem dM_plainInterval_1 : decode cM_plainInterval 1 = .ok (.lload_n 1, 1) := by decide +kernel
theorem dM_plainInterval_2 : decode cM_plainInterval 2 = .ok (.putfield 86, 3) := by decide +kernel
theorem dM_plainInterval_5 : decode cM_plainInterval 5 = .ok (.aload_n 0, 1) := by decide +kernel
theorem dM_plainInterval_6 : decode cM_plainInterval 6 = .ok (.getfield 158, 3) := by decide +kernel
theorem dM_plainInterval_9 : decode cM_plainInterval 9 = .ok (.iconst 1, 1) := by decide +kernel
theorem dM_plainInterval_10 : decode cM_plainInterval 10 = .ok (.if_icmp .ne 4, 3) := by decide +kernel
theorem dM_plainInterval_13 : decode cM_plainInterval 13 = .ok (.return_, 1) := by decide +kernel
theorem dM_plainInterval_14 : decode cM_plainInterval 14 = .ok (.aload_n 0, 1) := by decide +kernel
theorem dM_plainInterval_15 : decode cM_plainInterval 15 = .ok (.getfield 171, 3) := by decide +kernel
theorem dM_plainInterval_18 : decode cM_plainInterval 18 = .ok (.aload_n 0, 1) := by decide +kernel
theorem dM_plainInterval_19 : decode cM_plainInterval 19 = .ok (.getfield 62, 3) := by decide +kernel
theorem dM_plainInterval_22 : decode cM_plainInterval 22 = .ok (.if_icmp .ge 14, 3) := by decide +kernel
theorem dM_plainInterval_25 : decode cM_plainInterval 25 = .ok (.aload_n 0, 1) := by decide +kernel
theorem dM_plainInterval_26 : decode cM_plainInterval 26 = .ok (.aload_n 0, 1) := by decide +kernel
theorem dM_plainInterval_27 : decode cM_plainInterval 27 = .ok (.getfield 171, 3) := by decide +kernel
theorem dM_plainInterval_30 : decode cM_plainInterval 30 = .ok (.iconst 1, 1) := by decide +kernel
theorem dM_plainInterval_31 : decode cM_plainInterval 31 = .ok (.iadd, 1) := by decide +kernel
theorem dM_plainInterval_32 : decode cM_plainInterval 32 = .ok (.putfield 171, 3) := by decide +kernel
theorem dM_plainInterval_35 : decode cM_plainInterval 35 = .ok (.return_, 1) := by decide +kernel
theorem dM_plainInterval_36 : decode cM_plainInterval 36 = .ok (.aload_n 0, 1) := by decide +kernel
theorem dM_plainInterval_37 : decode cM_plainInterval 37 = .ok (.getfield 158, 3) := by decide +kernel
theorem dM_plainInterval_40 : decode cM_plainInterval 40 = .ok (.iconst 3, 1) := by decide +kernel
theorem dM_plainInterval_41 : decode cM_plainInterval 41 = .ok (.if_icmp .ne 7, 3) := by decide +kernel
theorem dM_plainInterval_44 : decode cM_plainInterval 44 = .ok (.iconst 1, 1) := by decide +kernel
theorem dM_plainInterval_45 : decode cM_plainInterval 45 = .ok (.goto 4, 3) := by decide +kernel
theorem dM_plainInterval_48 : decode cM_plainInterval 48 = .ok (.iconst 0, 1) := by decide +kernel
theorem dM_plainInterval_49 : decode cM_plainInterval 49 = .ok (.istore_n 3, 1) := by decide +kernel
theorem dM_plainInterval_50 : decode cM_plainInterval 50 = .ok (.aload_n 0, 1) := by decide +kernel
theorem dM_plainInterval_51 : decode cM_plainInterval 51 = .ok (.iconst 1, 1) := by decide +kernel
theorem dM_plainInterval_52 : decode cM_plainInterval 52 = .ok (.putfield 158, 3) := by decide +kernel
theorem dM_plainInterval_55 : decode cM_plainInterval 55 = .ok (.aload_n 0, 1) := by decide +kernel
theorem dM_plainInterval_56 : decode cM_plainInterval 56 = .ok (.iconst (-1), 1) := by decide +kernel
theorem dM_plainInterval_57 : decode cM_plainInterval 57 = .ok (.putfield 7, 3) := by decide +kernel
theorem dM_plainInterval_60 : decode cM_plainInterval 60 = .ok (.iload_n 3, 1) := by decide +kernel
theorem dM_plainInterval_61 : decode cM_plainInterval 61 = .ok (.ifCond .eq 7, 3) := by decide +kernel
theorem dM_plainInterval_64 : decode cM_plainInterval 64 = .ok (.aload_n 0, 1) := by decide +kernel
theorem dM_plainInterval_65 : decode cM_plainInterval 65 = .ok (.invokevirtual 165, 3) := by decide +kernel
theorem dM_plainInterval_68 : decode cM_plainInterval 68 = .ok (.return_, 1) := by decide +kernel
theorem dM_longInterval_0 : decode cM_longInterval 0 = .ok (.aload_n 0, 1) := by decide +kernel
theorem dM_longInterval_1 : decode cM_longInterval 1 = .ok (.getfield 158, 3) := by decide +kernel
theorem dM_longInterval_4 : decode cM_longInterval 4 = .ok (.iconst 3, 1) := by decide +kernel
theorem dM_longInterval_5 : decode cM_longInterval 5 = .ok (.if_icmp .ne 7, 3) := by decide +kernel
theorem dM_longInterval_8 : decode cM_longInterval 8 = .ok (.iconst 1, 1) := by decide +kernel
theorem dM_longInterval_9 : decode cM_longInterval 9 = .ok (.goto 4, 3) := by decide +kernel
theorem dM_longInterval_12 : decode cM_longInterval 12 = .ok (.iconst 0, 1) := by decide +kernel
theorem dM_longInterval_13 : decode cM_longInterval 13 = .ok (.istore_n 3, 1) := by decide +kernel
theorem dM_longInterval_14 : decode cM_longInterval 14 = .ok (.aload_n 0, 1) := by decide +kernel
theorem dM_longInterval_15 : decode cM_longInterval 15 = .ok (.getfield 158, 3) := by decide +kernel
theorem dM_longInterval_18 : decode cM_longInterval 18 = .ok (.iconst 1, 1) := by decide +kernel
theorem dM_longInterval_19 : decode cM_longInterval 19 = .ok (.if_icmp .eq 18, 3) := by decide +kernel
theorem dM_longInterval_22 : decode cM_longInterval 22 = .ok (.aload_n 0, 1) := by decide +kernel
theorem dM_longInterval_23 : decode cM_longInterval 23 = .ok (.getfield 171, 3) := by decide +kernel
theorem dM_longInterval_26 : decode cM_longInterval 26 = .ok (.aload_n 0, 1) := by decide +kernel
theorem dM_longInterval_27 : decode cM_longInterval 27 = .ok (.getfield 62, 3) := by decide +kernel
theorem dM_longInterval_30 : decode cM_longInterval 30 = .ok (.if_icmp .ne 7, 3) := by decide +kernel
theorem dM_longInterval_33 : decode cM_longInterval 33 = .ok (.iconst 1, 1) := by decide +kernel
theorem dM_longInterval_34 : decode cM_longInterval 34 = .ok (.goto 4, 3) := by decide +kernel
theorem dM_longInterval_37 : decode cM_longInterval 37 = .ok (.iconst 0, 1) := by decide +kernel
theorem dM_longInterval_38 : decode cM_longInterval 38 = .ok (.istore 4, 2) := by decide +kernel
theorem dM_longInterval_40 : decode cM_longInterval 40 = .ok (.aload_n 0, 1) := by decide +kernel
theorem dM_longInterval_41 : decode cM_longInterval 41 = .ok (.lload_n 1, 1) := by decide +kernel
theorem dM_longInterval_42 : decode cM_longInterval 42 = .ok (.ldc2_w 174, 3) := by decide +kernel
theorem dM_longInterval_45 : decode cM_longInterval 45 = .ok (.ldiv, 1) := by decide +kernel
theorem dM_longInterval_46 : decode cM_longInterval 46 = .ok (.lconst 1, 1) := by decide +kernel
theorem dM_longInterval_47 : decode cM_longInterval 47 = .ok (.lcmp, 1) := by decide +kernel
theorem dM_longInterval_48 : decode cM_longInterval 48 = .ok (.ifCond .ge 7, 3) := by decide +kernel
theorem dM_longInterval_51 : decode cM_longInterval 51 = .ok (.lconst 1, 1) := by decide +kernel
theorem dM_longInterval_52 : decode cM_longInterval 52 = .ok (.goto 8, 3) := by decide +kernel
theorem dM_longInterval_55 : decode cM_longInterval 55 = .ok (.lload_n 1, 1) := by decide +kernel
theorem dM_longInterval_56 : decode cM_longInterval 56 = .ok (.ldc2_w 174, 3) := by decide +kernel
theorem dM_longInterval_59 : decode cM_longInterval 59 = .ok (.ldiv, 1) := by decide +kernel
theorem dM_longInterval_60 : decode cM_longInterval 60 = .ok (.putfield 86, 3) := by decide +kernel
theorem dM_longInterval_63 : decode cM_longInterval 63 = .ok (.aload_n 0, 1) := by decide +kernel
theorem dM_longInterval_64 : decode cM_longInterval 64 = .ok (.iconst 0, 1) := by decide +kernel
theorem dM_longInterval_65 : decode cM_longInterval 65 = .ok (.putfield 171, 3) := by decide +kernel
theorem dM_longInterval_68 : decode cM_longInterval 68 = .ok (.aload_n 0, 1) := by decide +kernel
theorem dM_longInterval_69 : decode cM_longInterval 69 = .ok (.iload 4, 2) := by decide +kernel
theorem dM_longInterval_71 : decode cM_longInterval 71 = .ok (.ifCond .eq 7, 3) := by decide +kernel
theorem dM_longInterval_74 : decode cM_longInterval 74 = .ok (.iconst 3, 1) := by decide +kernel
theorem dM_longInterval_75 : decode cM_longInterval 75 = .ok (.goto 4, 3) := by decide +kernel
theorem dM_longInterval_78 : decode cM_longInterval 78 = .ok (.iconst 2, 1) := by decide +kernel
theorem dM_longInterval_79 : decode cM_longInterval 79 = .ok (.putfield 158, 3) := by decide +kernel
theorem dM_longInterval_82 : decode cM_longInterval 82 = .ok (.iload 4, 2) := by decide +kernel
theorem dM_longInterval_84 : decode cM_longInterval 84 = .ok (.ifCond .eq 7, 3) := by decide +kernel
theorem dM_longInterval_87 : decode cM_longInterval 87 = .ok (.iload_n 3, 1) := by decide +kernel
theorem dM_longInterval_88 : decode cM_longInterval 88 = .ok (.ifCond .ne 11, 3) := by decide +kernel
theorem dM_longInterval_91 : decode cM_longInterval 91 = .ok (.aload_n 0, 1) := by decide +kernel
theorem dM_longInterval_92 : decode cM_longInterval 92 = .ok (.iconst (-1), 1) := by decide +kernel
theorem dM_longInterval_93 : decode cM_longInterval 93 = .ok (.putfield 7, 3) := by decide +kernel
theorem dM_longInterval_96 : decode cM_longInterval 96 = .ok (.goto 47, 3) := by decide +kernel
theorem dM_longInterval_99 : decode cM_longInterval 99 = .ok (.aload_n 0, 1) := by decide +kernel
theorem dM_longInterval_100 : decode cM_longInterval 100 = .ok (.getfield 7, 3) := by decide +kernel
theorem dM_longInterval_103 : decode cM_longInterval 103 = .ok (.iconst 1, 1) := by decide +kernel
theorem dM_longInterval_104 : decode cM_longInterval 104 = .ok (.if_icmp .ne 16, 3) := by decide +kernel
theorem dM_longInterval_107 : decode cM_longInterval 107 = .ok (.aload_n 0, 1) := by decide +kernel
theorem dM_longInterval_108 : decode cM_longInterval 108 = .ok (.iconst 0, 1) := by decide +kernel
theorem dM_longInterval_109 : decode cM_longInterval 109 = .ok (.putfield 7, 3) := by decide +kernel
theorem dM_longInterval_112 : decode cM_longInterval 112 = .ok (.aload_n 0, 1) := by decide +kernel
theorem dM_longInterval_113 : decode cM_longInterval 113 = .ok (.iconst 0, 1) := by decide +kernel
theorem dM_longInterval_114 : decode cM_longInterval 114 = .ok (.putfield 176, 3) := by decide +kernel
theorem dM_longInterval_117 : decode cM_longInterval 117 = .ok (.goto 26, 3) := by decide +kernel
theorem dM_longInterval_120 : decode cM_longInterval 120 = .ok (.aload_n 0, 1) := by decide +kernel
theorem dM_longInterval_121 : decode cM_longInterval 121 = .ok (.getfield 7, 3) := by decide +kernel
theorem dM_longInterval_124 : decode cM_longInterval 124 = .ok (.ifCond .ne 19, 3) := by decide +kernel
theorem dM_longInterval_127 : decode cM_longInterval 127 = .ok (.aload_n 0, 1) := by decide +kernel
theorem dM_longInterval_128 : decode cM_longInterval 128 = .ok (.aload_n 0, 1) := by decide +kernel
theorem dM_longInterval_129 : decode cM_longInterval 129 = .ok (.getfield 176, 3) := by decide +kernel
theorem dM_longInterval_132 : decode cM_longInterval 132 = .ok (.ifCond .eq 7, 3) := by decide +kernel
theorem dM_longInterval_135 : decode cM_longInterval 135 = .ok (.iconst 1, 1) := by decide +kernel
theorem dM_longInterval_136 : decode cM_longInterval 136 = .ok (.goto 4, 3) := by decide +kernel
theorem dM_longInterval_139 : decode cM_longInterval 139 = .ok (.iconst (-1), 1) := by decide +kernel
theorem dM_longInterval_140 : decode cM_longInterval 140 = .ok (.putfield 7, 3) := by decide +kernel
theorem dM_longInterval_143 : decode cM_longInterval 143 = .ok (.iload_n 3, 1) := by decide +kernel
theorem dM_longInterval_144 : decode cM_longInterval 144 = .ok (.ifCond .eq 12, 3) := by decide +kernel
theorem dM_longInterval_147 : decode cM_longInterval 147 = .ok (.iload 4, 2) := by decide +kernel
theorem dM_longInterval_149 : decode cM_longInterval 149 = .ok (.ifCond .ne 7, 3) := by decide +kernel
theorem dM_longInterval_152 : decode cM_longInterval 152 = .ok (.aload_n 0, 1) := by decide +kernel
theorem dM_longInterval_153 : decode cM_longInterval 153 = .ok (.invokevirtual 165, 3) := by decide +kernel
theorem dM_longInterval_156 : decode cM_longInterval 156 = .ok (.return_, 1) := by decide +kernel
theorem dM_oneEdge_0 : decode cM_oneEdge 0 = .ok (.aload_n 0, 1) := by decide +kernel
theorem dM_oneEdge_1 : decode cM_oneEdge 1 = .ok (.aload_n 0, 1) := by decide +kernel
theorem dM_oneEdge_2 : decode cM_oneEdge 2 = .ok (.getfield 111, 3) := by decide +kernel
theorem dM_oneEdge_5 : decode cM_oneEdge 5 = .ok (.iload_n 1, 1) := by decide +kernel
theorem dM_oneEdge_6 : decode cM_oneEdge 6 = .ok (.i2l, 1) := by decide +kernel
theorem dM_oneEdge_7 : decode cM_oneEdge 7 = .ok (.ladd, 1) := by decide +kernel
theorem dM_oneEdge_8 : decode cM_oneEdge 8 = .ok (.invokevirtual 179, 3) := by decide +kernel
theorem dM_oneEdge_11 : decode cM_oneEdge 11 = .ok (.aload_n 0, 1) := by decide +kernel
theorem dM_oneEdge_12 : decode cM_oneEdge 12 = .ok (.getfield 111, 3) := by decide +kernel
theorem dM_oneEdge_15 : decode cM_oneEdge 15 = .ok (.aload_n 0, 1) := by decide +kernel
theorem dM_oneEdge_16 : decode cM_oneEdge 16 = .ok (.getfield 145, 3) := by decide +kernel
theorem dM_oneEdge_19 : decode cM_oneEdge 19 = .ok (.lsub, 1) := by decide +kernel
theorem dM_oneEdge_20 : decode cM_oneEdge 20 = .ok (.lstore_n 2, 1) := by decide +kernel
theorem dM_oneEdge_21 : decode cM_oneEdge 21 = .ok (.aload_n 0, 1) := by decide +kernel
theorem dM_oneEdge_22 : decode cM_oneEdge 22 = .ok (.aload_n 0, 1) := by decide +kernel
theorem dM_oneEdge_23 : decode cM_oneEdge 23 = .ok (.getfield 111, 3) := by decide +kernel
theorem dM_oneEdge_26 : decode cM_oneEdge 26 = .ok (.putfield 145, 3) := by decide +kernel
theorem dM_oneEdge_29 : decode cM_oneEdge 29 = .ok (.aload_n 0, 1) := by decide +kernel
theorem dM_oneEdge_30 : decode cM_oneEdge 30 = .ok (.getfield 161, 3) := by decide +kernel
theorem dM_oneEdge_33 : decode cM_oneEdge 33 = .ok (.ifCond .ne 9, 3) := by decide +kernel
theorem dM_oneEdge_36 : decode cM_oneEdge 36 = .ok (.aload_n 0, 1) := by decide +kernel
theorem dM_oneEdge_37 : decode cM_oneEdge 37 = .ok (.iconst 1, 1) := by decide +kernel
theorem dM_oneEdge_38 : decode cM_oneEdge 38 = .ok (.putfield 161, 3) := by decide +kernel
theorem dM_oneEdge_41 : decode cM_oneEdge 41 = .ok (.return_, 1) := by decide +kernel
theorem dM_oneEdge_42 : decode cM_oneEdge 42 = .ok (.aload_n 0, 1) := by decide +kernel
theorem dM_oneEdge_43 : decode cM_oneEdge 43 = .ok (.getfield 158, 3) := by decide +kernel
theorem dM_oneEdge_46 : decode cM_oneEdge 46 = .ok (.ifCond .ne 14, 3) := by decide +kernel
theorem dM_oneEdge_49 : decode cM_oneEdge 49 = .ok (.aload_n 0, 1) := by decide +kernel
theorem dM_oneEdge_50 : decode cM_oneEdge 50 = .ok (.lload_n 2, 1) := by decide +kernel
theorem dM_oneEdge_51 : decode cM_oneEdge 51 = .ok (.putfield 86, 3) := by decide +kernel
theorem dM_oneEdge_54 : decode cM_oneEdge 54 = .ok (.aload_n 0, 1) := by decide +kernel
theorem dM_oneEdge_55 : decode cM_oneEdge 55 = .ok (.iconst 1, 1) := by decide +kernel
theorem dM_oneEdge_56 : decode cM_oneEdge 56 = .ok (.putfield 158, 3) := by decide +kernel
theorem dM_oneEdge_59 : decode cM_oneEdge 59 = .ok (.return_, 1) := by decide +kernel
theorem dM_oneEdge_60 : decode cM_oneEdge 60 = .ok (.lload_n 2, 1) := by decide +kernel
theorem dM_oneEdge_61 : decode cM_oneEdge 61 = .ok (.ldc2_w 183, 3) := by decide +kernel
theorem dM_oneEdge_64 : decode cM_oneEdge 64 = .ok (.aload_n 0, 1) := by decide +kernel
theorem dM_oneEdge_65 : decode cM_oneEdge 65 = .ok (.getfield 86, 3) := by decide +kernel
theorem dM_oneEdge_68 : decode cM_oneEdge 68 = .ok (.lmul, 1) := by decide +kernel
theorem dM_oneEdge_69 : decode cM_oneEdge 69 = .ok (.lcmp, 1) := by decide +kernel
theorem dM_oneEdge_70 : decode cM_oneEdge 70 = .ok (.ifCond .lt 11, 3) := by decide +kernel
theorem dM_oneEdge_73 : decode cM_oneEdge 73 = .ok (.aload_n 0, 1) := by decide +kernel
theorem dM_oneEdge_74 : decode cM_oneEdge 74 = .ok (.lload_n 2, 1) := by decide +kernel
theorem dM_oneEdge_75 : decode cM_oneEdge 75 = .ok (.invokevirtual 185, 3) := by decide +kernel
theorem dM_oneEdge_78 : decode cM_oneEdge 78 = .ok (.goto 29, 3) := by decide +kernel
theorem dM_oneEdge_81 : decode cM_oneEdge 81 = .ok (.ldc2_w 183, 3) := by decide +kernel
theorem dM_oneEdge_84 : decode cM_oneEdge 84 = .ok (.lload_n 2, 1) := by decide +kernel
theorem dM_oneEdge_85 : decode cM_oneEdge 85 = .ok (.lmul, 1) := by decide +kernel
theorem dM_oneEdge_86 : decode cM_oneEdge 86 = .ok (.aload_n 0, 1) := by decide +kernel
theorem dM_oneEdge_87 : decode cM_oneEdge 87 = .ok (.getfield 86, 3) := by decide +kernel
theorem dM_oneEdge_90 : decode cM_oneEdge 90 = .ok (.lcmp, 1) := by decide +kernel
theorem dM_oneEdge_91 : decode cM_oneEdge 91 = .ok (.ifCond .le 11, 3) := by decide +kernel
theorem dM_oneEdge_94 : decode cM_oneEdge 94 = .ok (.aload_n 0, 1) := by decide +kernel
theorem dM_oneEdge_95 : decode cM_oneEdge 95 = .ok (.lload_n 2, 1) := by decide +kernel
theorem dM_oneEdge_96 : decode cM_oneEdge 96 = .ok (.invokevirtual 188, 3) := by decide +kernel
theorem dM_oneEdge_99 : decode cM_oneEdge 99 = .ok (.goto 8, 3) := by decide +kernel
theorem dM_oneEdge_102 : decode cM_oneEdge 102 = .ok (.aload_n 0, 1) := by decide +kernel
theorem dM_oneEdge_103 : decode cM_oneEdge 103 = .ok (.iconst 1, 1) := by decide +kernel
theorem dM_oneEdge_104 : decode cM_oneEdge 104 = .ok (.invokevirtual 154, 3) := by decide +kernel
theorem dM_oneEdge_107 : decode cM_oneEdge 107 = .ok (.aload_n 0, 1) := by decide +kernel
theorem dM_oneEdge_108 : decode cM_oneEdge 108 = .ok (.getfield 158, 3) := by decide +kernel
theorem dM_oneEdge_111 : decode cM_oneEdge 111 = .ok (.iconst 3, 1) := by decide +kernel
theorem dM_oneEdge_112 : decode cM_oneEdge 112 = .ok (.if_icmp .ne 14, 3) := by decide +kernel
theorem dM_oneEdge_115 : decode cM_oneEdge 115 = .ok (.aload_n 0, 1) := by decide +kernel
theorem dM_oneEdge_116 : decode cM_oneEdge 116 = .ok (.getfield 7, 3) := by decide +kernel
theorem dM_oneEdge_119 : decode cM_oneEdge 119 = .ok (.ifCond .lt 7, 3) := by decide +kernel
theorem dM_oneEdge_122 : decode cM_oneEdge 122 = .ok (.aload_n 0, 1) := by decide +kernel
theorem dM_oneEdge_123 : decode cM_oneEdge 123 = .ok (.invokevirtual 191, 3) := by decide +kernel
theorem dM_oneEdge_126 : decode cM_oneEdge 126 = .ok (.aload_n 0, 1) := by decide +kernel
theorem dM_oneEdge_127 : decode cM_oneEdge 127 = .ok (.aload_n 0, 1) := by decide +kernel
theorem dM_oneEdge_128 : decode cM_oneEdge 128 = .ok (.getfield 111, 3) := by decide +kernel
theorem dM_oneEdge_131 : decode cM_oneEdge 131 = .ok (.invokevirtual 179, 3) := by decide +kernel
theorem dM_oneEdge_134 : decode cM_oneEdge 134 = .ok (.return_, 1) := by decide +kernel
theorem dM_angle_0 : decode cM_angle 0 = .ok (.bipush 64, 2) := by decide +kernel
theorem dM_angle_2 : decode cM_angle 2 = .ok (.aload_n 0, 1) := by decide +kernel
theorem dM_angle_3 : decode cM_angle 3 = .ok (.getfield 7, 3) := by decide +kernel
theorem dM_angle_6 : decode cM_angle 6 = .ok (.aload_n 0, 1) := by decide +kernel
theorem dM_angle_7 : decode cM_angle 7 = .ok (.getfield 62, 3) := by decide +kernel
theorem dM_angle_10 : decode cM_angle 10 = .ok (.iconst 3, 1) := by decide +kernel
theorem dM_angle_11 : decode cM_angle 11 = .ok (.iadd, 1) := by decide +kernel
theorem dM_angle_12 : decode cM_angle 12 = .ok (.imul, 1) := by decide +kernel
theorem dM_angle_13 : decode cM_angle 13 = .ok (.aload_n 0, 1) := by decide +kernel
theorem dM_angle_14 : decode cM_angle 14 = .ok (.getfield 171, 3) := by decide +kernel
theorem dM_angle_17 : decode cM_angle 17 = .ok (.iadd, 1) := by decide +kernel
theorem dM_angle_18 : decode cM_angle 18 = .ok (.imul, 1) := by decide +kernel
theorem dM_angle_19 : decode cM_angle 19 = .ok (.ireturn, 1) := by decide +kernel
theorem dM_far_0 : decode cM_far 0 = .ok (.iload_n 1, 1) := by decide +kernel
theorem dM_far_1 : decode cM_far 1 = .ok (.aload_n 0, 1) := by decide +kernel
theorem dM_far_2 : decode cM_far 2 = .ok (.invokevirtual 194, 3) := by decide +kernel
theorem dM_far_5 : decode cM_far 5 = .ok (.isub, 1) := by decide +kernel
theorem dM_far_6 : decode cM_far 6 = .ok (.istore_n 2, 1) := by decide +kernel
theorem dM_far_7 : decode cM_far 7 = .ok (.iconst 0, 1) := by decide +kernel
theorem dM_far_8 : decode cM_far 8 = .ok (.istore_n 3, 1) := by decide +kernel
theorem dM_far_9 : decode cM_far 9 = .ok (.iload_n 3, 1) := by decide +kernel
theorem dM_far_10 : decode cM_far 10 = .ok (.bipush 10, 2) := by decide +kernel
theorem dM_far_12 : decode cM_far 12 = .ok (.if_icmp .ge 20, 3) := by decide +kernel
theorem dM_far_15 : decode cM_far 15 = .ok (.iload_n 2, 1) := by decide +kernel
theorem dM_far_16 : decode cM_far 16 = .ok (.ifCond .ge 16, 3) := by decide +kernel
theorem dM_far_19 : decode cM_far 19 = .ok (.iload_n 2, 1) := by decide +kernel
theorem dM_far_20 : decode cM_far 20 = .ok (.aload_n 0, 1) := by decide +kernel
theorem dM_far_21 : decode cM_far 21 = .ok (.getfield 65, 3) := by decide +kernel
theorem dM_far_24 : decode cM_far 24 = .ok (.iadd, 1) := by decide +kernel
theorem dM_far_25 : decode cM_far 25 = .ok (.istore_n 2, 1) := by decide +kernel
theorem dM_far_26 : decode cM_far 26 = .ok (.iinc 3 1, 3) := by decide +kernel
theorem dM_far_29 : decode cM_far 29 = .ok (.goto (-20), 3) := by decide +kernel
theorem dM_far_32 : decode cM_far 32 = .ok (.iconst 0, 1) := by decide +kernel
theorem dM_far_33 : decode cM_far 33 = .ok (.istore_n 3, 1) := by decide +kernel
theorem dM_far_34 : decode cM_far 34 = .ok (.iload_n 3, 1) := by decide +kernel
theorem dM_far_35 : decode cM_far 35 = .ok (.bipush 10, 2) := by decide +kernel
theorem dM_far_37 : decode cM_far 37 = .ok (.if_icmp .ge 24, 3) := by decide +kernel
theorem dM_far_40 : decode cM_far 40 = .ok (.iload_n 2, 1) := by decide +kernel
theorem dM_far_41 : decode cM_far 41 = .ok (.aload_n 0, 1) := by decide +kernel
theorem dM_far_42 : decode cM_far 42 = .ok (.getfield 65, 3) := by decide +kernel
theorem dM_far_45 : decode cM_far 45 = .ok (.if_icmp .lt 16, 3) := by decide +kernel
theorem dM_far_48 : decode cM_far 48 = .ok (.iload_n 2, 1) := by decide +kernel
theorem dM_far_49 : decode cM_far 49 = .ok (.aload_n 0, 1) := by decide +kernel
theorem dM_far_50 : decode cM_far 50 = .ok (.getfield 65, 3) := by decide +kernel
theorem dM_far_53 : decode cM_far 53 = .ok (.isub, 1) := by decide +kernel
theorem dM_far_54 : decode cM_far 54 = .ok (.istore_n 2, 1) := by decide +kernel
theorem dM_far_55 : decode cM_far 55 = .ok (.iinc 3 1, 3) := by decide +kernel
theorem dM_far_58 : decode cM_far 58 = .ok (.goto (-24), 3) := by decide +kernel
theorem dM_far_61 : decode cM_far 61 = .ok (.iload_n 2, 1) := by decide +kernel
theorem dM_far_62 : decode cM_far 62 = .ok (.ireturn, 1) := by decide +kernel
theorem dM_planIfNear_0 : decode cM_planIfNear 0 = .ok (.aload_n 0, 1) := by decide +kernel
theorem dM_planIfNear_1 : decode cM_planIfNear 1 = .ok (.iload_n 3, 1) := by decide +kernel
theorem dM_planIfNear_2 : decode cM_planIfNear 2 = .ok (.invokevirtual 197, 3) := by decide +kernel
theorem dM_planIfNear_5 : decode cM_planIfNear 5 = .ok (.istore 4, 2) := by decide +kernel
theorem dM_planIfNear_7 : decode cM_planIfNear 7 = .ok (.iload 4, 2) := by decide +kernel
theorem dM_planIfNear_9 : decode cM_planIfNear 9 = .ok (.aload_n 0, 1) := by decide +kernel
theorem dM_planIfNear_10 : decode cM_planIfNear 10 = .ok (.getfield 171, 3) := by decide +kernel
theorem dM_planIfNear_13 : decode cM_planIfNear 13 = .ok (.aload_n 0, 1) := by decide +kernel
theorem dM_planIfNear_14 : decode cM_planIfNear 14 = .ok (.getfield 62, 3) := by decide +kernel
theorem dM_planIfNear_17 : decode cM_planIfNear 17 = .ok (.if_icmp .ne 9, 3) := by decide +kernel
theorem dM_planIfNear_20 : decode cM_planIfNear 20 = .ok (.sipush 192, 3) := by decide +kernel
theorem dM_planIfNear_23 : decode cM_planIfNear 23 = .ok (.goto 5, 3) := by decide +kernel
theorem dM_planIfNear_26 : decode cM_planIfNear 26 = .ok (.bipush 64, 2) := by decide +kernel
theorem dM_planIfNear_28 : decode cM_planIfNear 28 = .ok (.if_icmp .ge 26, 3) := by decide +kernel
theorem dM_planIfNear_31 : decode cM_planIfNear 31 = .ok (.aload_n 0, 1) := by decide +kernel
theorem dM_planIfNear_32 : decode cM_planIfNear 32 = .ok (.iload_n 1, 1) := by decide +kernel
theorem dM_planIfNear_33 : decode cM_planIfNear 33 = .ok (.iload_n 2, 1) := by decide +kernel
theorem dM_planIfNear_34 : decode cM_planIfNear 34 = .ok (.aload_n 0, 1) := by decide +kernel
theorem dM_planIfNear_35 : decode cM_planIfNear 35 = .ok (.getfield 111, 3) := by decide +kernel
theorem dM_planIfNear_38 : decode cM_planIfNear 38 = .ok (.iload 4, 2) := by decide +kernel
theorem dM_planIfNear_40 : decode cM_planIfNear 40 = .ok (.i2l, 1) := by decide +kernel
theorem dM_planIfNear_41 : decode cM_planIfNear 41 = .ok (.aload_n 0, 1) := by decide +kernel
theorem dM_planIfNear_42 : decode cM_planIfNear 42 = .ok (.getfield 86, 3) := by decide +kernel
theorem dM_planIfNear_45 : decode cM_planIfNear 45 = .ok (.lmul, 1) := by decide +kernel
theorem dM_planIfNear_46 : decode cM_planIfNear 46 = .ok (.ldc2_w 200, 3) := by decide +kernel
theorem dM_planIfNear_49 : decode cM_planIfNear 49 = .ok (.ldiv, 1) := by decide +kernel
theorem dM_planIfNear_50 : decode cM_planIfNear 50 = .ok (.ladd, 1) := by decide +kernel
theorem dM_planIfNear_51 : decode cM_planIfNear 51 = .ok (.invokevirtual 128, 3) := by decide +kernel
theorem dM_planIfNear_54 : decode cM_planIfNear 54 = .ok (.return_, 1) := by decide +kernel
theorem dM_planAll_0 : decode cM_planAll 0 = .ok (.aload_n 0, 1) := by decide +kernel
theorem dM_planAll_1 : decode cM_planAll 1 = .ok (.iconst 0, 1) := by decide +kernel
theorem dM_planAll_2 : decode cM_planAll 2 = .ok (.invokevirtual 101, 3) := by decide +kernel
theorem dM_planAll_5 : decode cM_planAll 5 = .ok (.istore_n 1, 1) := by decide +kernel
theorem dM_planAll_6 : decode cM_planAll 6 = .ok (.aload_n 0, 1) := by decide +kernel
theorem dM_planAll_7 : decode cM_planAll 7 = .ok (.getfield 49, 3) := by decide +kernel
theorem dM_planAll_10 : decode cM_planAll 10 = .ok (.iconst 0, 1) := by decide +kernel
theorem dM_planAll_11 : decode cM_planAll 11 = .ok (.baload, 1) := by decide +kernel
theorem dM_planAll_12 : decode cM_planAll 12 = .ok (.ifCond .ne 22, 3) := by decide +kernel
theorem dM_planAll_15 : decode cM_planAll 15 = .ok (.aload_n 0, 1) := by decide +kernel
theorem dM_planAll_16 : decode cM_planAll 16 = .ok (.getfield 49, 3) := by decide +kernel
theorem dM_planAll_19 : decode cM_planAll 19 = .ok (.iconst 1, 1) := by decide +kernel
theorem dM_planAll_20 : decode cM_planAll 20 = .ok (.baload, 1) := by decide +kernel
theorem dM_planAll_21 : decode cM_planAll 21 = .ok (.ifCond .ne 13, 3) := by decide +kernel
theorem dM_planAll_24 : decode cM_planAll 24 = .ok (.aload_n 0, 1) := by decide +kernel
theorem dM_planAll_25 : decode cM_planAll 25 = .ok (.iconst 1, 1) := by decide +kernel
theorem dM_planAll_26 : decode cM_planAll 26 = .ok (.invokevirtual 92, 3) := by decide +kernel
theorem dM_planAll_29 : decode cM_planAll 29 = .ok (.bipush 110, 2) := by decide +kernel
theorem dM_planAll_31 : decode cM_planAll 31 = .ok (.if_icmp .le 9, 3) := by decide +kernel
theorem dM_planAll_34 : decode cM_planAll 34 = .ok (.sipush 200, 3) := by decide +kernel
theorem dM_planAll_37 : decode cM_planAll 37 = .ok (.goto 5, 3) := by decide +kernel
theorem dM_planAll_40 : decode cM_planAll 40 = .ok (.bipush 100, 2) := by decide +kernel
theorem dM_planAll_42 : decode cM_planAll 42 = .ok (.istore_n 2, 1) := by decide +kernel
theorem dM_planAll_43 : decode cM_planAll 43 = .ok (.aload_n 0, 1) := by decide +kernel
theorem dM_planAll_44 : decode cM_planAll 44 = .ok (.getfield 86, 3) := by decide +kernel
theorem dM_planAll_47 : decode cM_planAll 47 = .ok (.iload_n 2, 1) := by decide +kernel
theorem dM_planAll_48 : decode cM_planAll 48 = .ok (.i2l, 1) := by decide +kernel
theorem dM_planAll_49 : decode cM_planAll 49 = .ok (.lcmp, 1) := by decide +kernel
theorem dM_planAll_50 : decode cM_planAll 50 = .ok (.ifCond .lt 7, 3) := by decide +kernel
theorem dM_planAll_53 : decode cM_planAll 53 = .ok (.iconst 1, 1) := by decide +kernel
theorem dM_planAll_54 : decode cM_planAll 54 = .ok (.goto 4, 3) := by decide +kernel
theorem dM_planAll_57 : decode cM_planAll 57 = .ok (.iconst 0, 1) := by decide +kernel
theorem dM_planAll_58 : decode cM_planAll 58 = .ok (.istore_n 3, 1) := by decide +kernel
theorem dM_planAll_59 : decode cM_planAll 59 = .ok (.iconst 0, 1) := by decide +kernel
theorem dM_planAll_60 : decode cM_planAll 60 = .ok (.istore 4, 2) := by decide +kernel
theorem dM_planAll_62 : decode cM_planAll 62 = .ok (.iload 4, 2) := by decide +kernel
theorem dM_planAll_64 : decode cM_planAll 64 = .ok (.aload_n 0, 1) := by decide +kernel
theorem dM_planAll_65 : decode cM_planAll 65 = .ok (.getfield 68, 3) := by decide +kernel
theorem dM_planAll_68 : decode cM_planAll 68 = .ok (.if_icmp .ge 74, 3) := by decide +kernel
theorem dM_planAll_71 : decode cM_planAll 71 = .ok (.iload 4, 2) := by decide +kernel
theorem dM_planAll_73 : decode cM_planAll 73 = .ok (.aload_n 0, 1) := by decide +kernel
theorem dM_planAll_74 : decode cM_planAll 74 = .ok (.getfield 65, 3) := by decide +kernel
theorem dM_planAll_77 : decode cM_planAll 77 = .ok (.imul, 1) := by decide +kernel
theorem dM_planAll_78 : decode cM_planAll 78 = .ok (.aload_n 0, 1) := by decide +kernel
theorem dM_planAll_79 : decode cM_planAll 79 = .ok (.getfield 68, 3) := by decide +kernel
theorem dM_planAll_82 : decode cM_planAll 82 = .ok (.idiv, 1) := by decide +kernel
theorem dM_planAll_83 : decode cM_planAll 83 = .ok (.istore 5, 2) := by decide +kernel
theorem dM_planAll_85 : decode cM_planAll 85 = .ok (.iload_n 3, 1) := by decide +kernel
theorem dM_planAll_86 : decode cM_planAll 86 = .ok (.ifCond .eq 19, 3) := by decide +kernel
theorem dM_planAll_89 : decode cM_planAll 89 = .ok (.aload_n 0, 1) := by decide +kernel
theorem dM_planAll_90 : decode cM_planAll 90 = .ok (.iconst 0, 1) := by decide +kernel
theorem dM_planAll_91 : decode cM_planAll 91 = .ok (.iload 4, 2) := by decide +kernel
theorem dM_planAll_93 : decode cM_planAll 93 = .ok (.iload 5, 2) := by decide +kernel
theorem dM_planAll_95 : decode cM_planAll 95 = .ok (.iload_n 1, 1) := by decide +kernel
theorem dM_planAll_96 : decode cM_planAll 96 = .ok (.isub, 1) := by decide +kernel
theorem dM_planAll_97 : decode cM_planAll 97 = .ok (.aload_n 0, 1) := by decide +kernel
theorem dM_planAll_98 : decode cM_planAll 98 = .ok (.getfield 71, 3) := by decide +kernel
theorem dM_planAll_101 : decode cM_planAll 101 = .ok (.isub, 1) := by decide +kernel
theorem dM_planAll_102 : decode cM_planAll 102 = .ok (.invokevirtual 202, 3) := by decide +kernel
theorem dM_planAll_105 : decode cM_planAll 105 = .ok (.aload_n 0, 1) := by decide +kernel
theorem dM_planAll_106 : decode cM_planAll 106 = .ok (.iconst 1, 1) := by decide +kernel
theorem dM_planAll_107 : decode cM_planAll 107 = .ok (.iload 4, 2) := by decide +kernel
theorem dM_planAll_109 : decode cM_planAll 109 = .ok (.iload 5, 2) := by decide +kernel
theorem dM_planAll_111 : decode cM_planAll 111 = .ok (.iload_n 1, 1) := by decide +kernel
theorem dM_planAll_112 : decode cM_planAll 112 = .ok (.isub, 1) := by decide +kernel
theorem dM_planAll_113 : decode cM_planAll 113 = .ok (.invokevirtual 202, 3) := by decide +kernel
theorem dM_planAll_116 : decode cM_planAll 116 = .ok (.iload_n 3, 1) := by decide +kernel
theorem dM_planAll_117 : decode cM_planAll 117 = .ok (.ifCond .eq 19, 3) := by decide +kernel
theorem dM_planAll_120 : decode cM_planAll 120 = .ok (.aload_n 0, 1) := by decide +kernel
theorem dM_planAll_121 : decode cM_planAll 121 = .ok (.iconst 3, 1) := by decide +kernel
theorem dM_planAll_122 : decode cM_planAll 122 = .ok (.iload 4, 2) := by decide +kernel
theorem dM_planAll_124 : decode cM_planAll 124 = .ok (.iload 5, 2) := by decide +kernel
theorem dM_planAll_126 : decode cM_planAll 126 = .ok (.aload_n 0, 1) := by decide +kernel
theorem dM_planAll_127 : decode cM_planAll 127 = .ok (.getfield 65, 3) := by decide +kernel
theorem dM_planAll_130 : decode cM_planAll 130 = .ok (.iconst 2, 1) := by decide +kernel
theorem dM_planAll_131 : decode cM_planAll 131 = .ok (.idiv, 1) := by decide +kernel
theorem dM_planAll_132 : decode cM_planAll 132 = .ok (.iadd, 1) := by decide +kernel
theorem dM_planAll_133 : decode cM_planAll 133 = .ok (.invokevirtual 202, 3) := by decide +kernel
theorem dM_planAll_136 : decode cM_planAll 136 = .ok (.iinc 4 1, 3) := by decide +kernel
theorem dM_planAll_139 : decode cM_planAll 139 = .ok (.goto (-77), 3) := by decide +kernel
theorem dM_planAll_142 : decode cM_planAll 142 = .ok (.return_, 1) := by decide +kernel
theorem dM_edge_0 : decode cM_edge 0 = .ok (.iload_n 1, 1) := by decide +kernel
theorem dM_edge_1 : decode cM_edge 1 = .ok (.iconst 1, 1) := by decide +kernel
theorem dM_edge_2 : decode cM_edge 2 = .ok (.ldc 206, 2) := by decide +kernel
theorem dM_edge_4 : decode cM_edge 4 = .ok (.invokestatic 78, 3) := by decide +kernel
theorem dM_edge_7 : decode cM_edge 7 = .ok (.ifCond .ne 5, 3) := by decide +kernel
theorem dM_edge_10 : decode cM_edge 10 = .ok (.iconst (-1), 1) := by decide +kernel
theorem dM_edge_11 : decode cM_edge 11 = .ok (.ireturn, 1) := by decide +kernel
theorem dM_edge_12 : decode cM_edge 12 = .ok (.aload_n 0, 1) := by decide +kernel
theorem dM_edge_13 : decode cM_edge 13 = .ok (.iload_n 1, 1) := by decide +kernel
theorem dM_edge_14 : decode cM_edge 14 = .ok (.invokevirtual 207, 3) := by decide +kernel
theorem dM_edge_17 : decode cM_edge 17 = .ok (.aload_n 0, 1) := by decide +kernel
theorem dM_edge_18 : decode cM_edge 18 = .ok (.getfield 158, 3) := by decide +kernel
theorem dM_edge_21 : decode cM_edge 21 = .ok (.ireturn, 1) := by decide +kernel
theorem dM_teeth_0 : decode cM_teeth 0 = .ok (.iload_n 1, 1) := by decide +kernel
theorem dM_teeth_1 : decode cM_teeth 1 = .ok (.iconst 1, 1) := by decide +kernel
theorem dM_teeth_2 : decode cM_teeth 2 = .ok (.bipush 64, 2) := by decide +kernel
theorem dM_teeth_4 : decode cM_teeth 4 = .ok (.invokestatic 78, 3) := by decide +kernel
theorem dM_teeth_7 : decode cM_teeth 7 = .ok (.ifCond .eq 13, 3) := by decide +kernel
theorem dM_teeth_10 : decode cM_teeth 10 = .ok (.iload_n 2, 1) := by decide +kernel
theorem dM_teeth_11 : decode cM_teeth 11 = .ok (.iconst 1, 1) := by decide +kernel
theorem dM_teeth_12 : decode cM_teeth 12 = .ok (.ldc 206, 2) := by decide +kernel
theorem dM_teeth_14 : decode cM_teeth 14 = .ok (.invokestatic 78, 3) := by decide +kernel
theorem dM_teeth_17 : decode cM_teeth 17 = .ok (.ifCond .ne 5, 3) := by decide +kernel
theorem dM_teeth_20 : decode cM_teeth 20 = .ok (.iconst (-1), 1) := by decide +kernel
theorem dM_teeth_21 : decode cM_teeth 21 = .ok (.ireturn, 1) := by decide +kernel
theorem dM_teeth_22 : decode cM_teeth 22 = .ok (.iconst 0, 1) := by decide +kernel
theorem dM_teeth_23 : decode cM_teeth 23 = .ok (.istore_n 3, 1) := by decide +kernel
theorem dM_teeth_24 : decode cM_teeth 24 = .ok (.iload_n 3, 1) := by decide +kernel
theorem dM_teeth_25 : decode cM_teeth 25 = .ok (.iload_n 1, 1) := by decide +kernel
theorem dM_teeth_26 : decode cM_teeth 26 = .ok (.if_icmp .ge 14, 3) := by decide +kernel
theorem dM_teeth_29 : decode cM_teeth 29 = .ok (.aload_n 0, 1) := by decide +kernel
theorem dM_teeth_30 : decode cM_teeth 30 = .ok (.iload_n 2, 1) := by decide +kernel
theorem dM_teeth_31 : decode cM_teeth 31 = .ok (.invokevirtual 207, 3) := by decide +kernel
theorem dM_teeth_34 : decode cM_teeth 34 = .ok (.iinc 3 1, 3) := by decide +kernel
theorem dM_teeth_37 : decode cM_teeth 37 = .ok (.goto (-13), 3) := by decide +kernel
theorem dM_teeth_40 : decode cM_teeth 40 = .ok (.aload_n 0, 1) := by decide +kernel
theorem dM_teeth_41 : decode cM_teeth 41 = .ok (.getfield 158, 3) := by decide +kernel
theorem dM_teeth_44 : decode cM_teeth 44 = .ok (.ireturn, 1) := by decide +kernel
theorem dM_cam_0 : decode cM_cam 0 = .ok (.aload_n 0, 1) := by decide +kernel
theorem dM_cam_1 : decode cM_cam 1 = .ok (.getfield 158, 3) := by decide +kernel
theorem dM_cam_4 : decode cM_cam 4 = .ok (.iconst 3, 1) := by decide +kernel
theorem dM_cam_5 : decode cM_cam 5 = .ok (.if_icmp .eq 5, 3) := by decide +kernel
theorem dM_cam_8 : decode cM_cam 8 = .ok (.iconst 0, 1) := by decide +kernel
theorem dM_cam_9 : decode cM_cam 9 = .ok (.ireturn, 1) := by decide +kernel
theorem dM_cam_10 : decode cM_cam 10 = .ok (.aload_n 0, 1) := by decide +kernel
theorem dM_cam_11 : decode cM_cam 11 = .ok (.getfield 7, 3) := by decide +kernel
theorem dM_cam_14 : decode cM_cam 14 = .ok (.iconst 1, 1) := by decide +kernel
theorem dM_cam_15 : decode cM_cam 15 = .ok (.if_icmp .ne 11, 3) := by decide +kernel
theorem dM_cam_18 : decode cM_cam 18 = .ok (.aload_n 0, 1) := by decide +kernel
theorem dM_cam_19 : decode cM_cam 19 = .ok (.iconst (-1), 1) := by decide +kernel
theorem dM_cam_20 : decode cM_cam 20 = .ok (.putfield 7, 3) := by decide +kernel
theorem dM_cam_23 : decode cM_cam 23 = .ok (.goto 13, 3) := by decide +kernel
theorem dM_cam_26 : decode cM_cam 26 = .ok (.aload_n 0, 1) := by decide +kernel
theorem dM_cam_27 : decode cM_cam 27 = .ok (.iconst 0, 1) := by decide +kernel
theorem dM_cam_28 : decode cM_cam 28 = .ok (.putfield 7, 3) := by decide +kernel
theorem dM_cam_31 : decode cM_cam 31 = .ok (.aload_n 0, 1) := by decide +kernel
theorem dM_cam_32 : decode cM_cam 32 = .ok (.iconst 1, 1) := by decide +kernel
theorem dM_cam_33 : decode cM_cam 33 = .ok (.putfield 176, 3) := by decide +kernel
theorem dM_cam_36 : decode cM_cam 36 = .ok (.iconst 1, 1) := by decide +kernel
theorem dM_cam_37 : decode cM_cam 37 = .ok (.ireturn, 1) := by decide +kernel
theorem dM_rest_0 : decode cM_rest 0 = .ok (.iload_n 1, 1) := by decide +kernel
theorem dM_rest_1 : decode cM_rest 1 = .ok (.iconst 0, 1) := by decide +kernel
theorem dM_rest_2 : decode cM_rest 2 = .ok (.ldc 210, 2) := by decide +kernel
theorem dM_rest_4 : decode cM_rest 4 = .ok (.invokestatic 78, 3) := by decide +kernel
theorem dM_rest_7 : decode cM_rest 7 = .ok (.ifCond .ne 5, 3) := by decide +kernel
theorem dM_rest_10 : decode cM_rest 10 = .ok (.iconst (-1), 1) := by decide +kernel
theorem dM_rest_11 : decode cM_rest 11 = .ok (.ireturn, 1) := by decide +kernel
theorem dM_rest_12 : decode cM_rest 12 = .ok (.aload_n 0, 1) := by decide +kernel
theorem dM_rest_13 : decode cM_rest 13 = .ok (.getfield 121, 3) := by decide +kernel
theorem dM_rest_16 : decode cM_rest 16 = .ok (.istore_n 2, 1) := by decide +kernel
theorem dM_rest_17 : decode cM_rest 17 = .ok (.aload_n 0, 1) := by decide +kernel
theorem dM_rest_18 : decode cM_rest 18 = .ok (.aload_n 0, 1) := by decide +kernel
theorem dM_rest_19 : decode cM_rest 19 = .ok (.getfield 111, 3) := by decide +kernel
theorem dM_rest_22 : decode cM_rest 22 = .ok (.iload_n 1, 1) := by decide +kernel
theorem dM_rest_23 : decode cM_rest 23 = .ok (.i2l, 1) := by decide +kernel
theorem dM_rest_24 : decode cM_rest 24 = .ok (.ladd, 1) := by decide +kernel
theorem dM_rest_25 : decode cM_rest 25 = .ok (.invokevirtual 179, 3) := by decide +kernel
theorem dM_rest_28 : decode cM_rest 28 = .ok (.aload_n 0, 1) := by decide +kernel
theorem dM_rest_29 : decode cM_rest 29 = .ok (.getfield 121, 3) := by decide +kernel
theorem dM_rest_32 : decode cM_rest 32 = .ok (.iload_n 2, 1) := by decide +kernel
theorem dM_rest_33 : decode cM_rest 33 = .ok (.isub, 1) := by decide +kernel
theorem dM_rest_34 : decode cM_rest 34 = .ok (.ireturn, 1) := by decide +kernel
theorem dM_state_0 : decode cM_state 0 = .ok (.aload_n 0, 1) := by decide +kernel
theorem dM_state_1 : decode cM_state 1 = .ok (.getfield 158, 3) := by decide +kernel
theorem dM_state_4 : decode cM_state 4 = .ok (.ireturn, 1) := by decide +kernel
theorem dM_tooth_0 : decode cM_tooth 0 = .ok (.aload_n 0, 1) := by decide +kernel
theorem dM_tooth_1 : decode cM_tooth 1 = .ok (.getfield 158, 3) := by decide +kernel
theorem dM_tooth_4 : decode cM_tooth 4 = .ok (.iconst 2, 1) := by decide +kernel
theorem dM_tooth_5 : decode cM_tooth 5 = .ok (.if_icmp .lt 10, 3) := by decide +kernel
theorem dM_tooth_8 : decode cM_tooth 8 = .ok (.aload_n 0, 1) := by decide +kernel
theorem dM_tooth_9 : decode cM_tooth 9 = .ok (.getfield 171, 3) := by decide +kernel
theorem dM_tooth_12 : decode cM_tooth 12 = .ok (.goto 4, 3) := by decide +kernel
theorem dM_tooth_15 : decode cM_tooth 15 = .ok (.iconst (-1), 1) := by decide +kernel
theorem dM_tooth_16 : decode cM_tooth 16 = .ok (.ireturn, 1) := by decide +kernel
theorem dM_turn_0 : decode cM_turn 0 = .ok (.aload_n 0, 1) := by decide +kernel
theorem dM_turn_1 : decode cM_turn 1 = .ok (.getfield 158, 3) := by decide +kernel
theorem dM_turn_4 : decode cM_turn 4 = .ok (.iconst 3, 1) := by decide +kernel
theorem dM_turn_5 : decode cM_turn 5 = .ok (.if_icmp .ne 10, 3) := by decide +kernel
theorem dM_turn_8 : decode cM_turn 8 = .ok (.aload_n 0, 1) := by decide +kernel
theorem dM_turn_9 : decode cM_turn 9 = .ok (.getfield 7, 3) := by decide +kernel
theorem dM_turn_12 : decode cM_turn 12 = .ok (.goto 4, 3) := by decide +kernel
theorem dM_turn_15 : decode cM_turn 15 = .ok (.iconst (-1), 1) := by decide +kernel
theorem dM_turn_16 : decode cM_turn 16 = .ok (.ireturn, 1) := by decide +kernel
theorem dM_unit_0 : decode cM_unit 0 = .ok (.aload_n 0, 1) := by decide +kernel
theorem dM_unit_1 : decode cM_unit 1 = .ok (.getfield 86, 3) := by decide +kernel
theorem dM_unit_4 : decode cM_unit 4 = .ok (.lreturn, 1) := by decide +kernel
theorem dM_foretell_0 : decode cM_foretell 0 = .ok (.aload_n 0, 1) := by decide +kernel
theorem dM_foretell_1 : decode cM_foretell 1 = .ok (.getfield 158, 3) := by decide +kernel
theorem dM_foretell_4 : decode cM_foretell 4 = .ok (.iconst 3, 1) := by decide +kernel
theorem dM_foretell_5 : decode cM_foretell 5 = .ok (.if_icmp .ne 24, 3) := by decide +kernel
theorem dM_foretell_8 : decode cM_foretell 8 = .ok (.aload_n 0, 1) := by decide +kernel
theorem dM_foretell_9 : decode cM_foretell 9 = .ok (.getfield 7, 3) := by decide +kernel
theorem dM_foretell_12 : decode cM_foretell 12 = .ok (.ifCond .lt 17, 3) := by decide +kernel
theorem dM_foretell_15 : decode cM_foretell 15 = .ok (.iload_n 1, 1) := by decide +kernel
theorem dM_foretell_16 : decode cM_foretell 16 = .ok (.iconst 0, 1) := by decide +kernel
theorem dM_foretell_17 : decode cM_foretell 17 = .ok (.aload_n 0, 1) := by decide +kernel
theorem dM_foretell_18 : decode cM_foretell 18 = .ok (.getfield 65, 3) := by decide +kernel
theorem dM_foretell_21 : decode cM_foretell 21 = .ok (.iconst 1, 1) := by decide +kernel
theorem dM_foretell_22 : decode cM_foretell 22 = .ok (.isub, 1) := by decide +kernel
theorem dM_foretell_23 : decode cM_foretell 23 = .ok (.invokestatic 78, 3) := by decide +kernel
theorem dM_foretell_26 : decode cM_foretell 26 = .ok (.ifCond .ne 7, 3) := by decide +kernel
theorem dM_foretell_29 : decode cM_foretell 29 = .ok (.ldc2_w 114, 3) := by decide +kernel
theorem dM_foretell_32 : decode cM_foretell 32 = .ok (.lreturn, 1) := by decide +kernel
theorem dM_foretell_33 : decode cM_foretell 33 = .ok (.aload_n 0, 1) := by decide +kernel
theorem dM_foretell_34 : decode cM_foretell 34 = .ok (.iload_n 1, 1) := by decide +kernel
theorem dM_foretell_35 : decode cM_foretell 35 = .ok (.invokevirtual 197, 3) := by decide +kernel
theorem dM_foretell_38 : decode cM_foretell 38 = .ok (.istore_n 2, 1) := by decide +kernel
theorem dM_foretell_39 : decode cM_foretell 39 = .ok (.aload_n 0, 1) := by decide +kernel
theorem dM_foretell_40 : decode cM_foretell 40 = .ok (.getfield 145, 3) := by decide +kernel
theorem dM_foretell_43 : decode cM_foretell 43 = .ok (.iload_n 2, 1) := by decide +kernel
theorem dM_foretell_44 : decode cM_foretell 44 = .ok (.i2l, 1) := by decide +kernel
theorem dM_foretell_45 : decode cM_foretell 45 = .ok (.aload_n 0, 1) := by decide +kernel
theorem dM_foretell_46 : decode cM_foretell 46 = .ok (.getfield 86, 3) := by decide +kernel
theorem dM_foretell_49 : decode cM_foretell 49 = .ok (.lmul, 1) := by decide +kernel
theorem dM_foretell_50 : decode cM_foretell 50 = .ok (.ldc2_w 200, 3) := by decide +kernel
theorem dM_foretell_53 : decode cM_foretell 53 = .ok (.ldiv, 1) := by decide +kernel
theorem dM_foretell_54 : decode cM_foretell 54 = .ok (.ladd, 1) := by decide +kernel
theorem dM_foretell_55 : decode cM_foretell 55 = .ok (.lreturn, 1) := by decide +kernel
theorem dM_output_0 : decode cM_output 0 = .ok (.iload_n 1, 1) := by decide +kernel
theorem dM_output_1 : decode cM_output 1 = .ok (.iconst 0, 1) := by decide +kernel
theorem dM_output_2 : decode cM_output 2 = .ok (.bipush 15, 2) := by decide +kernel
theorem dM_output_4 : decode cM_output 4 = .ok (.invokestatic 78, 3) := by decide +kernel
theorem dM_output_7 : decode cM_output 7 = .ok (.ifCond .eq 20, 3) := by decide +kernel
theorem dM_output_10 : decode cM_output 10 = .ok (.iload_n 1, 1) := by decide +kernel
theorem dM_output_11 : decode cM_output 11 = .ok (.aload_n 0, 1) := by decide +kernel
theorem dM_output_12 : decode cM_output 12 = .ok (.getfield 121, 3) := by decide +kernel
theorem dM_output_15 : decode cM_output 15 = .ok (.if_icmp .ge 12, 3) := by decide +kernel
theorem dM_output_18 : decode cM_output 18 = .ok (.aload_n 0, 1) := by decide +kernel
theorem dM_output_19 : decode cM_output 19 = .ok (.getfield 55, 3) := by decide +kernel
theorem dM_output_22 : decode cM_output 22 = .ok (.iload_n 1, 1) := by decide +kernel
theorem dM_output_23 : decode cM_output 23 = .ok (.laload, 1) := by decide +kernel
theorem dM_output_24 : decode cM_output 24 = .ok (.goto 6, 3) := by decide +kernel
theorem dM_output_27 : decode cM_output 27 = .ok (.ldc2_w 114, 3) := by decide +kernel
theorem dM_output_30 : decode cM_output 30 = .ok (.lreturn, 1) := by decide +kernel
theorem dM_tally_0 : decode cM_tally 0 = .ok (.iload_n 1, 1) := by decide +kernel
theorem dM_tally_1 : decode cM_tally 1 = .ok (.ifCond .ne 10, 3) := by decide +kernel
theorem dM_tally_4 : decode cM_tally 4 = .ok (.aload_n 0, 1) := by decide +kernel
theorem dM_tally_5 : decode cM_tally 5 = .ok (.getfield 132, 3) := by decide +kernel
theorem dM_tally_8 : decode cM_tally 8 = .ok (.goto 40, 3) := by decide +kernel
theorem dM_tally_11 : decode cM_tally 11 = .ok (.iload_n 1, 1) := by decide +kernel
theorem dM_tally_12 : decode cM_tally 12 = .ok (.iconst 1, 1) := by decide +kernel
theorem dM_tally_13 : decode cM_tally 13 = .ok (.if_icmp .ne 10, 3) := by decide +kernel
theorem dM_tally_16 : decode cM_tally 16 = .ok (.aload_n 0, 1) := by decide +kernel
theorem dM_tally_17 : decode cM_tally 17 = .ok (.getfield 135, 3) := by decide +kernel
theorem dM_tally_20 : decode cM_tally 20 = .ok (.goto 28, 3) := by decide +kernel
theorem dM_tally_23 : decode cM_tally 23 = .ok (.iload_n 1, 1) := by decide +kernel
theorem dM_tally_24 : decode cM_tally 24 = .ok (.iconst 2, 1) := by decide +kernel
theorem dM_tally_25 : decode cM_tally 25 = .ok (.if_icmp .ne 10, 3) := by decide +kernel
theorem dM_tally_28 : decode cM_tally 28 = .ok (.aload_n 0, 1) := by decide +kernel
theorem dM_tally_29 : decode cM_tally 29 = .ok (.getfield 121, 3) := by decide +kernel
theorem dM_tally_32 : decode cM_tally 32 = .ok (.goto 16, 3) := by decide +kernel
theorem dM_tally_35 : decode cM_tally 35 = .ok (.iload_n 1, 1) := by decide +kernel
theorem dM_tally_36 : decode cM_tally 36 = .ok (.iconst 3, 1) := by decide +kernel
theorem dM_tally_37 : decode cM_tally 37 = .ok (.if_icmp .ne 10, 3) := by decide +kernel
theorem dM_tally_40 : decode cM_tally 40 = .ok (.aload_n 0, 1) := by decide +kernel
theorem dM_tally_41 : decode cM_tally 41 = .ok (.getfield 168, 3) := by decide +kernel
theorem dM_tally_44 : decode cM_tally 44 = .ok (.goto 4, 3) := by decide +kernel
theorem dM_tally_47 : decode cM_tally 47 = .ok (.iconst (-1), 1) := by decide +kernel
theorem dM_tally_48 : decode cM_tally 48 = .ok (.ireturn, 1) := by decide +kernel
theorem dM_waiting_0 : decode cM_waiting 0 = .ok (.iconst 0, 1) := by decide +kernel
theorem dM_waiting_1 : decode cM_waiting 1 = .ok (.istore_n 1, 1) := by decide +kernel
theorem dM_waiting_2 : decode cM_waiting 2 = .ok (.iconst 0, 1) := by decide +kernel
theorem dM_waiting_3 : decode cM_waiting 3 = .ok (.istore_n 2, 1) := by decide +kernel
theorem dM_waiting_4 : decode cM_waiting 4 = .ok (.iload_n 2, 1) := by decide +kernel
theorem dM_waiting_5 : decode cM_waiting 5 = .ok (.bipush 30, 2) := by decide +kernel
theorem dM_waiting_7 : decode cM_waiting 7 = .ok (.if_icmp .ge 26, 3) := by decide +kernel
theorem dM_waiting_10 : decode cM_waiting 10 = .ok (.aload_n 0, 1) := by decide +kernel
theorem dM_waiting_11 : decode cM_waiting 11 = .ok (.getfield 17, 3) := by decide +kernel
theorem dM_waiting_14 : decode cM_waiting 14 = .ok (.iload_n 2, 1) := by decide +kernel
theorem dM_waiting_15 : decode cM_waiting 15 = .ok (.baload, 1) := by decide +kernel
theorem dM_waiting_16 : decode cM_waiting 16 = .ok (.ifCond .eq 9, 3) := by decide +kernel
theorem dM_waiting_19 : decode cM_waiting 19 = .ok (.iload_n 1, 1) := by decide +kernel
theorem dM_waiting_20 : decode cM_waiting 20 = .ok (.iconst 1, 1) := by decide +kernel
theorem dM_waiting_21 : decode cM_waiting 21 = .ok (.iadd, 1) := by decide +kernel
theorem dM_waiting_22 : decode cM_waiting 22 = .ok (.goto 4, 3) := by decide +kernel
theorem dM_waiting_25 : decode cM_waiting 25 = .ok (.iload_n 1, 1) := by decide +kernel
theorem dM_waiting_26 : decode cM_waiting 26 = .ok (.istore_n 1, 1) := by decide +kernel
theorem dM_waiting_27 : decode cM_waiting 27 = .ok (.iinc 2 1, 3) := by decide +kernel
theorem dM_waiting_30 : decode cM_waiting 30 = .ok (.goto (-26), 3) := by decide +kernel
theorem dM_waiting_33 : decode cM_waiting 33 = .ok (.iload_n 1, 1) := by decide +kernel
theorem dM_waiting_34 : decode cM_waiting 34 = .ok (.ireturn, 1) := by decide +kernel
theorem dM_running_0 : decode cM_running 0 = .ok (.iconst 0, 1) := by decide +kernel
theorem dM_running_1 : decode cM_running 1 = .ok (.istore_n 1, 1) := by decide +kernel
theorem dM_running_2 : decode cM_running 2 = .ok (.iconst 0, 1) := by decide +kernel
theorem dM_running_3 : decode cM_running 3 = .ok (.istore_n 2, 1) := by decide +kernel
theorem dM_running_4 : decode cM_running 4 = .ok (.iload_n 2, 1) := by decide +kernel
theorem dM_running_5 : decode cM_running 5 = .ok (.bipush 6, 2) := by decide +kernel
theorem dM_running_7 : decode cM_running 7 = .ok (.if_icmp .ge 47, 3) := by decide +kernel
theorem dM_running_10 : decode cM_running 10 = .ok (.iload_n 1, 1) := by decide +kernel
theorem dM_running_11 : decode cM_running 11 = .ok (.aload_n 0, 1) := by decide +kernel
theorem dM_running_12 : decode cM_running 12 = .ok (.getfield 28, 3) := by decide +kernel
theorem dM_running_15 : decode cM_running 15 = .ok (.iload_n 2, 1) := by decide +kernel
theorem dM_running_16 : decode cM_running 16 = .ok (.baload, 1) := by decide +kernel
theorem dM_running_17 : decode cM_running 17 = .ok (.ifCond .eq 9, 3) := by decide +kernel
theorem dM_running_20 : decode cM_running 20 = .ok (.iconst 1, 1) := by decide +kernel
theorem dM_running_21 : decode cM_running 21 = .ok (.iload_n 2, 1) := by decide +kernel
theorem dM_running_22 : decode cM_running 22 = .ok (.ishl, 1) := by decide +kernel
theorem dM_running_23 : decode cM_running 23 = .ok (.goto 4, 3) := by decide +kernel
theorem dM_running_26 : decode cM_running 26 = .ok (.iconst 0, 1) := by decide +kernel
theorem dM_running_27 : decode cM_running 27 = .ok (.iadd, 1) := by decide +kernel
theorem dM_running_28 : decode cM_running 28 = .ok (.aload_n 0, 1) := by decide +kernel
theorem dM_running_29 : decode cM_running 29 = .ok (.getfield 31, 3) := by decide +kernel
theorem dM_running_32 : decode cM_running 32 = .ok (.iload_n 2, 1) := by decide +kernel
theorem dM_running_33 : decode cM_running 33 = .ok (.baload, 1) := by decide +kernel
theorem dM_running_34 : decode cM_running 34 = .ok (.ifCond .eq 11, 3) := by decide +kernel
theorem dM_running_37 : decode cM_running 37 = .ok (.sipush 256, 3) := by decide +kernel
theorem dM_running_40 : decode cM_running 40 = .ok (.iload_n 2, 1) := by decide +kernel
theorem dM_running_41 : decode cM_running 41 = .ok (.ishl, 1) := by decide +kernel
theorem dM_running_42 : decode cM_running 42 = .ok (.goto 4, 3) := by decide +kernel
theorem dM_running_45 : decode cM_running 45 = .ok (.iconst 0, 1) := by decide +kernel
theorem dM_running_46 : decode cM_running 46 = .ok (.iadd, 1) := by decide +kernel
theorem dM_running_47 : decode cM_running 47 = .ok (.istore_n 1, 1) := by decide +kernel
theorem dM_running_48 : decode cM_running 48 = .ok (.iinc 2 1, 3) := by decide +kernel
theorem dM_running_51 : decode cM_running 51 = .ok (.goto (-47), 3) := by decide +kernel
theorem dM_running_54 : decode cM_running 54 = .ok (.iload_n 1, 1) := by decide +kernel
theorem dM_running_55 : decode cM_running 55 = .ok (.ireturn, 1) := by decide +kernel
