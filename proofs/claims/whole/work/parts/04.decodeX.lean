/-! decode rows, by program -/
theorem dT_init_0 : decode cT_init 0 = .ok (.aload_n 0, 1) := by decide +kernel
theorem dT_init_1 : decode cT_init 1 = .ok (.invokespecial 1, 3) := by decide +kernel
theorem dT_init_4 : decode cT_init 4 = .ok (.aload_n 0, 1) := by decide +kernel
theorem dT_init_5 : decode cT_init 5 = .ok (.new 7, 3) := by decide +kernel
theorem dT_init_8 : decode cT_init 8 = .ok (.dup, 1) := by decide +kernel
theorem dT_init_9 : decode cT_init 9 = .ok (.invokespecial 9, 3) := by decide +kernel
theorem dT_init_12 : decode cT_init 12 = .ok (.putfield 10, 3) := by decide +kernel
theorem dT_init_15 : decode cT_init 15 = .ok (.aload_n 0, 1) := by decide +kernel
theorem dT_init_16 : decode cT_init 16 = .ok (.new 16, 3) := by decide +kernel
theorem dT_init_19 : decode cT_init 19 = .ok (.dup, 1) := by decide +kernel
theorem dT_init_20 : decode cT_init 20 = .ok (.sipush 2047, 3) := by decide +kernel
theorem dT_init_23 : decode cT_init 23 = .ok (.invokespecial 18, 3) := by decide +kernel
theorem dT_init_26 : decode cT_init 26 = .ok (.putfield 21, 3) := by decide +kernel
theorem dT_init_29 : decode cT_init 29 = .ok (.aload_n 0, 1) := by decide +kernel
theorem dT_init_30 : decode cT_init 30 = .ok (.new 16, 3) := by decide +kernel
theorem dT_init_33 : decode cT_init 33 = .ok (.dup, 1) := by decide +kernel
theorem dT_init_34 : decode cT_init 34 = .ok (.sipush 32000, 3) := by decide +kernel
theorem dT_init_37 : decode cT_init 37 = .ok (.invokespecial 18, 3) := by decide +kernel
theorem dT_init_40 : decode cT_init 40 = .ok (.putfield 25, 3) := by decide +kernel
theorem dT_init_43 : decode cT_init 43 = .ok (.aload_n 0, 1) := by decide +kernel
theorem dT_init_44 : decode cT_init 44 = .ok (.new 28, 3) := by decide +kernel
theorem dT_init_47 : decode cT_init 47 = .ok (.dup, 1) := by decide +kernel
theorem dT_init_48 : decode cT_init 48 = .ok (.getstatic 30, 3) := by decide +kernel
theorem dT_init_51 : decode cT_init 51 = .ok (.sipush 512, 3) := by decide +kernel
theorem dT_init_54 : decode cT_init 54 = .ok (.sipush 400, 3) := by decide +kernel
theorem dT_init_57 : decode cT_init 57 = .ok (.invokespecial 34, 3) := by decide +kernel
theorem dT_init_60 : decode cT_init 60 = .ok (.putfield 37, 3) := by decide +kernel
theorem dT_init_63 : decode cT_init 63 = .ok (.aload_n 0, 1) := by decide +kernel
theorem dT_init_64 : decode cT_init 64 = .ok (.new 28, 3) := by decide +kernel
theorem dT_init_67 : decode cT_init 67 = .ok (.dup, 1) := by decide +kernel
theorem dT_init_68 : decode cT_init 68 = .ok (.getstatic 41, 3) := by decide +kernel
theorem dT_init_71 : decode cT_init 71 = .ok (.bipush 60, 2) := by decide +kernel
theorem dT_init_73 : decode cT_init 73 = .ok (.bipush 80, 2) := by decide +kernel
theorem dT_init_75 : decode cT_init 75 = .ok (.invokespecial 34, 3) := by decide +kernel
theorem dT_init_78 : decode cT_init 78 = .ok (.putfield 44, 3) := by decide +kernel
theorem dT_init_81 : decode cT_init 81 = .ok (.aload_n 0, 1) := by decide +kernel
theorem dT_init_82 : decode cT_init 82 = .ok (.lconst 0, 1) := by decide +kernel
theorem dT_init_83 : decode cT_init 83 = .ok (.putfield 47, 3) := by decide +kernel
theorem dT_init_86 : decode cT_init 86 = .ok (.aload_n 0, 1) := by decide +kernel
theorem dT_init_87 : decode cT_init 87 = .ok (.iconst 0, 1) := by decide +kernel
theorem dT_init_88 : decode cT_init 88 = .ok (.putfield 51, 3) := by decide +kernel
theorem dT_init_91 : decode cT_init 91 = .ok (.aload_n 0, 1) := by decide +kernel
theorem dT_init_92 : decode cT_init 92 = .ok (.iconst 0, 1) := by decide +kernel
theorem dT_init_93 : decode cT_init 93 = .ok (.putfield 55, 3) := by decide +kernel
theorem dT_init_96 : decode cT_init 96 = .ok (.aload_n 0, 1) := by decide +kernel
theorem dT_init_97 : decode cT_init 97 = .ok (.iconst 0, 1) := by decide +kernel
theorem dT_init_98 : decode cT_init 98 = .ok (.putfield 58, 3) := by decide +kernel
theorem dT_init_101 : decode cT_init 101 = .ok (.aload_n 0, 1) := by decide +kernel
theorem dT_init_102 : decode cT_init 102 = .ok (.iload_n 2, 1) := by decide +kernel
theorem dT_init_103 : decode cT_init 103 = .ok (.iconst 1, 1) := by decide +kernel
theorem dT_init_104 : decode cT_init 104 = .ok (.bipush 6, 2) := by decide +kernel
theorem dT_init_106 : decode cT_init 106 = .ok (.invokestatic 61, 3) := by decide +kernel
theorem dT_init_109 : decode cT_init 109 = .ok (.putfield 65, 3) := by decide +kernel
theorem dT_init_112 : decode cT_init 112 = .ok (.aload_n 0, 1) := by decide +kernel
theorem dT_init_113 : decode cT_init 113 = .ok (.bipush 64, 2) := by decide +kernel
theorem dT_init_115 : decode cT_init 115 = .ok (.iload_n 3, 1) := by decide +kernel
theorem dT_init_116 : decode cT_init 116 = .ok (.iconst 1, 1) := by decide +kernel
theorem dT_init_117 : decode cT_init 117 = .ok (.bipush 8, 2) := by decide +kernel
theorem dT_init_119 : decode cT_init 119 = .ok (.invokestatic 61, 3) := by decide +kernel
theorem dT_init_122 : decode cT_init 122 = .ok (.imul, 1) := by decide +kernel
theorem dT_init_123 : decode cT_init 123 = .ok (.putfield 68, 3) := by decide +kernel
theorem dT_init_126 : decode cT_init 126 = .ok (.aload_n 0, 1) := by decide +kernel
theorem dT_init_127 : decode cT_init 127 = .ok (.iload 4, 2) := by decide +kernel
theorem dT_init_129 : decode cT_init 129 = .ok (.iconst 1, 1) := by decide +kernel
theorem dT_init_130 : decode cT_init 130 = .ok (.ldc 71, 2) := by decide +kernel
theorem dT_init_132 : decode cT_init 132 = .ok (.invokestatic 61, 3) := by decide +kernel
theorem dT_init_135 : decode cT_init 135 = .ok (.putfield 72, 3) := by decide +kernel
theorem dT_init_138 : decode cT_init 138 = .ok (.aload_n 0, 1) := by decide +kernel
theorem dT_init_139 : decode cT_init 139 = .ok (.new 75, 3) := by decide +kernel
theorem dT_init_142 : decode cT_init 142 = .ok (.dup, 1) := by decide +kernel
theorem dT_init_143 : decode cT_init 143 = .ok (.iload_n 1, 1) := by decide +kernel
theorem dT_init_144 : decode cT_init 144 = .ok (.bipush 12, 2) := by decide +kernel
theorem dT_init_146 : decode cT_init 146 = .ok (.bipush 60, 2) := by decide +kernel
theorem dT_init_148 : decode cT_init 148 = .ok (.invokestatic 61, 3) := by decide +kernel
theorem dT_init_151 : decode cT_init 151 = .ok (.invokespecial 77, 3) := by decide +kernel
theorem dT_init_154 : decode cT_init 154 = .ok (.putfield 78, 3) := by decide +kernel
theorem dT_init_157 : decode cT_init 157 = .ok (.aload_n 0, 1) := by decide +kernel
theorem dT_init_158 : decode cT_init 158 = .ok (.new 82, 3) := by decide +kernel
theorem dT_init_161 : decode cT_init 161 = .ok (.dup, 1) := by decide +kernel
theorem dT_init_162 : decode cT_init 162 = .ok (.aload_n 0, 1) := by decide +kernel
theorem dT_init_163 : decode cT_init 163 = .ok (.getfield 65, 3) := by decide +kernel
theorem dT_init_166 : decode cT_init 166 = .ok (.invokespecial 84, 3) := by decide +kernel
theorem dT_init_169 : decode cT_init 169 = .ok (.putfield 85, 3) := by decide +kernel
theorem dT_init_172 : decode cT_init 172 = .ok (.return_, 1) := by decide +kernel
theorem dT_set_0 : decode cT_set 0 = .ok (.aload_n 0, 1) := by decide +kernel
theorem dT_set_1 : decode cT_set 1 = .ok (.iload_n 1, 1) := by decide +kernel
theorem dT_set_2 : decode cT_set 2 = .ok (.invokevirtual 89, 3) := by decide +kernel
theorem dT_set_5 : decode cT_set 5 = .ok (.astore 5, 2) := by decide +kernel
theorem dT_set_7 : decode cT_set 7 = .ok (.aload 5, 2) := by decide +kernel
theorem dT_set_9 : decode cT_set 9 = .ok (.ifnull 19, 3) := by decide +kernel
theorem dT_set_12 : decode cT_set 12 = .ok (.aload 5, 2) := by decide +kernel
theorem dT_set_14 : decode cT_set 14 = .ok (.iload_n 2, 1) := by decide +kernel
theorem dT_set_15 : decode cT_set 15 = .ok (.iload_n 3, 1) := by decide +kernel
theorem dT_set_16 : decode cT_set 16 = .ok (.iload 4, 2) := by decide +kernel
theorem dT_set_18 : decode cT_set 18 = .ok (.invokevirtual 93, 3) := by decide +kernel
theorem dT_set_21 : decode cT_set 21 = .ok (.ifCond .eq 7, 3) := by decide +kernel
theorem dT_set_24 : decode cT_set 24 = .ok (.iconst 1, 1) := by decide +kernel
theorem dT_set_25 : decode cT_set 25 = .ok (.goto 4, 3) := by decide +kernel
theorem dT_set_28 : decode cT_set 28 = .ok (.iconst 0, 1) := by decide +kernel
theorem dT_set_29 : decode cT_set 29 = .ok (.ireturn, 1) := by decide +kernel
theorem dT_look_0 : decode cT_look 0 = .ok (.aload_n 0, 1) := by decide +kernel
theorem dT_look_1 : decode cT_look 1 = .ok (.iload_n 1, 1) := by decide +kernel
theorem dT_look_2 : decode cT_look 2 = .ok (.invokevirtual 89, 3) := by decide +kernel
theorem dT_look_5 : decode cT_look 5 = .ok (.astore 4, 2) := by decide +kernel
theorem dT_look_7 : decode cT_look 7 = .ok (.aload 4, 2) := by decide +kernel
theorem dT_look_9 : decode cT_look 9 = .ok (.ifnonnull 7, 3) := by decide +kernel
theorem dT_look_12 : decode cT_look 12 = .ok (.iconst (-1), 1) := by decide +kernel
theorem dT_look_13 : decode cT_look 13 = .ok (.goto 10, 3) := by decide +kernel
theorem dT_look_16 : decode cT_look 16 = .ok (.aload 4, 2) := by decide +kernel
theorem dT_look_18 : decode cT_look 18 = .ok (.iload_n 2, 1) := by decide +kernel
theorem dT_look_19 : decode cT_look 19 = .ok (.iload_n 3, 1) := by decide +kernel
theorem dT_look_20 : decode cT_look 20 = .ok (.invokevirtual 97, 3) := by decide +kernel
theorem dT_look_23 : decode cT_look 23 = .ok (.ireturn, 1) := by decide +kernel
theorem dT_sample_0 : decode cT_sample 0 = .ok (.aload_n 0, 1) := by decide +kernel
theorem dT_sample_1 : decode cT_sample 1 = .ok (.iload_n 1, 1) := by decide +kernel
theorem dT_sample_2 : decode cT_sample 2 = .ok (.invokevirtual 101, 3) := by decide +kernel
theorem dT_sample_5 : decode cT_sample 5 = .ok (.astore_n 3, 1) := by decide +kernel
theorem dT_sample_6 : decode cT_sample 6 = .ok (.aload_n 3, 1) := by decide +kernel
theorem dT_sample_7 : decode cT_sample 7 = .ok (.ifnonnull 5, 3) := by decide +kernel
theorem dT_sample_10 : decode cT_sample 10 = .ok (.iconst 0, 1) := by decide +kernel
theorem dT_sample_11 : decode cT_sample 11 = .ok (.ireturn, 1) := by decide +kernel
theorem dT_sample_12 : decode cT_sample 12 = .ok (.aload_n 3, 1) := by decide +kernel
theorem dT_sample_13 : decode cT_sample 13 = .ok (.iload_n 2, 1) := by decide +kernel
theorem dT_sample_14 : decode cT_sample 14 = .ok (.invokevirtual 105, 3) := by decide +kernel
theorem dT_sample_17 : decode cT_sample 17 = .ok (.istore 4, 2) := by decide +kernel
theorem dT_sample_19 : decode cT_sample 19 = .ok (.iload 4, 2) := by decide +kernel
theorem dT_sample_21 : decode cT_sample 21 = .ok (.ifCond .ne 32, 3) := by decide +kernel
theorem dT_sample_24 : decode cT_sample 24 = .ok (.aload_n 3, 1) := by decide +kernel
theorem dT_sample_25 : decode cT_sample 25 = .ok (.invokevirtual 109, 3) := by decide +kernel
theorem dT_sample_28 : decode cT_sample 28 = .ok (.ifCond .eq 25, 3) := by decide +kernel
theorem dT_sample_31 : decode cT_sample 31 = .ok (.aload_n 3, 1) := by decide +kernel
theorem dT_sample_32 : decode cT_sample 32 = .ok (.aload_n 0, 1) := by decide +kernel
theorem dT_sample_33 : decode cT_sample 33 = .ok (.getfield 47, 3) := by decide +kernel
theorem dT_sample_36 : decode cT_sample 36 = .ok (.aload_n 0, 1) := by decide +kernel
theorem dT_sample_37 : decode cT_sample 37 = .ok (.getfield 78, 3) := by decide +kernel
theorem dT_sample_40 : decode cT_sample 40 = .ok (.getfield 113, 3) := by decide +kernel
theorem dT_sample_43 : decode cT_sample 43 = .ok (.aload_n 0, 1) := by decide +kernel
theorem dT_sample_44 : decode cT_sample 44 = .ok (.getfield 37, 3) := by decide +kernel
theorem dT_sample_47 : decode cT_sample 47 = .ok (.invokevirtual 116, 3) := by decide +kernel
theorem dT_sample_50 : decode cT_sample 50 = .ok (.invokevirtual 120, 3) := by decide +kernel
theorem dT_sample_53 : decode cT_sample 53 = .ok (.iload 4, 2) := by decide +kernel
theorem dT_sample_55 : decode cT_sample 55 = .ok (.ireturn, 1) := by decide +kernel
theorem dT_value_0 : decode cT_value 0 = .ok (.aload_n 0, 1) := by decide +kernel
theorem dT_value_1 : decode cT_value 1 = .ok (.iload_n 1, 1) := by decide +kernel
theorem dT_value_2 : decode cT_value 2 = .ok (.invokevirtual 101, 3) := by decide +kernel
theorem dT_value_5 : decode cT_value 5 = .ok (.astore_n 2, 1) := by decide +kernel
theorem dT_value_6 : decode cT_value 6 = .ok (.aload_n 2, 1) := by decide +kernel
theorem dT_value_7 : decode cT_value 7 = .ok (.ifnonnull 7, 3) := by decide +kernel
theorem dT_value_10 : decode cT_value 10 = .ok (.iconst 0, 1) := by decide +kernel
theorem dT_value_11 : decode cT_value 11 = .ok (.goto 7, 3) := by decide +kernel
theorem dT_value_14 : decode cT_value 14 = .ok (.aload_n 2, 1) := by decide +kernel
theorem dT_value_15 : decode cT_value 15 = .ok (.invokevirtual 116, 3) := by decide +kernel
theorem dT_value_18 : decode cT_value 18 = .ok (.ireturn, 1) := by decide +kernel
theorem dT_count_0 : decode cT_count 0 = .ok (.aload_n 0, 1) := by decide +kernel
theorem dT_count_1 : decode cT_count 1 = .ok (.iload_n 1, 1) := by decide +kernel
theorem dT_count_2 : decode cT_count 2 = .ok (.invokevirtual 101, 3) := by decide +kernel
theorem dT_count_5 : decode cT_count 5 = .ok (.astore_n 2, 1) := by decide +kernel
theorem dT_count_6 : decode cT_count 6 = .ok (.aload_n 2, 1) := by decide +kernel
theorem dT_count_7 : decode cT_count 7 = .ok (.ifnonnull 7, 3) := by decide +kernel
theorem dT_count_10 : decode cT_count 10 = .ok (.iconst (-1), 1) := by decide +kernel
theorem dT_count_11 : decode cT_count 11 = .ok (.goto 7, 3) := by decide +kernel
theorem dT_count_14 : decode cT_count 14 = .ok (.aload_n 2, 1) := by decide +kernel
theorem dT_count_15 : decode cT_count 15 = .ok (.getfield 124, 3) := by decide +kernel
theorem dT_count_18 : decode cT_count 18 = .ok (.ireturn, 1) := by decide +kernel
theorem dT_frame_0 : decode cT_frame 0 = .ok (.aload_n 0, 1) := by decide +kernel
theorem dT_frame_1 : decode cT_frame 1 = .ok (.iload_n 1, 1) := by decide +kernel
theorem dT_frame_2 : decode cT_frame 2 = .ok (.invokevirtual 101, 3) := by decide +kernel
theorem dT_frame_5 : decode cT_frame 5 = .ok (.astore_n 3, 1) := by decide +kernel
theorem dT_frame_6 : decode cT_frame 6 = .ok (.aload_n 3, 1) := by decide +kernel
theorem dT_frame_7 : decode cT_frame 7 = .ok (.ifnonnull 9, 3) := by decide +kernel
theorem dT_frame_10 : decode cT_frame 10 = .ok (.ldc2_w 127, 3) := by decide +kernel
theorem dT_frame_13 : decode cT_frame 13 = .ok (.goto 8, 3) := by decide +kernel
theorem dT_frame_16 : decode cT_frame 16 = .ok (.aload_n 3, 1) := by decide +kernel
theorem dT_frame_17 : decode cT_frame 17 = .ok (.iload_n 2, 1) := by decide +kernel
theorem dT_frame_18 : decode cT_frame 18 = .ok (.invokevirtual 129, 3) := by decide +kernel
theorem dT_frame_21 : decode cT_frame 21 = .ok (.lreturn, 1) := by decide +kernel
theorem dT_clear_0 : decode cT_clear 0 = .ok (.aload_n 0, 1) := by decide +kernel
theorem dT_clear_1 : decode cT_clear 1 = .ok (.getfield 37, 3) := by decide +kernel
theorem dT_clear_4 : decode cT_clear 4 = .ok (.invokevirtual 133, 3) := by decide +kernel
theorem dT_clear_7 : decode cT_clear 7 = .ok (.aload_n 0, 1) := by decide +kernel
theorem dT_clear_8 : decode cT_clear 8 = .ok (.getfield 44, 3) := by decide +kernel
theorem dT_clear_11 : decode cT_clear 11 = .ok (.invokevirtual 133, 3) := by decide +kernel
theorem dT_clear_14 : decode cT_clear 14 = .ok (.iadd, 1) := by decide +kernel
theorem dT_clear_15 : decode cT_clear 15 = .ok (.ireturn, 1) := by decide +kernel
theorem dT_edge_0 : decode cT_edge 0 = .ok (.iload_n 1, 1) := by decide +kernel
theorem dT_edge_1 : decode cT_edge 1 = .ok (.invokestatic 136, 3) := by decide +kernel
theorem dT_edge_4 : decode cT_edge 4 = .ok (.ifCond .ne 5, 3) := by decide +kernel
theorem dT_edge_7 : decode cT_edge 7 = .ok (.iconst (-1), 1) := by decide +kernel
theorem dT_edge_8 : decode cT_edge 8 = .ok (.ireturn, 1) := by decide +kernel
theorem dT_edge_9 : decode cT_edge 9 = .ok (.aload_n 0, 1) := by decide +kernel
theorem dT_edge_10 : decode cT_edge 10 = .ok (.iload_n 1, 1) := by decide +kernel
theorem dT_edge_11 : decode cT_edge 11 = .ok (.invokevirtual 139, 3) := by decide +kernel
theorem dT_edge_14 : decode cT_edge 14 = .ok (.aload_n 0, 1) := by decide +kernel
theorem dT_edge_15 : decode cT_edge 15 = .ok (.getfield 78, 3) := by decide +kernel
theorem dT_edge_18 : decode cT_edge 18 = .ok (.getfield 142, 3) := by decide +kernel
theorem dT_edge_21 : decode cT_edge 21 = .ok (.ireturn, 1) := by decide +kernel
theorem dT_teeth_0 : decode cT_teeth 0 = .ok (.iload_n 1, 1) := by decide +kernel
theorem dT_teeth_1 : decode cT_teeth 1 = .ok (.iconst 1, 1) := by decide +kernel
theorem dT_teeth_2 : decode cT_teeth 2 = .ok (.if_icmp .lt 16, 3) := by decide +kernel
theorem dT_teeth_5 : decode cT_teeth 5 = .ok (.iload_n 1, 1) := by decide +kernel
theorem dT_teeth_6 : decode cT_teeth 6 = .ok (.bipush 64, 2) := by decide +kernel
theorem dT_teeth_8 : decode cT_teeth 8 = .ok (.if_icmp .gt 10, 3) := by decide +kernel
theorem dT_teeth_11 : decode cT_teeth 11 = .ok (.iload_n 2, 1) := by decide +kernel
theorem dT_teeth_12 : decode cT_teeth 12 = .ok (.invokestatic 136, 3) := by decide +kernel
theorem dT_teeth_15 : decode cT_teeth 15 = .ok (.ifCond .ne 5, 3) := by decide +kernel
theorem dT_teeth_18 : decode cT_teeth 18 = .ok (.iconst (-1), 1) := by decide +kernel
theorem dT_teeth_19 : decode cT_teeth 19 = .ok (.ireturn, 1) := by decide +kernel
theorem dT_teeth_20 : decode cT_teeth 20 = .ok (.iconst 0, 1) := by decide +kernel
theorem dT_teeth_21 : decode cT_teeth 21 = .ok (.istore_n 3, 1) := by decide +kernel
theorem dT_teeth_22 : decode cT_teeth 22 = .ok (.iload_n 3, 1) := by decide +kernel
theorem dT_teeth_23 : decode cT_teeth 23 = .ok (.iload_n 1, 1) := by decide +kernel
theorem dT_teeth_24 : decode cT_teeth 24 = .ok (.if_icmp .ge 14, 3) := by decide +kernel
theorem dT_teeth_27 : decode cT_teeth 27 = .ok (.aload_n 0, 1) := by decide +kernel
theorem dT_teeth_28 : decode cT_teeth 28 = .ok (.iload_n 2, 1) := by decide +kernel
theorem dT_teeth_29 : decode cT_teeth 29 = .ok (.invokevirtual 139, 3) := by decide +kernel
theorem dT_teeth_32 : decode cT_teeth 32 = .ok (.iinc 3 1, 3) := by decide +kernel
theorem dT_teeth_35 : decode cT_teeth 35 = .ok (.goto (-13), 3) := by decide +kernel
theorem dT_teeth_38 : decode cT_teeth 38 = .ok (.aload_n 0, 1) := by decide +kernel
theorem dT_teeth_39 : decode cT_teeth 39 = .ok (.getfield 78, 3) := by decide +kernel
theorem dT_teeth_42 : decode cT_teeth 42 = .ok (.getfield 142, 3) := by decide +kernel
theorem dT_teeth_45 : decode cT_teeth 45 = .ok (.ireturn, 1) := by decide +kernel
theorem dT_cam_0 : decode cT_cam 0 = .ok (.aload_n 0, 1) := by decide +kernel
theorem dT_cam_1 : decode cT_cam 1 = .ok (.getfield 78, 3) := by decide +kernel
theorem dT_cam_4 : decode cT_cam 4 = .ok (.invokevirtual 145, 3) := by decide +kernel
theorem dT_cam_7 : decode cT_cam 7 = .ok (.aload_n 0, 1) := by decide +kernel
theorem dT_cam_8 : decode cT_cam 8 = .ok (.getfield 78, 3) := by decide +kernel
theorem dT_cam_11 : decode cT_cam 11 = .ok (.getfield 142, 3) := by decide +kernel
theorem dT_cam_14 : decode cT_cam 14 = .ok (.iconst 3, 1) := by decide +kernel
theorem dT_cam_15 : decode cT_cam 15 = .ok (.if_icmp .ne 7, 3) := by decide +kernel
theorem dT_cam_18 : decode cT_cam 18 = .ok (.iconst 1, 1) := by decide +kernel
theorem dT_cam_19 : decode cT_cam 19 = .ok (.goto 4, 3) := by decide +kernel
theorem dT_cam_22 : decode cT_cam 22 = .ok (.iconst 0, 1) := by decide +kernel
theorem dT_cam_23 : decode cT_cam 23 = .ok (.ireturn, 1) := by decide +kernel
theorem dT_rest_0 : decode cT_rest 0 = .ok (.iload_n 1, 1) := by decide +kernel
theorem dT_rest_1 : decode cT_rest 1 = .ok (.ifCond .lt 9, 3) := by decide +kernel
theorem dT_rest_4 : decode cT_rest 4 = .ok (.iload_n 1, 1) := by decide +kernel
theorem dT_rest_5 : decode cT_rest 5 = .ok (.ldc 148, 2) := by decide +kernel
theorem dT_rest_7 : decode cT_rest 7 = .ok (.if_icmp .le 5, 3) := by decide +kernel
theorem dT_rest_10 : decode cT_rest 10 = .ok (.iconst (-1), 1) := by decide +kernel
theorem dT_rest_11 : decode cT_rest 11 = .ok (.ireturn, 1) := by decide +kernel
theorem dT_rest_12 : decode cT_rest 12 = .ok (.aload_n 0, 1) := by decide +kernel
theorem dT_rest_13 : decode cT_rest 13 = .ok (.getfield 10, 3) := by decide +kernel
theorem dT_rest_16 : decode cT_rest 16 = .ok (.getfield 149, 3) := by decide +kernel
theorem dT_rest_19 : decode cT_rest 19 = .ok (.istore_n 2, 1) := by decide +kernel
theorem dT_rest_20 : decode cT_rest 20 = .ok (.aload_n 0, 1) := by decide +kernel
theorem dT_rest_21 : decode cT_rest 21 = .ok (.aload_n 0, 1) := by decide +kernel
theorem dT_rest_22 : decode cT_rest 22 = .ok (.getfield 47, 3) := by decide +kernel
theorem dT_rest_25 : decode cT_rest 25 = .ok (.iload_n 1, 1) := by decide +kernel
theorem dT_rest_26 : decode cT_rest 26 = .ok (.i2l, 1) := by decide +kernel
theorem dT_rest_27 : decode cT_rest 27 = .ok (.ladd, 1) := by decide +kernel
theorem dT_rest_28 : decode cT_rest 28 = .ok (.invokevirtual 152, 3) := by decide +kernel
theorem dT_rest_31 : decode cT_rest 31 = .ok (.aload_n 0, 1) := by decide +kernel
theorem dT_rest_32 : decode cT_rest 32 = .ok (.getfield 10, 3) := by decide +kernel
theorem dT_rest_35 : decode cT_rest 35 = .ok (.getfield 149, 3) := by decide +kernel
theorem dT_rest_38 : decode cT_rest 38 = .ok (.iload_n 2, 1) := by decide +kernel
theorem dT_rest_39 : decode cT_rest 39 = .ok (.isub, 1) := by decide +kernel
theorem dT_rest_40 : decode cT_rest 40 = .ok (.ireturn, 1) := by decide +kernel
theorem dT_state_0 : decode cT_state 0 = .ok (.aload_n 0, 1) := by decide +kernel
theorem dT_state_1 : decode cT_state 1 = .ok (.getfield 78, 3) := by decide +kernel
theorem dT_state_4 : decode cT_state 4 = .ok (.getfield 142, 3) := by decide +kernel
theorem dT_state_7 : decode cT_state 7 = .ok (.ireturn, 1) := by decide +kernel
theorem dT_tooth_0 : decode cT_tooth 0 = .ok (.aload_n 0, 1) := by decide +kernel
theorem dT_tooth_1 : decode cT_tooth 1 = .ok (.getfield 78, 3) := by decide +kernel
theorem dT_tooth_4 : decode cT_tooth 4 = .ok (.getfield 156, 3) := by decide +kernel
theorem dT_tooth_7 : decode cT_tooth 7 = .ok (.ireturn, 1) := by decide +kernel
theorem dT_turn_0 : decode cT_turn 0 = .ok (.aload_n 0, 1) := by decide +kernel
theorem dT_turn_1 : decode cT_turn 1 = .ok (.getfield 78, 3) := by decide +kernel
theorem dT_turn_4 : decode cT_turn 4 = .ok (.getfield 159, 3) := by decide +kernel
theorem dT_turn_7 : decode cT_turn 7 = .ok (.ireturn, 1) := by decide +kernel
theorem dT_unit_0 : decode cT_unit 0 = .ok (.aload_n 0, 1) := by decide +kernel
theorem dT_unit_1 : decode cT_unit 1 = .ok (.getfield 78, 3) := by decide +kernel
theorem dT_unit_4 : decode cT_unit 4 = .ok (.getfield 113, 3) := by decide +kernel
theorem dT_unit_7 : decode cT_unit 7 = .ok (.lreturn, 1) := by decide +kernel
theorem dT_foretell_0 : decode cT_foretell 0 = .ok (.aload_n 0, 1) := by decide +kernel
theorem dT_foretell_1 : decode cT_foretell 1 = .ok (.getfield 78, 3) := by decide +kernel
theorem dT_foretell_4 : decode cT_foretell 4 = .ok (.getfield 159, 3) := by decide +kernel
theorem dT_foretell_7 : decode cT_foretell 7 = .ok (.iconst (-1), 1) := by decide +kernel
theorem dT_foretell_8 : decode cT_foretell 8 = .ok (.if_icmp .eq 18, 3) := by decide +kernel
theorem dT_foretell_11 : decode cT_foretell 11 = .ok (.iload_n 1, 1) := by decide +kernel
theorem dT_foretell_12 : decode cT_foretell 12 = .ok (.ifCond .lt 14, 3) := by decide +kernel
theorem dT_foretell_15 : decode cT_foretell 15 = .ok (.iload_n 1, 1) := by decide +kernel
theorem dT_foretell_16 : decode cT_foretell 16 = .ok (.aload_n 0, 1) := by decide +kernel
theorem dT_foretell_17 : decode cT_foretell 17 = .ok (.getfield 78, 3) := by decide +kernel
theorem dT_foretell_20 : decode cT_foretell 20 = .ok (.getfield 162, 3) := by decide +kernel
theorem dT_foretell_23 : decode cT_foretell 23 = .ok (.if_icmp .lt 7, 3) := by decide +kernel
theorem dT_foretell_26 : decode cT_foretell 26 = .ok (.ldc2_w 127, 3) := by decide +kernel
theorem dT_foretell_29 : decode cT_foretell 29 = .ok (.lreturn, 1) := by decide +kernel
theorem dT_foretell_30 : decode cT_foretell 30 = .ok (.aload_n 0, 1) := by decide +kernel
theorem dT_foretell_31 : decode cT_foretell 31 = .ok (.getfield 78, 3) := by decide +kernel
theorem dT_foretell_34 : decode cT_foretell 34 = .ok (.getfield 165, 3) := by decide +kernel
theorem dT_foretell_37 : decode cT_foretell 37 = .ok (.aload_n 0, 1) := by decide +kernel
theorem dT_foretell_38 : decode cT_foretell 38 = .ok (.getfield 78, 3) := by decide +kernel
theorem dT_foretell_41 : decode cT_foretell 41 = .ok (.aload_n 0, 1) := by decide +kernel
theorem dT_foretell_42 : decode cT_foretell 42 = .ok (.getfield 78, 3) := by decide +kernel
theorem dT_foretell_45 : decode cT_foretell 45 = .ok (.iload_n 1, 1) := by decide +kernel
theorem dT_foretell_46 : decode cT_foretell 46 = .ok (.invokevirtual 168, 3) := by decide +kernel
theorem dT_foretell_49 : decode cT_foretell 49 = .ok (.invokevirtual 172, 3) := by decide +kernel
theorem dT_foretell_52 : decode cT_foretell 52 = .ok (.ladd, 1) := by decide +kernel
theorem dT_foretell_53 : decode cT_foretell 53 = .ok (.lreturn, 1) := by decide +kernel
theorem dT_output_0 : decode cT_output 0 = .ok (.aload_n 0, 1) := by decide +kernel
theorem dT_output_1 : decode cT_output 1 = .ok (.getfield 10, 3) := by decide +kernel
theorem dT_output_4 : decode cT_output 4 = .ok (.iload_n 1, 1) := by decide +kernel
theorem dT_output_5 : decode cT_output 5 = .ok (.invokevirtual 175, 3) := by decide +kernel
theorem dT_output_8 : decode cT_output 8 = .ok (.lreturn, 1) := by decide +kernel
theorem dT_tally_0 : decode cT_tally 0 = .ok (.iload_n 1, 1) := by decide +kernel
theorem dT_tally_1 : decode cT_tally 1 = .ok (.tableswitch 54 0 3 #[31, 36, 41, 49], 31) := by decide +kernel
theorem dT_tally_32 : decode cT_tally 32 = .ok (.aload_n 0, 1) := by decide +kernel
theorem dT_tally_33 : decode cT_tally 33 = .ok (.getfield 51, 3) := by decide +kernel
theorem dT_tally_36 : decode cT_tally 36 = .ok (.ireturn, 1) := by decide +kernel
theorem dT_tally_37 : decode cT_tally 37 = .ok (.aload_n 0, 1) := by decide +kernel
theorem dT_tally_38 : decode cT_tally 38 = .ok (.getfield 55, 3) := by decide +kernel
theorem dT_tally_41 : decode cT_tally 41 = .ok (.ireturn, 1) := by decide +kernel
theorem dT_tally_42 : decode cT_tally 42 = .ok (.aload_n 0, 1) := by decide +kernel
theorem dT_tally_43 : decode cT_tally 43 = .ok (.getfield 10, 3) := by decide +kernel
theorem dT_tally_46 : decode cT_tally 46 = .ok (.getfield 149, 3) := by decide +kernel
theorem dT_tally_49 : decode cT_tally 49 = .ok (.ireturn, 1) := by decide +kernel
theorem dT_tally_50 : decode cT_tally 50 = .ok (.aload_n 0, 1) := by decide +kernel
theorem dT_tally_51 : decode cT_tally 51 = .ok (.getfield 58, 3) := by decide +kernel
theorem dT_tally_54 : decode cT_tally 54 = .ok (.ireturn, 1) := by decide +kernel
theorem dT_tally_55 : decode cT_tally 55 = .ok (.iconst (-1), 1) := by decide +kernel
theorem dT_tally_56 : decode cT_tally 56 = .ok (.ireturn, 1) := by decide +kernel
theorem dT_waiting_0 : decode cT_waiting 0 = .ok (.aload_n 0, 1) := by decide +kernel
theorem dT_waiting_1 : decode cT_waiting 1 = .ok (.getfield 85, 3) := by decide +kernel
theorem dT_waiting_4 : decode cT_waiting 4 = .ok (.getfield 178, 3) := by decide +kernel
theorem dT_waiting_7 : decode cT_waiting 7 = .ok (.ireturn, 1) := by decide +kernel
theorem dT_running_0 : decode cT_running 0 = .ok (.aload_n 0, 1) := by decide +kernel
theorem dT_running_1 : decode cT_running 1 = .ok (.getfield 10, 3) := by decide +kernel
theorem dT_running_4 : decode cT_running 4 = .ok (.getfield 181, 3) := by decide +kernel
theorem dT_running_7 : decode cT_running 7 = .ok (.ireturn, 1) := by decide +kernel
theorem dT_within_0 : decode cT_within 0 = .ok (.iload_n 1, 1) := by decide +kernel
theorem dT_within_1 : decode cT_within 1 = .ok (.iload_n 2, 1) := by decide +kernel
theorem dT_within_2 : decode cT_within 2 = .ok (.iload_n 0, 1) := by decide +kernel
theorem dT_within_3 : decode cT_within 3 = .ok (.invokestatic 184, 3) := by decide +kernel
theorem dT_within_6 : decode cT_within 6 = .ok (.invokestatic 189, 3) := by decide +kernel
theorem dT_within_9 : decode cT_within 9 = .ok (.ireturn, 1) := by decide +kernel
theorem dT_chartOf_0 : decode cT_chartOf 0 = .ok (.iload_n 1, 1) := by decide +kernel
theorem dT_chartOf_1 : decode cT_chartOf 1 = .ok (.ifCond .ne 10, 3) := by decide +kernel
theorem dT_chartOf_4 : decode cT_chartOf 4 = .ok (.aload_n 0, 1) := by decide +kernel
theorem dT_chartOf_5 : decode cT_chartOf 5 = .ok (.getfield 21, 3) := by decide +kernel
theorem dT_chartOf_8 : decode cT_chartOf 8 = .ok (.goto 16, 3) := by decide +kernel
theorem dT_chartOf_11 : decode cT_chartOf 11 = .ok (.iload_n 1, 1) := by decide +kernel
theorem dT_chartOf_12 : decode cT_chartOf 12 = .ok (.iconst 1, 1) := by decide +kernel
theorem dT_chartOf_13 : decode cT_chartOf 13 = .ok (.if_icmp .ne 10, 3) := by decide +kernel
theorem dT_chartOf_16 : decode cT_chartOf 16 = .ok (.aload_n 0, 1) := by decide +kernel
theorem dT_chartOf_17 : decode cT_chartOf 17 = .ok (.getfield 25, 3) := by decide +kernel
theorem dT_chartOf_20 : decode cT_chartOf 20 = .ok (.goto 4, 3) := by decide +kernel
theorem dT_chartOf_23 : decode cT_chartOf 23 = .ok (.aconst_null, 1) := by decide +kernel
theorem dT_chartOf_24 : decode cT_chartOf 24 = .ok (.areturn, 1) := by decide +kernel
theorem dT_sensorOf_0 : decode cT_sensorOf 0 = .ok (.iload_n 1, 1) := by decide +kernel
theorem dT_sensorOf_1 : decode cT_sensorOf 1 = .ok (.ifCond .ne 10, 3) := by decide +kernel
theorem dT_sensorOf_4 : decode cT_sensorOf 4 = .ok (.aload_n 0, 1) := by decide +kernel
theorem dT_sensorOf_5 : decode cT_sensorOf 5 = .ok (.getfield 37, 3) := by decide +kernel
theorem dT_sensorOf_8 : decode cT_sensorOf 8 = .ok (.goto 16, 3) := by decide +kernel
theorem dT_sensorOf_11 : decode cT_sensorOf 11 = .ok (.iload_n 1, 1) := by decide +kernel
theorem dT_sensorOf_12 : decode cT_sensorOf 12 = .ok (.iconst 1, 1) := by decide +kernel
theorem dT_sensorOf_13 : decode cT_sensorOf 13 = .ok (.if_icmp .ne 10, 3) := by decide +kernel
theorem dT_sensorOf_16 : decode cT_sensorOf 16 = .ok (.aload_n 0, 1) := by decide +kernel
theorem dT_sensorOf_17 : decode cT_sensorOf 17 = .ok (.getfield 44, 3) := by decide +kernel
theorem dT_sensorOf_20 : decode cT_sensorOf 20 = .ok (.goto 4, 3) := by decide +kernel
theorem dT_sensorOf_23 : decode cT_sensorOf 23 = .ok (.aconst_null, 1) := by decide +kernel
theorem dT_sensorOf_24 : decode cT_sensorOf 24 = .ok (.areturn, 1) := by decide +kernel
theorem dT_canFollow_0 : decode cT_canFollow 0 = .ok (.iload_n 0, 1) := by decide +kernel
theorem dT_canFollow_1 : decode cT_canFollow 1 = .ok (.iconst 1, 1) := by decide +kernel
theorem dT_canFollow_2 : decode cT_canFollow 2 = .ok (.if_icmp .lt 13, 3) := by decide +kernel
theorem dT_canFollow_5 : decode cT_canFollow 5 = .ok (.iload_n 0, 1) := by decide +kernel
theorem dT_canFollow_6 : decode cT_canFollow 6 = .ok (.ldc 192, 2) := by decide +kernel
theorem dT_canFollow_8 : decode cT_canFollow 8 = .ok (.if_icmp .gt 7, 3) := by decide +kernel
theorem dT_canFollow_11 : decode cT_canFollow 11 = .ok (.iconst 1, 1) := by decide +kernel
theorem dT_canFollow_12 : decode cT_canFollow 12 = .ok (.goto 4, 3) := by decide +kernel
theorem dT_canFollow_15 : decode cT_canFollow 15 = .ok (.iconst 0, 1) := by decide +kernel
theorem dT_canFollow_16 : decode cT_canFollow 16 = .ok (.ireturn, 1) := by decide +kernel
theorem dT_meetEdge_0 : decode cT_meetEdge 0 = .ok (.aload_n 0, 1) := by decide +kernel
theorem dT_meetEdge_1 : decode cT_meetEdge 1 = .ok (.aload_n 0, 1) := by decide +kernel
theorem dT_meetEdge_2 : decode cT_meetEdge 2 = .ok (.getfield 47, 3) := by decide +kernel
theorem dT_meetEdge_5 : decode cT_meetEdge 5 = .ok (.iload_n 1, 1) := by decide +kernel
theorem dT_meetEdge_6 : decode cT_meetEdge 6 = .ok (.i2l, 1) := by decide +kernel
theorem dT_meetEdge_7 : decode cT_meetEdge 7 = .ok (.ladd, 1) := by decide +kernel
theorem dT_meetEdge_8 : decode cT_meetEdge 8 = .ok (.invokevirtual 152, 3) := by decide +kernel
theorem dT_meetEdge_11 : decode cT_meetEdge 11 = .ok (.aload_n 0, 1) := by decide +kernel
theorem dT_meetEdge_12 : decode cT_meetEdge 12 = .ok (.getfield 78, 3) := by decide +kernel
theorem dT_meetEdge_15 : decode cT_meetEdge 15 = .ok (.getfield 142, 3) := by decide +kernel
theorem dT_meetEdge_18 : decode cT_meetEdge 18 = .ok (.iconst 3, 1) := by decide +kernel
theorem dT_meetEdge_19 : decode cT_meetEdge 19 = .ok (.if_icmp .ne 7, 3) := by decide +kernel
theorem dT_meetEdge_22 : decode cT_meetEdge 22 = .ok (.iconst 1, 1) := by decide +kernel
theorem dT_meetEdge_23 : decode cT_meetEdge 23 = .ok (.goto 4, 3) := by decide +kernel
theorem dT_meetEdge_26 : decode cT_meetEdge 26 = .ok (.iconst 0, 1) := by decide +kernel
theorem dT_meetEdge_27 : decode cT_meetEdge 27 = .ok (.istore_n 2, 1) := by decide +kernel
theorem dT_meetEdge_28 : decode cT_meetEdge 28 = .ok (.aload_n 0, 1) := by decide +kernel
theorem dT_meetEdge_29 : decode cT_meetEdge 29 = .ok (.getfield 78, 3) := by decide +kernel
theorem dT_meetEdge_32 : decode cT_meetEdge 32 = .ok (.aload_n 0, 1) := by decide +kernel
theorem dT_meetEdge_33 : decode cT_meetEdge 33 = .ok (.getfield 47, 3) := by decide +kernel
theorem dT_meetEdge_36 : decode cT_meetEdge 36 = .ok (.invokevirtual 193, 3) := by decide +kernel
theorem dT_meetEdge_39 : decode cT_meetEdge 39 = .ok (.iload_n 2, 1) := by decide +kernel
theorem dT_meetEdge_40 : decode cT_meetEdge 40 = .ok (.ifCond .eq 18, 3) := by decide +kernel
theorem dT_meetEdge_43 : decode cT_meetEdge 43 = .ok (.aload_n 0, 1) := by decide +kernel
theorem dT_meetEdge_44 : decode cT_meetEdge 44 = .ok (.getfield 78, 3) := by decide +kernel
theorem dT_meetEdge_47 : decode cT_meetEdge 47 = .ok (.getfield 142, 3) := by decide +kernel
theorem dT_meetEdge_50 : decode cT_meetEdge 50 = .ok (.iconst 3, 1) := by decide +kernel
theorem dT_meetEdge_51 : decode cT_meetEdge 51 = .ok (.if_icmp .eq 7, 3) := by decide +kernel
theorem dT_meetEdge_54 : decode cT_meetEdge 54 = .ok (.aload_n 0, 1) := by decide +kernel
theorem dT_meetEdge_55 : decode cT_meetEdge 55 = .ok (.invokevirtual 196, 3) := by decide +kernel
theorem dT_meetEdge_58 : decode cT_meetEdge 58 = .ok (.aload_n 0, 1) := by decide +kernel
theorem dT_meetEdge_59 : decode cT_meetEdge 59 = .ok (.getfield 78, 3) := by decide +kernel
theorem dT_meetEdge_62 : decode cT_meetEdge 62 = .ok (.getfield 159, 3) := by decide +kernel
theorem dT_meetEdge_65 : decode cT_meetEdge 65 = .ok (.iconst (-1), 1) := by decide +kernel
theorem dT_meetEdge_66 : decode cT_meetEdge 66 = .ok (.if_icmp .eq 15, 3) := by decide +kernel
theorem dT_meetEdge_69 : decode cT_meetEdge 69 = .ok (.aload_n 0, 1) := by decide +kernel
theorem dT_meetEdge_70 : decode cT_meetEdge 70 = .ok (.invokevirtual 199, 3) := by decide +kernel
theorem dT_meetEdge_73 : decode cT_meetEdge 73 = .ok (.aload_n 0, 1) := by decide +kernel
theorem dT_meetEdge_74 : decode cT_meetEdge 74 = .ok (.aload_n 0, 1) := by decide +kernel
theorem dT_meetEdge_75 : decode cT_meetEdge 75 = .ok (.getfield 47, 3) := by decide +kernel
theorem dT_meetEdge_78 : decode cT_meetEdge 78 = .ok (.invokevirtual 152, 3) := by decide +kernel
theorem dT_meetEdge_81 : decode cT_meetEdge 81 = .ok (.return_, 1) := by decide +kernel
theorem dT_goOnTo_0 : decode cT_goOnTo 0 = .ok (.aload_n 0, 1) := by decide +kernel
theorem dT_goOnTo_1 : decode cT_goOnTo 1 = .ok (.getfield 78, 3) := by decide +kernel
theorem dT_goOnTo_4 : decode cT_goOnTo 4 = .ok (.lload_n 1, 1) := by decide +kernel
theorem dT_goOnTo_5 : decode cT_goOnTo 5 = .ok (.invokevirtual 202, 3) := by decide +kernel
theorem dT_goOnTo_8 : decode cT_goOnTo 8 = .ok (.istore_n 3, 1) := by decide +kernel
theorem dT_goOnTo_9 : decode cT_goOnTo 9 = .ok (.iload_n 3, 1) := by decide +kernel
theorem dT_goOnTo_10 : decode cT_goOnTo 10 = .ok (.ifCond .eq 13, 3) := by decide +kernel
theorem dT_goOnTo_13 : decode cT_goOnTo 13 = .ok (.aload_n 0, 1) := by decide +kernel
theorem dT_goOnTo_14 : decode cT_goOnTo 14 = .ok (.getfield 78, 3) := by decide +kernel
theorem dT_goOnTo_17 : decode cT_goOnTo 17 = .ok (.invokevirtual 206, 3) := by decide +kernel
theorem dT_goOnTo_20 : decode cT_goOnTo 20 = .ok (.goto 4, 3) := by decide +kernel
theorem dT_goOnTo_23 : decode cT_goOnTo 23 = .ok (.lload_n 1, 1) := by decide +kernel
theorem dT_goOnTo_24 : decode cT_goOnTo 24 = .ok (.lstore 4, 2) := by decide +kernel
theorem dT_goOnTo_26 : decode cT_goOnTo 26 = .ok (.iconst 0, 1) := by decide +kernel
theorem dT_goOnTo_27 : decode cT_goOnTo 27 = .ok (.istore 6, 2) := by decide +kernel
theorem dT_goOnTo_29 : decode cT_goOnTo 29 = .ok (.iload 6, 2) := by decide +kernel
theorem dT_goOnTo_31 : decode cT_goOnTo 31 = .ok (.sipush 1000, 3) := by decide +kernel
theorem dT_goOnTo_34 : decode cT_goOnTo 34 = .ok (.if_icmp .ge 35, 3) := by decide +kernel
theorem dT_goOnTo_37 : decode cT_goOnTo 37 = .ok (.aload_n 0, 1) := by decide +kernel
theorem dT_goOnTo_38 : decode cT_goOnTo 38 = .ok (.getfield 85, 3) := by decide +kernel
theorem dT_goOnTo_41 : decode cT_goOnTo 41 = .ok (.lload 4, 2) := by decide +kernel
theorem dT_goOnTo_43 : decode cT_goOnTo 43 = .ok (.invokevirtual 210, 3) := by decide +kernel
theorem dT_goOnTo_46 : decode cT_goOnTo 46 = .ok (.istore 7, 2) := by decide +kernel
theorem dT_goOnTo_48 : decode cT_goOnTo 48 = .ok (.iload 7, 2) := by decide +kernel
theorem dT_goOnTo_50 : decode cT_goOnTo 50 = .ok (.iconst (-1), 1) := by decide +kernel
theorem dT_goOnTo_51 : decode cT_goOnTo 51 = .ok (.if_icmp .ne 6, 3) := by decide +kernel
theorem dT_goOnTo_54 : decode cT_goOnTo 54 = .ok (.goto 15, 3) := by decide +kernel
theorem dT_goOnTo_57 : decode cT_goOnTo 57 = .ok (.aload_n 0, 1) := by decide +kernel
theorem dT_goOnTo_58 : decode cT_goOnTo 58 = .ok (.iload 7, 2) := by decide +kernel
theorem dT_goOnTo_60 : decode cT_goOnTo 60 = .ok (.invokevirtual 214, 3) := by decide +kernel
theorem dT_goOnTo_63 : decode cT_goOnTo 63 = .ok (.iinc 6 1, 3) := by decide +kernel
theorem dT_goOnTo_66 : decode cT_goOnTo 66 = .ok (.goto (-37), 3) := by decide +kernel
theorem dT_goOnTo_69 : decode cT_goOnTo 69 = .ok (.iload_n 3, 1) := by decide +kernel
theorem dT_goOnTo_70 : decode cT_goOnTo 70 = .ok (.ifCond .eq 13, 3) := by decide +kernel
theorem dT_goOnTo_73 : decode cT_goOnTo 73 = .ok (.aload_n 0, 1) := by decide +kernel
theorem dT_goOnTo_74 : decode cT_goOnTo 74 = .ok (.lload 4, 2) := by decide +kernel
theorem dT_goOnTo_76 : decode cT_goOnTo 76 = .ok (.putfield 47, 3) := by decide +kernel
theorem dT_goOnTo_79 : decode cT_goOnTo 79 = .ok (.aload_n 0, 1) := by decide +kernel
theorem dT_goOnTo_80 : decode cT_goOnTo 80 = .ok (.invokevirtual 217, 3) := by decide +kernel
theorem dT_goOnTo_83 : decode cT_goOnTo 83 = .ok (.aload_n 0, 1) := by decide +kernel
theorem dT_goOnTo_84 : decode cT_goOnTo 84 = .ok (.lload_n 1, 1) := by decide +kernel
theorem dT_goOnTo_85 : decode cT_goOnTo 85 = .ok (.putfield 47, 3) := by decide +kernel
theorem dT_goOnTo_88 : decode cT_goOnTo 88 = .ok (.return_, 1) := by decide +kernel
theorem dT_stall_0 : decode cT_stall 0 = .ok (.aload_n 0, 1) := by decide +kernel
theorem dT_stall_1 : decode cT_stall 1 = .ok (.getfield 78, 3) := by decide +kernel
theorem dT_stall_4 : decode cT_stall 4 = .ok (.getfield 142, 3) := by decide +kernel
theorem dT_stall_7 : decode cT_stall 7 = .ok (.iconst 3, 1) := by decide +kernel
theorem dT_stall_8 : decode cT_stall 8 = .ok (.if_icmp .ne 7, 3) := by decide +kernel
theorem dT_stall_11 : decode cT_stall 11 = .ok (.iconst 1, 1) := by decide +kernel
theorem dT_stall_12 : decode cT_stall 12 = .ok (.goto 4, 3) := by decide +kernel
theorem dT_stall_15 : decode cT_stall 15 = .ok (.iconst 0, 1) := by decide +kernel
theorem dT_stall_16 : decode cT_stall 16 = .ok (.istore_n 1, 1) := by decide +kernel
theorem dT_stall_17 : decode cT_stall 17 = .ok (.aload_n 0, 1) := by decide +kernel
theorem dT_stall_18 : decode cT_stall 18 = .ok (.getfield 78, 3) := by decide +kernel
theorem dT_stall_21 : decode cT_stall 21 = .ok (.invokevirtual 220, 3) := by decide +kernel
theorem dT_stall_24 : decode cT_stall 24 = .ok (.iload_n 1, 1) := by decide +kernel
theorem dT_stall_25 : decode cT_stall 25 = .ok (.ifCond .eq 7, 3) := by decide +kernel
theorem dT_stall_28 : decode cT_stall 28 = .ok (.aload_n 0, 1) := by decide +kernel
theorem dT_stall_29 : decode cT_stall 29 = .ok (.invokevirtual 196, 3) := by decide +kernel
theorem dT_stall_32 : decode cT_stall 32 = .ok (.return_, 1) := by decide +kernel
theorem dT_shutDown_0 : decode cT_shutDown 0 = .ok (.aload_n 0, 1) := by decide +kernel
theorem dT_shutDown_1 : decode cT_shutDown 1 = .ok (.dup, 1) := by decide +kernel
theorem dT_shutDown_2 : decode cT_shutDown 2 = .ok (.getfield 58, 3) := by decide +kernel
theorem dT_shutDown_5 : decode cT_shutDown 5 = .ok (.iconst 1, 1) := by decide +kernel
theorem dT_shutDown_6 : decode cT_shutDown 6 = .ok (.iadd, 1) := by decide +kernel
theorem dT_shutDown_7 : decode cT_shutDown 7 = .ok (.putfield 58, 3) := by decide +kernel
theorem dT_shutDown_10 : decode cT_shutDown 10 = .ok (.aload_n 0, 1) := by decide +kernel
theorem dT_shutDown_11 : decode cT_shutDown 11 = .ok (.getfield 85, 3) := by decide +kernel
theorem dT_shutDown_14 : decode cT_shutDown 14 = .ok (.invokevirtual 223, 3) := by decide +kernel
theorem dT_shutDown_17 : decode cT_shutDown 17 = .ok (.aload_n 0, 1) := by decide +kernel
theorem dT_shutDown_18 : decode cT_shutDown 18 = .ok (.getfield 10, 3) := by decide +kernel
theorem dT_shutDown_21 : decode cT_shutDown 21 = .ok (.aload_n 0, 1) := by decide +kernel
theorem dT_shutDown_22 : decode cT_shutDown 22 = .ok (.getfield 47, 3) := by decide +kernel
theorem dT_shutDown_25 : decode cT_shutDown 25 = .ok (.invokevirtual 226, 3) := by decide +kernel
theorem dT_shutDown_28 : decode cT_shutDown 28 = .ok (.return_, 1) := by decide +kernel
theorem dT_fireAt_0 : decode cT_fireAt 0 = .ok (.aload_n 0, 1) := by decide +kernel
theorem dT_fireAt_1 : decode cT_fireAt 1 = .ok (.aload_n 0, 1) := by decide +kernel
theorem dT_fireAt_2 : decode cT_fireAt 2 = .ok (.getfield 85, 3) := by decide +kernel
theorem dT_fireAt_5 : decode cT_fireAt 5 = .ok (.getfield 229, 3) := by decide +kernel
theorem dT_fireAt_8 : decode cT_fireAt 8 = .ok (.iload_n 1, 1) := by decide +kernel
theorem dT_fireAt_9 : decode cT_fireAt 9 = .ok (.laload, 1) := by decide +kernel
theorem dT_fireAt_10 : decode cT_fireAt 10 = .ok (.putfield 47, 3) := by decide +kernel
theorem dT_fireAt_13 : decode cT_fireAt 13 = .ok (.aload_n 0, 1) := by decide +kernel
theorem dT_fireAt_14 : decode cT_fireAt 14 = .ok (.getfield 85, 3) := by decide +kernel
theorem dT_fireAt_17 : decode cT_fireAt 17 = .ok (.iload_n 1, 1) := by decide +kernel
theorem dT_fireAt_18 : decode cT_fireAt 18 = .ok (.invokevirtual 233, 3) := by decide +kernel
theorem dT_fireAt_21 : decode cT_fireAt 21 = .ok (.istore_n 2, 1) := by decide +kernel
theorem dT_fireAt_22 : decode cT_fireAt 22 = .ok (.aload_n 0, 1) := by decide +kernel
theorem dT_fireAt_23 : decode cT_fireAt 23 = .ok (.getfield 85, 3) := by decide +kernel
theorem dT_fireAt_26 : decode cT_fireAt 26 = .ok (.iload_n 1, 1) := by decide +kernel
theorem dT_fireAt_27 : decode cT_fireAt 27 = .ok (.invokevirtual 236, 3) := by decide +kernel
theorem dT_fireAt_30 : decode cT_fireAt 30 = .ok (.istore_n 3, 1) := by decide +kernel
theorem dT_fireAt_31 : decode cT_fireAt 31 = .ok (.aload_n 0, 1) := by decide +kernel
theorem dT_fireAt_32 : decode cT_fireAt 32 = .ok (.getfield 85, 3) := by decide +kernel
theorem dT_fireAt_35 : decode cT_fireAt 35 = .ok (.iload_n 2, 1) := by decide +kernel
theorem dT_fireAt_36 : decode cT_fireAt 36 = .ok (.iload_n 3, 1) := by decide +kernel
theorem dT_fireAt_37 : decode cT_fireAt 37 = .ok (.invokevirtual 239, 3) := by decide +kernel
theorem dT_fireAt_40 : decode cT_fireAt 40 = .ok (.iload_n 2, 1) := by decide +kernel
theorem dT_fireAt_41 : decode cT_fireAt 41 = .ok (.tableswitch 83 0 3 #[31, 39, 47, 75], 31) := by decide +kernel
theorem dT_fireAt_72 : decode cT_fireAt 72 = .ok (.aload_n 0, 1) := by decide +kernel
theorem dT_fireAt_73 : decode cT_fireAt 73 = .ok (.iload_n 3, 1) := by decide +kernel
theorem dT_fireAt_74 : decode cT_fireAt 74 = .ok (.invokevirtual 243, 3) := by decide +kernel
theorem dT_fireAt_77 : decode cT_fireAt 77 = .ok (.goto 63, 3) := by decide +kernel
theorem dT_fireAt_80 : decode cT_fireAt 80 = .ok (.aload_n 0, 1) := by decide +kernel
theorem dT_fireAt_81 : decode cT_fireAt 81 = .ok (.iload_n 3, 1) := by decide +kernel
theorem dT_fireAt_82 : decode cT_fireAt 82 = .ok (.invokevirtual 246, 3) := by decide +kernel
theorem dT_fireAt_85 : decode cT_fireAt 85 = .ok (.goto 55, 3) := by decide +kernel
theorem dT_fireAt_88 : decode cT_fireAt 88 = .ok (.aload_n 0, 1) := by decide +kernel
theorem dT_fireAt_89 : decode cT_fireAt 89 = .ok (.getfield 10, 3) := by decide +kernel
theorem dT_fireAt_92 : decode cT_fireAt 92 = .ok (.iconst 0, 1) := by decide +kernel
theorem dT_fireAt_93 : decode cT_fireAt 93 = .ok (.iload_n 3, 1) := by decide +kernel
theorem dT_fireAt_94 : decode cT_fireAt 94 = .ok (.iadd, 1) := by decide +kernel
theorem dT_fireAt_95 : decode cT_fireAt 95 = .ok (.iconst 0, 1) := by decide +kernel
theorem dT_fireAt_96 : decode cT_fireAt 96 = .ok (.aload_n 0, 1) := by decide +kernel
theorem dT_fireAt_97 : decode cT_fireAt 97 = .ok (.getfield 47, 3) := by decide +kernel
theorem dT_fireAt_100 : decode cT_fireAt 100 = .ok (.invokevirtual 249, 3) := by decide +kernel
theorem dT_fireAt_103 : decode cT_fireAt 103 = .ok (.aload_n 0, 1) := by decide +kernel
theorem dT_fireAt_104 : decode cT_fireAt 104 = .ok (.dup, 1) := by decide +kernel
theorem dT_fireAt_105 : decode cT_fireAt 105 = .ok (.getfield 55, 3) := by decide +kernel
theorem dT_fireAt_108 : decode cT_fireAt 108 = .ok (.iconst 1, 1) := by decide +kernel
theorem dT_fireAt_109 : decode cT_fireAt 109 = .ok (.iadd, 1) := by decide +kernel
theorem dT_fireAt_110 : decode cT_fireAt 110 = .ok (.putfield 55, 3) := by decide +kernel
theorem dT_fireAt_113 : decode cT_fireAt 113 = .ok (.goto 27, 3) := by decide +kernel
theorem dT_fireAt_116 : decode cT_fireAt 116 = .ok (.aload_n 0, 1) := by decide +kernel
theorem dT_fireAt_117 : decode cT_fireAt 117 = .ok (.iload_n 3, 1) := by decide +kernel
theorem dT_fireAt_118 : decode cT_fireAt 118 = .ok (.invokevirtual 253, 3) := by decide +kernel
theorem dT_fireAt_121 : decode cT_fireAt 121 = .ok (.goto 19, 3) := by decide +kernel
theorem dT_fireAt_124 : decode cT_fireAt 124 = .ok (.aload_n 0, 1) := by decide +kernel
theorem dT_fireAt_125 : decode cT_fireAt 125 = .ok (.getfield 10, 3) := by decide +kernel
theorem dT_fireAt_128 : decode cT_fireAt 128 = .ok (.bipush 8, 2) := by decide +kernel
theorem dT_fireAt_130 : decode cT_fireAt 130 = .ok (.iload_n 3, 1) := by decide +kernel
theorem dT_fireAt_131 : decode cT_fireAt 131 = .ok (.iadd, 1) := by decide +kernel
theorem dT_fireAt_132 : decode cT_fireAt 132 = .ok (.iconst 0, 1) := by decide +kernel
theorem dT_fireAt_133 : decode cT_fireAt 133 = .ok (.aload_n 0, 1) := by decide +kernel
theorem dT_fireAt_134 : decode cT_fireAt 134 = .ok (.getfield 47, 3) := by decide +kernel
theorem dT_fireAt_137 : decode cT_fireAt 137 = .ok (.invokevirtual 249, 3) := by decide +kernel
theorem dT_fireAt_140 : decode cT_fireAt 140 = .ok (.return_, 1) := by decide +kernel
theorem dT_chargeCoil_0 : decode cT_chargeCoil 0 = .ok (.aload_n 0, 1) := by decide +kernel
theorem dT_chargeCoil_1 : decode cT_chargeCoil 1 = .ok (.getfield 10, 3) := by decide +kernel
theorem dT_chargeCoil_4 : decode cT_chargeCoil 4 = .ok (.iconst 0, 1) := by decide +kernel
theorem dT_chargeCoil_5 : decode cT_chargeCoil 5 = .ok (.iload_n 1, 1) := by decide +kernel
theorem dT_chargeCoil_6 : decode cT_chargeCoil 6 = .ok (.iadd, 1) := by decide +kernel
theorem dT_chargeCoil_7 : decode cT_chargeCoil 7 = .ok (.invokevirtual 256, 3) := by decide +kernel
theorem dT_chargeCoil_10 : decode cT_chargeCoil 10 = .ok (.ifCond .ne 37, 3) := by decide +kernel
theorem dT_chargeCoil_13 : decode cT_chargeCoil 13 = .ok (.aload_n 0, 1) := by decide +kernel
theorem dT_chargeCoil_14 : decode cT_chargeCoil 14 = .ok (.getfield 10, 3) := by decide +kernel
theorem dT_chargeCoil_17 : decode cT_chargeCoil 17 = .ok (.iconst 0, 1) := by decide +kernel
theorem dT_chargeCoil_18 : decode cT_chargeCoil 18 = .ok (.iload_n 1, 1) := by decide +kernel
theorem dT_chargeCoil_19 : decode cT_chargeCoil 19 = .ok (.iadd, 1) := by decide +kernel
theorem dT_chargeCoil_20 : decode cT_chargeCoil 20 = .ok (.iconst 1, 1) := by decide +kernel
theorem dT_chargeCoil_21 : decode cT_chargeCoil 21 = .ok (.aload_n 0, 1) := by decide +kernel
theorem dT_chargeCoil_22 : decode cT_chargeCoil 22 = .ok (.getfield 47, 3) := by decide +kernel
theorem dT_chargeCoil_25 : decode cT_chargeCoil 25 = .ok (.invokevirtual 249, 3) := by decide +kernel
theorem dT_chargeCoil_28 : decode cT_chargeCoil 28 = .ok (.aload_n 0, 1) := by decide +kernel
theorem dT_chargeCoil_29 : decode cT_chargeCoil 29 = .ok (.getfield 85, 3) := by decide +kernel
theorem dT_chargeCoil_32 : decode cT_chargeCoil 32 = .ok (.iconst 2, 1) := by decide +kernel
theorem dT_chargeCoil_33 : decode cT_chargeCoil 33 = .ok (.iload_n 1, 1) := by decide +kernel
theorem dT_chargeCoil_34 : decode cT_chargeCoil 34 = .ok (.aload_n 0, 1) := by decide +kernel
theorem dT_chargeCoil_35 : decode cT_chargeCoil 35 = .ok (.getfield 47, 3) := by decide +kernel
theorem dT_chargeCoil_38 : decode cT_chargeCoil 38 = .ok (.aload_n 0, 1) := by decide +kernel
theorem dT_chargeCoil_39 : decode cT_chargeCoil 39 = .ok (.getfield 72, 3) := by decide +kernel
theorem dT_chargeCoil_42 : decode cT_chargeCoil 42 = .ok (.i2l, 1) := by decide +kernel
theorem dT_chargeCoil_43 : decode cT_chargeCoil 43 = .ok (.ladd, 1) := by decide +kernel
theorem dT_chargeCoil_44 : decode cT_chargeCoil 44 = .ok (.invokevirtual 259, 3) := by decide +kernel
theorem dT_chargeCoil_47 : decode cT_chargeCoil 47 = .ok (.return_, 1) := by decide +kernel
theorem dT_fireCoil_0 : decode cT_fireCoil 0 = .ok (.aload_n 0, 1) := by decide +kernel
theorem dT_fireCoil_1 : decode cT_fireCoil 1 = .ok (.getfield 10, 3) := by decide +kernel
theorem dT_fireCoil_4 : decode cT_fireCoil 4 = .ok (.iconst 0, 1) := by decide +kernel
theorem dT_fireCoil_5 : decode cT_fireCoil 5 = .ok (.iload_n 1, 1) := by decide +kernel
theorem dT_fireCoil_6 : decode cT_fireCoil 6 = .ok (.iadd, 1) := by decide +kernel
theorem dT_fireCoil_7 : decode cT_fireCoil 7 = .ok (.invokevirtual 256, 3) := by decide +kernel
theorem dT_fireCoil_10 : decode cT_fireCoil 10 = .ok (.ifCond .eq 37, 3) := by decide +kernel
theorem dT_fireCoil_13 : decode cT_fireCoil 13 = .ok (.aload_n 0, 1) := by decide +kernel
theorem dT_fireCoil_14 : decode cT_fireCoil 14 = .ok (.getfield 10, 3) := by decide +kernel
theorem dT_fireCoil_17 : decode cT_fireCoil 17 = .ok (.iconst 0, 1) := by decide +kernel
theorem dT_fireCoil_18 : decode cT_fireCoil 18 = .ok (.iload_n 1, 1) := by decide +kernel
theorem dT_fireCoil_19 : decode cT_fireCoil 19 = .ok (.iadd, 1) := by decide +kernel
theorem dT_fireCoil_20 : decode cT_fireCoil 20 = .ok (.iconst 0, 1) := by decide +kernel
theorem dT_fireCoil_21 : decode cT_fireCoil 21 = .ok (.aload_n 0, 1) := by decide +kernel
theorem dT_fireCoil_22 : decode cT_fireCoil 22 = .ok (.getfield 47, 3) := by decide +kernel
theorem dT_fireCoil_25 : decode cT_fireCoil 25 = .ok (.invokevirtual 249, 3) := by decide +kernel
theorem dT_fireCoil_28 : decode cT_fireCoil 28 = .ok (.aload_n 0, 1) := by decide +kernel
theorem dT_fireCoil_29 : decode cT_fireCoil 29 = .ok (.dup, 1) := by decide +kernel
theorem dT_fireCoil_30 : decode cT_fireCoil 30 = .ok (.getfield 51, 3) := by decide +kernel
theorem dT_fireCoil_33 : decode cT_fireCoil 33 = .ok (.iconst 1, 1) := by decide +kernel
theorem dT_fireCoil_34 : decode cT_fireCoil 34 = .ok (.iadd, 1) := by decide +kernel
theorem dT_fireCoil_35 : decode cT_fireCoil 35 = .ok (.putfield 51, 3) := by decide +kernel
theorem dT_fireCoil_38 : decode cT_fireCoil 38 = .ok (.aload_n 0, 1) := by decide +kernel
theorem dT_fireCoil_39 : decode cT_fireCoil 39 = .ok (.getfield 85, 3) := by decide +kernel
theorem dT_fireCoil_42 : decode cT_fireCoil 42 = .ok (.iconst 2, 1) := by decide +kernel
theorem dT_fireCoil_43 : decode cT_fireCoil 43 = .ok (.iload_n 1, 1) := by decide +kernel
theorem dT_fireCoil_44 : decode cT_fireCoil 44 = .ok (.invokevirtual 239, 3) := by decide +kernel
theorem dT_fireCoil_47 : decode cT_fireCoil 47 = .ok (.return_, 1) := by decide +kernel
theorem dT_openInjector_0 : decode cT_openInjector 0 = .ok (.aload_n 0, 1) := by decide +kernel
theorem dT_openInjector_1 : decode cT_openInjector 1 = .ok (.aload_n 0, 1) := by decide +kernel
theorem dT_openInjector_2 : decode cT_openInjector 2 = .ok (.aload_n 0, 1) := by decide +kernel
theorem dT_openInjector_3 : decode cT_openInjector 3 = .ok (.getfield 25, 3) := by decide +kernel
theorem dT_openInjector_6 : decode cT_openInjector 6 = .ok (.invokevirtual 263, 3) := by decide +kernel
theorem dT_openInjector_9 : decode cT_openInjector 9 = .ok (.invokevirtual 267, 3) := by decide +kernel
theorem dT_openInjector_12 : decode cT_openInjector 12 = .ok (.istore_n 2, 1) := by decide +kernel
theorem dT_openInjector_13 : decode cT_openInjector 13 = .ok (.aload_n 0, 1) := by decide +kernel
theorem dT_openInjector_14 : decode cT_openInjector 14 = .ok (.getfield 10, 3) := by decide +kernel
theorem dT_openInjector_17 : decode cT_openInjector 17 = .ok (.bipush 8, 2) := by decide +kernel
theorem dT_openInjector_19 : decode cT_openInjector 19 = .ok (.iload_n 1, 1) := by decide +kernel
theorem dT_openInjector_20 : decode cT_openInjector 20 = .ok (.iadd, 1) := by decide +kernel
theorem dT_openInjector_21 : decode cT_openInjector 21 = .ok (.invokevirtual 256, 3) := by decide +kernel
theorem dT_openInjector_24 : decode cT_openInjector 24 = .ok (.ifCond .ne 39, 3) := by decide +kernel
theorem dT_openInjector_27 : decode cT_openInjector 27 = .ok (.iload_n 2, 1) := by decide +kernel
theorem dT_openInjector_28 : decode cT_openInjector 28 = .ok (.ifCond .eq 35, 3) := by decide +kernel
theorem dT_openInjector_31 : decode cT_openInjector 31 = .ok (.aload_n 0, 1) := by decide +kernel
theorem dT_openInjector_32 : decode cT_openInjector 32 = .ok (.getfield 10, 3) := by decide +kernel
theorem dT_openInjector_35 : decode cT_openInjector 35 = .ok (.bipush 8, 2) := by decide +kernel
theorem dT_openInjector_37 : decode cT_openInjector 37 = .ok (.iload_n 1, 1) := by decide +kernel
theorem dT_openInjector_38 : decode cT_openInjector 38 = .ok (.iadd, 1) := by decide +kernel
theorem dT_openInjector_39 : decode cT_openInjector 39 = .ok (.iconst 1, 1) := by decide +kernel
theorem dT_openInjector_40 : decode cT_openInjector 40 = .ok (.aload_n 0, 1) := by decide +kernel
theorem dT_openInjector_41 : decode cT_openInjector 41 = .ok (.getfield 47, 3) := by decide +kernel
theorem dT_openInjector_44 : decode cT_openInjector 44 = .ok (.invokevirtual 249, 3) := by decide +kernel
theorem dT_openInjector_47 : decode cT_openInjector 47 = .ok (.aload_n 0, 1) := by decide +kernel
theorem dT_openInjector_48 : decode cT_openInjector 48 = .ok (.getfield 85, 3) := by decide +kernel
theorem dT_openInjector_51 : decode cT_openInjector 51 = .ok (.iconst 4, 1) := by decide +kernel
theorem dT_openInjector_52 : decode cT_openInjector 52 = .ok (.iload_n 1, 1) := by decide +kernel
theorem dT_openInjector_53 : decode cT_openInjector 53 = .ok (.aload_n 0, 1) := by decide +kernel
theorem dT_openInjector_54 : decode cT_openInjector 54 = .ok (.getfield 47, 3) := by decide +kernel
theorem dT_openInjector_57 : decode cT_openInjector 57 = .ok (.iload_n 2, 1) := by decide +kernel
theorem dT_openInjector_58 : decode cT_openInjector 58 = .ok (.i2l, 1) := by decide +kernel
theorem dT_openInjector_59 : decode cT_openInjector 59 = .ok (.ladd, 1) := by decide +kernel
theorem dT_openInjector_60 : decode cT_openInjector 60 = .ok (.invokevirtual 259, 3) := by decide +kernel
theorem dT_openInjector_63 : decode cT_openInjector 63 = .ok (.return_, 1) := by decide +kernel
theorem dT_enriched_0 : decode cT_enriched 0 = .ok (.aload_n 0, 1) := by decide +kernel
theorem dT_enriched_1 : decode cT_enriched 1 = .ok (.getfield 44, 3) := by decide +kernel
theorem dT_enriched_4 : decode cT_enriched 4 = .ok (.invokevirtual 116, 3) := by decide +kernel
theorem dT_enriched_7 : decode cT_enriched 7 = .ok (.istore_n 2, 1) := by decide +kernel
theorem dT_enriched_8 : decode cT_enriched 8 = .ok (.iload_n 2, 1) := by decide +kernel
theorem dT_enriched_9 : decode cT_enriched 9 = .ok (.bipush 80, 2) := by decide +kernel
theorem dT_enriched_11 : decode cT_enriched 11 = .ok (.if_icmp .ge 10, 3) := by decide +kernel
theorem dT_enriched_14 : decode cT_enriched 14 = .ok (.bipush 80, 2) := by decide +kernel
theorem dT_enriched_16 : decode cT_enriched 16 = .ok (.iload_n 2, 1) := by decide +kernel
theorem dT_enriched_17 : decode cT_enriched 17 = .ok (.isub, 1) := by decide +kernel
theorem dT_enriched_18 : decode cT_enriched 18 = .ok (.goto 4, 3) := by decide +kernel
theorem dT_enriched_21 : decode cT_enriched 21 = .ok (.iconst 0, 1) := by decide +kernel
theorem dT_enriched_22 : decode cT_enriched 22 = .ok (.istore_n 3, 1) := by decide +kernel
theorem dT_enriched_23 : decode cT_enriched 23 = .ok (.iload_n 1, 1) := by decide +kernel
theorem dT_enriched_24 : decode cT_enriched 24 = .ok (.bipush 100, 2) := by decide +kernel
theorem dT_enriched_26 : decode cT_enriched 26 = .ok (.iload_n 3, 1) := by decide +kernel
theorem dT_enriched_27 : decode cT_enriched 27 = .ok (.iadd, 1) := by decide +kernel
theorem dT_enriched_28 : decode cT_enriched 28 = .ok (.imul, 1) := by decide +kernel
theorem dT_enriched_29 : decode cT_enriched 29 = .ok (.bipush 100, 2) := by decide +kernel
theorem dT_enriched_31 : decode cT_enriched 31 = .ok (.idiv, 1) := by decide +kernel
theorem dT_enriched_32 : decode cT_enriched 32 = .ok (.ireturn, 1) := by decide +kernel
theorem dT_present_0 : decode cT_present 0 = .ok (.aload_n 1, 1) := by decide +kernel
theorem dT_present_1 : decode cT_present 1 = .ok (.aload_n 0, 1) := by decide +kernel
theorem dT_present_2 : decode cT_present 2 = .ok (.getfield 78, 3) := by decide +kernel
theorem dT_present_5 : decode cT_present 5 = .ok (.invokevirtual 270, 3) := by decide +kernel
theorem dT_present_8 : decode cT_present 8 = .ok (.bipush 7, 2) := by decide +kernel
theorem dT_present_10 : decode cT_present 10 = .ok (.aload_n 0, 1) := by decide +kernel
theorem dT_present_11 : decode cT_present 11 = .ok (.getfield 37, 3) := by decide +kernel
theorem dT_present_14 : decode cT_present 14 = .ok (.invokevirtual 116, 3) := by decide +kernel
theorem dT_present_17 : decode cT_present 17 = .ok (.imul, 1) := by decide +kernel
theorem dT_present_18 : decode cT_present 18 = .ok (.iconst 4, 1) := by decide +kernel
theorem dT_present_19 : decode cT_present 19 = .ok (.idiv, 1) := by decide +kernel
theorem dT_present_20 : decode cT_present 20 = .ok (.invokevirtual 97, 3) := by decide +kernel
theorem dT_present_23 : decode cT_present 23 = .ok (.ireturn, 1) := by decide +kernel
theorem dT_planAll_0 : decode cT_planAll 0 = .ok (.aload_n 0, 1) := by decide +kernel
theorem dT_planAll_1 : decode cT_planAll 1 = .ok (.aload_n 0, 1) := by decide +kernel
theorem dT_planAll_2 : decode cT_planAll 2 = .ok (.getfield 21, 3) := by decide +kernel
theorem dT_planAll_5 : decode cT_planAll 5 = .ok (.invokevirtual 263, 3) := by decide +kernel
theorem dT_planAll_8 : decode cT_planAll 8 = .ok (.istore_n 1, 1) := by decide +kernel
theorem dT_planAll_9 : decode cT_planAll 9 = .ok (.aload_n 0, 1) := by decide +kernel
theorem dT_planAll_10 : decode cT_planAll 10 = .ok (.getfield 78, 3) := by decide +kernel
theorem dT_planAll_13 : decode cT_planAll 13 = .ok (.getfield 113, 3) := by decide +kernel
theorem dT_planAll_16 : decode cT_planAll 16 = .ok (.aload_n 0, 1) := by decide +kernel
theorem dT_planAll_17 : decode cT_planAll 17 = .ok (.invokevirtual 273, 3) := by decide +kernel
theorem dT_planAll_20 : decode cT_planAll 20 = .ok (.i2l, 1) := by decide +kernel
theorem dT_planAll_21 : decode cT_planAll 21 = .ok (.lcmp, 1) := by decide +kernel
theorem dT_planAll_22 : decode cT_planAll 22 = .ok (.ifCond .lt 7, 3) := by decide +kernel
theorem dT_planAll_25 : decode cT_planAll 25 = .ok (.iconst 1, 1) := by decide +kernel
theorem dT_planAll_26 : decode cT_planAll 26 = .ok (.goto 4, 3) := by decide +kernel
theorem dT_planAll_29 : decode cT_planAll 29 = .ok (.iconst 0, 1) := by decide +kernel
theorem dT_planAll_30 : decode cT_planAll 30 = .ok (.istore_n 2, 1) := by decide +kernel
theorem dT_planAll_31 : decode cT_planAll 31 = .ok (.iconst 0, 1) := by decide +kernel
theorem dT_planAll_32 : decode cT_planAll 32 = .ok (.istore_n 3, 1) := by decide +kernel
theorem dT_planAll_33 : decode cT_planAll 33 = .ok (.iload_n 3, 1) := by decide +kernel
theorem dT_planAll_34 : decode cT_planAll 34 = .ok (.aload_n 0, 1) := by decide +kernel
theorem dT_planAll_35 : decode cT_planAll 35 = .ok (.getfield 65, 3) := by decide +kernel
theorem dT_planAll_38 : decode cT_planAll 38 = .ok (.if_icmp .ge 76, 3) := by decide +kernel
theorem dT_planAll_41 : decode cT_planAll 41 = .ok (.iload_n 3, 1) := by decide +kernel
theorem dT_planAll_42 : decode cT_planAll 42 = .ok (.aload_n 0, 1) := by decide +kernel
theorem dT_planAll_43 : decode cT_planAll 43 = .ok (.getfield 78, 3) := by decide +kernel
theorem dT_planAll_46 : decode cT_planAll 46 = .ok (.getfield 162, 3) := by decide +kernel
theorem dT_planAll_49 : decode cT_planAll 49 = .ok (.imul, 1) := by decide +kernel
theorem dT_planAll_50 : decode cT_planAll 50 = .ok (.aload_n 0, 1) := by decide +kernel
theorem dT_planAll_51 : decode cT_planAll 51 = .ok (.getfield 65, 3) := by decide +kernel
theorem dT_planAll_54 : decode cT_planAll 54 = .ok (.idiv, 1) := by decide +kernel
theorem dT_planAll_55 : decode cT_planAll 55 = .ok (.istore 4, 2) := by decide +kernel
theorem dT_planAll_57 : decode cT_planAll 57 = .ok (.iload_n 2, 1) := by decide +kernel
theorem dT_planAll_58 : decode cT_planAll 58 = .ok (.ifCond .eq 18, 3) := by decide +kernel
theorem dT_planAll_61 : decode cT_planAll 61 = .ok (.aload_n 0, 1) := by decide +kernel
theorem dT_planAll_62 : decode cT_planAll 62 = .ok (.iconst 0, 1) := by decide +kernel
theorem dT_planAll_63 : decode cT_planAll 63 = .ok (.iload_n 3, 1) := by decide +kernel
theorem dT_planAll_64 : decode cT_planAll 64 = .ok (.iload 4, 2) := by decide +kernel
theorem dT_planAll_66 : decode cT_planAll 66 = .ok (.iload_n 1, 1) := by decide +kernel
theorem dT_planAll_67 : decode cT_planAll 67 = .ok (.isub, 1) := by decide +kernel
theorem dT_planAll_68 : decode cT_planAll 68 = .ok (.aload_n 0, 1) := by decide +kernel
theorem dT_planAll_69 : decode cT_planAll 69 = .ok (.getfield 68, 3) := by decide +kernel
theorem dT_planAll_72 : decode cT_planAll 72 = .ok (.isub, 1) := by decide +kernel
theorem dT_planAll_73 : decode cT_planAll 73 = .ok (.invokevirtual 276, 3) := by decide +kernel
theorem dT_planAll_76 : decode cT_planAll 76 = .ok (.aload_n 0, 1) := by decide +kernel
theorem dT_planAll_77 : decode cT_planAll 77 = .ok (.iconst 1, 1) := by decide +kernel
theorem dT_planAll_78 : decode cT_planAll 78 = .ok (.iload_n 3, 1) := by decide +kernel
theorem dT_planAll_79 : decode cT_planAll 79 = .ok (.iload 4, 2) := by decide +kernel
theorem dT_planAll_81 : decode cT_planAll 81 = .ok (.iload_n 1, 1) := by decide +kernel
theorem dT_planAll_82 : decode cT_planAll 82 = .ok (.isub, 1) := by decide +kernel
theorem dT_planAll_83 : decode cT_planAll 83 = .ok (.invokevirtual 276, 3) := by decide +kernel
theorem dT_planAll_86 : decode cT_planAll 86 = .ok (.iload_n 2, 1) := by decide +kernel
theorem dT_planAll_87 : decode cT_planAll 87 = .ok (.ifCond .eq 21, 3) := by decide +kernel
theorem dT_planAll_90 : decode cT_planAll 90 = .ok (.aload_n 0, 1) := by decide +kernel
theorem dT_planAll_91 : decode cT_planAll 91 = .ok (.iconst 3, 1) := by decide +kernel
theorem dT_planAll_92 : decode cT_planAll 92 = .ok (.iload_n 3, 1) := by decide +kernel
theorem dT_planAll_93 : decode cT_planAll 93 = .ok (.iload 4, 2) := by decide +kernel
theorem dT_planAll_95 : decode cT_planAll 95 = .ok (.aload_n 0, 1) := by decide +kernel
theorem dT_planAll_96 : decode cT_planAll 96 = .ok (.getfield 78, 3) := by decide +kernel
theorem dT_planAll_99 : decode cT_planAll 99 = .ok (.getfield 162, 3) := by decide +kernel
theorem dT_planAll_102 : decode cT_planAll 102 = .ok (.iconst 2, 1) := by decide +kernel
theorem dT_planAll_103 : decode cT_planAll 103 = .ok (.idiv, 1) := by decide +kernel
theorem dT_planAll_104 : decode cT_planAll 104 = .ok (.iadd, 1) := by decide +kernel
theorem dT_planAll_105 : decode cT_planAll 105 = .ok (.invokevirtual 276, 3) := by decide +kernel
theorem dT_planAll_108 : decode cT_planAll 108 = .ok (.iinc 3 1, 3) := by decide +kernel
theorem dT_planAll_111 : decode cT_planAll 111 = .ok (.goto (-78), 3) := by decide +kernel
theorem dT_planAll_114 : decode cT_planAll 114 = .ok (.return_, 1) := by decide +kernel
theorem dT_paceLimit_0 : decode cT_paceLimit 0 = .ok (.aload_n 0, 1) := by decide +kernel
theorem dT_paceLimit_1 : decode cT_paceLimit 1 = .ok (.getfield 37, 3) := by decide +kernel
theorem dT_paceLimit_4 : decode cT_paceLimit 4 = .ok (.getfield 280, 3) := by decide +kernel
theorem dT_paceLimit_7 : decode cT_paceLimit 7 = .ok (.ifCond .ne 25, 3) := by decide +kernel
theorem dT_paceLimit_10 : decode cT_paceLimit 10 = .ok (.aload_n 0, 1) := by decide +kernel
theorem dT_paceLimit_11 : decode cT_paceLimit 11 = .ok (.getfield 44, 3) := by decide +kernel
theorem dT_paceLimit_14 : decode cT_paceLimit 14 = .ok (.getfield 280, 3) := by decide +kernel
theorem dT_paceLimit_17 : decode cT_paceLimit 17 = .ok (.ifCond .ne 15, 3) := by decide +kernel
theorem dT_paceLimit_20 : decode cT_paceLimit 20 = .ok (.aload_n 0, 1) := by decide +kernel
theorem dT_paceLimit_21 : decode cT_paceLimit 21 = .ok (.getfield 44, 3) := by decide +kernel
theorem dT_paceLimit_24 : decode cT_paceLimit 24 = .ok (.invokevirtual 116, 3) := by decide +kernel
theorem dT_paceLimit_27 : decode cT_paceLimit 27 = .ok (.bipush 110, 2) := by decide +kernel
theorem dT_paceLimit_29 : decode cT_paceLimit 29 = .ok (.if_icmp .le 7, 3) := by decide +kernel
theorem dT_paceLimit_32 : decode cT_paceLimit 32 = .ok (.iconst 1, 1) := by decide +kernel
theorem dT_paceLimit_33 : decode cT_paceLimit 33 = .ok (.goto 4, 3) := by decide +kernel
theorem dT_paceLimit_36 : decode cT_paceLimit 36 = .ok (.iconst 0, 1) := by decide +kernel
theorem dT_paceLimit_37 : decode cT_paceLimit 37 = .ok (.istore_n 1, 1) := by decide +kernel
theorem dT_paceLimit_38 : decode cT_paceLimit 38 = .ok (.iload_n 1, 1) := by decide +kernel
theorem dT_paceLimit_39 : decode cT_paceLimit 39 = .ok (.ifCond .eq 9, 3) := by decide +kernel
theorem dT_paceLimit_42 : decode cT_paceLimit 42 = .ok (.sipush 200, 3) := by decide +kernel
theorem dT_paceLimit_45 : decode cT_paceLimit 45 = .ok (.goto 5, 3) := by decide +kernel
theorem dT_paceLimit_48 : decode cT_paceLimit 48 = .ok (.bipush 100, 2) := by decide +kernel
theorem dT_paceLimit_50 : decode cT_paceLimit 50 = .ok (.ireturn, 1) := by decide +kernel
theorem dT_planNear_0 : decode cT_planNear 0 = .ok (.aload_n 0, 1) := by decide +kernel
theorem dT_planNear_1 : decode cT_planNear 1 = .ok (.getfield 78, 3) := by decide +kernel
theorem dT_planNear_4 : decode cT_planNear 4 = .ok (.iload_n 3, 1) := by decide +kernel
theorem dT_planNear_5 : decode cT_planNear 5 = .ok (.invokevirtual 168, 3) := by decide +kernel
theorem dT_planNear_8 : decode cT_planNear 8 = .ok (.istore 4, 2) := by decide +kernel
theorem dT_planNear_10 : decode cT_planNear 10 = .ok (.iload 4, 2) := by decide +kernel
theorem dT_planNear_12 : decode cT_planNear 12 = .ok (.aload_n 0, 1) := by decide +kernel
theorem dT_planNear_13 : decode cT_planNear 13 = .ok (.getfield 78, 3) := by decide +kernel
theorem dT_planNear_16 : decode cT_planNear 16 = .ok (.invokevirtual 284, 3) := by decide +kernel
theorem dT_planNear_19 : decode cT_planNear 19 = .ok (.if_icmp .ge 26, 3) := by decide +kernel
theorem dT_planNear_22 : decode cT_planNear 22 = .ok (.aload_n 0, 1) := by decide +kernel
theorem dT_planNear_23 : decode cT_planNear 23 = .ok (.getfield 85, 3) := by decide +kernel
theorem dT_planNear_26 : decode cT_planNear 26 = .ok (.iload_n 1, 1) := by decide +kernel
theorem dT_planNear_27 : decode cT_planNear 27 = .ok (.iload_n 2, 1) := by decide +kernel
theorem dT_planNear_28 : decode cT_planNear 28 = .ok (.aload_n 0, 1) := by decide +kernel
theorem dT_planNear_29 : decode cT_planNear 29 = .ok (.getfield 47, 3) := by decide +kernel
theorem dT_planNear_32 : decode cT_planNear 32 = .ok (.aload_n 0, 1) := by decide +kernel
theorem dT_planNear_33 : decode cT_planNear 33 = .ok (.getfield 78, 3) := by decide +kernel
theorem dT_planNear_36 : decode cT_planNear 36 = .ok (.iload 4, 2) := by decide +kernel
theorem dT_planNear_38 : decode cT_planNear 38 = .ok (.invokevirtual 172, 3) := by decide +kernel
theorem dT_planNear_41 : decode cT_planNear 41 = .ok (.ladd, 1) := by decide +kernel
theorem dT_planNear_42 : decode cT_planNear 42 = .ok (.invokevirtual 259, 3) := by decide +kernel
theorem dT_planNear_45 : decode cT_planNear 45 = .ok (.return_, 1) := by decide +kernel
theorem dA_init_0 : decode cA_init 0 = .ok (.aload_n 0, 1) := by decide +kernel
theorem dA_init_1 : decode cA_init 1 = .ok (.invokespecial 3, 3) := by decide +kernel
theorem dA_init_4 : decode cA_init 4 = .ok (.aload_n 0, 1) := by decide +kernel
theorem dA_init_5 : decode cA_init 5 = .ok (.iconst 0, 1) := by decide +kernel
theorem dA_init_6 : decode cA_init 6 = .ok (.putfield 9, 3) := by decide +kernel
theorem dA_init_9 : decode cA_init 9 = .ok (.aload_n 0, 1) := by decide +kernel
theorem dA_init_10 : decode cA_init 10 = .ok (.iconst 0, 1) := by decide +kernel
theorem dA_init_11 : decode cA_init 11 = .ok (.putfield 15, 3) := by decide +kernel
theorem dA_init_14 : decode cA_init 14 = .ok (.aload_n 0, 1) := by decide +kernel
theorem dA_init_15 : decode cA_init 15 = .ok (.iload_n 1, 1) := by decide +kernel
theorem dA_init_16 : decode cA_init 16 = .ok (.putfield 18, 3) := by decide +kernel
theorem dA_init_19 : decode cA_init 19 = .ok (.aload_n 0, 1) := by decide +kernel
theorem dA_init_20 : decode cA_init 20 = .ok (.iconst 5, 1) := by decide +kernel
theorem dA_init_21 : decode cA_init 21 = .ok (.iload_n 1, 1) := by decide +kernel
theorem dA_init_22 : decode cA_init 22 = .ok (.imul, 1) := by decide +kernel
theorem dA_init_23 : decode cA_init 23 = .ok (.newarray .boolean, 2) := by decide +kernel
theorem dA_init_25 : decode cA_init 25 = .ok (.putfield 21, 3) := by decide +kernel
theorem dA_init_28 : decode cA_init 28 = .ok (.aload_n 0, 1) := by decide +kernel
theorem dA_init_29 : decode cA_init 29 = .ok (.iconst 5, 1) := by decide +kernel
theorem dA_init_30 : decode cA_init 30 = .ok (.iload_n 1, 1) := by decide +kernel
theorem dA_init_31 : decode cA_init 31 = .ok (.imul, 1) := by decide +kernel
theorem dA_init_32 : decode cA_init 32 = .ok (.newarray .long, 2) := by decide +kernel
theorem dA_init_34 : decode cA_init 34 = .ok (.putfield 25, 3) := by decide +kernel
theorem dA_init_37 : decode cA_init 37 = .ok (.aload_n 0, 1) := by decide +kernel
theorem dA_init_38 : decode cA_init 38 = .ok (.iconst 5, 1) := by decide +kernel
theorem dA_init_39 : decode cA_init 39 = .ok (.iload_n 1, 1) := by decide +kernel
theorem dA_init_40 : decode cA_init 40 = .ok (.imul, 1) := by decide +kernel
theorem dA_init_41 : decode cA_init 41 = .ok (.newarray .int, 2) := by decide +kernel
theorem dA_init_43 : decode cA_init 43 = .ok (.putfield 29, 3) := by decide +kernel
theorem dA_init_46 : decode cA_init 46 = .ok (.return_, 1) := by decide +kernel
theorem dA_placeOf_0 : decode cA_placeOf 0 = .ok (.iload_n 1, 1) := by decide +kernel
theorem dA_placeOf_1 : decode cA_placeOf 1 = .ok (.aload_n 0, 1) := by decide +kernel
theorem dA_placeOf_2 : decode cA_placeOf 2 = .ok (.getfield 18, 3) := by decide +kernel
theorem dA_placeOf_5 : decode cA_placeOf 5 = .ok (.imul, 1) := by decide +kernel
theorem dA_placeOf_6 : decode cA_placeOf 6 = .ok (.iload_n 2, 1) := by decide +kernel
theorem dA_placeOf_7 : decode cA_placeOf 7 = .ok (.iadd, 1) := by decide +kernel
theorem dA_placeOf_8 : decode cA_placeOf 8 = .ok (.ireturn, 1) := by decide +kernel
theorem dA_kindOf_0 : decode cA_kindOf 0 = .ok (.iload_n 1, 1) := by decide +kernel
theorem dA_kindOf_1 : decode cA_kindOf 1 = .ok (.aload_n 0, 1) := by decide +kernel
theorem dA_kindOf_2 : decode cA_kindOf 2 = .ok (.getfield 18, 3) := by decide +kernel
theorem dA_kindOf_5 : decode cA_kindOf 5 = .ok (.idiv, 1) := by decide +kernel
theorem dA_kindOf_6 : decode cA_kindOf 6 = .ok (.ireturn, 1) := by decide +kernel
theorem dA_cylinderOf_0 : decode cA_cylinderOf 0 = .ok (.iload_n 1, 1) := by decide +kernel
theorem dA_cylinderOf_1 : decode cA_cylinderOf 1 = .ok (.aload_n 0, 1) := by decide +kernel
theorem dA_cylinderOf_2 : decode cA_cylinderOf 2 = .ok (.getfield 18, 3) := by decide +kernel
theorem dA_cylinderOf_5 : decode cA_cylinderOf 5 = .ok (.irem, 1) := by decide +kernel
theorem dA_cylinderOf_6 : decode cA_cylinderOf 6 = .ok (.ireturn, 1) := by decide +kernel
theorem dA_plan_0 : decode cA_plan 0 = .ok (.aload_n 0, 1) := by decide +kernel
theorem dA_plan_1 : decode cA_plan 1 = .ok (.iload_n 1, 1) := by decide +kernel
theorem dA_plan_2 : decode cA_plan 2 = .ok (.iload_n 2, 1) := by decide +kernel
theorem dA_plan_3 : decode cA_plan 3 = .ok (.invokevirtual 33, 3) := by decide +kernel
theorem dA_plan_6 : decode cA_plan 6 = .ok (.istore 5, 2) := by decide +kernel
theorem dA_plan_8 : decode cA_plan 8 = .ok (.aload_n 0, 1) := by decide +kernel
theorem dA_plan_9 : decode cA_plan 9 = .ok (.getfield 21, 3) := by decide +kernel
theorem dA_plan_12 : decode cA_plan 12 = .ok (.iload 5, 2) := by decide +kernel
theorem dA_plan_14 : decode cA_plan 14 = .ok (.baload, 1) := by decide +kernel
theorem dA_plan_15 : decode cA_plan 15 = .ok (.ifCond .ne 21, 3) := by decide +kernel
theorem dA_plan_18 : decode cA_plan 18 = .ok (.aload_n 0, 1) := by decide +kernel
theorem dA_plan_19 : decode cA_plan 19 = .ok (.getfield 21, 3) := by decide +kernel
theorem dA_plan_22 : decode cA_plan 22 = .ok (.iload 5, 2) := by decide +kernel
theorem dA_plan_24 : decode cA_plan 24 = .ok (.iconst 1, 1) := by decide +kernel
theorem dA_plan_25 : decode cA_plan 25 = .ok (.bastore, 1) := by decide +kernel
theorem dA_plan_26 : decode cA_plan 26 = .ok (.aload_n 0, 1) := by decide +kernel
theorem dA_plan_27 : decode cA_plan 27 = .ok (.dup, 1) := by decide +kernel
theorem dA_plan_28 : decode cA_plan 28 = .ok (.getfield 15, 3) := by decide +kernel
theorem dA_plan_31 : decode cA_plan 31 = .ok (.iconst 1, 1) := by decide +kernel
theorem dA_plan_32 : decode cA_plan 32 = .ok (.iadd, 1) := by decide +kernel
theorem dA_plan_33 : decode cA_plan 33 = .ok (.putfield 15, 3) := by decide +kernel
theorem dA_plan_36 : decode cA_plan 36 = .ok (.aload_n 0, 1) := by decide +kernel
theorem dA_plan_37 : decode cA_plan 37 = .ok (.getfield 25, 3) := by decide +kernel
theorem dA_plan_40 : decode cA_plan 40 = .ok (.iload 5, 2) := by decide +kernel
theorem dA_plan_42 : decode cA_plan 42 = .ok (.lload_n 3, 1) := by decide +kernel
theorem dA_plan_43 : decode cA_plan 43 = .ok (.lastore, 1) := by decide +kernel
theorem dA_plan_44 : decode cA_plan 44 = .ok (.aload_n 0, 1) := by decide +kernel
theorem dA_plan_45 : decode cA_plan 45 = .ok (.getfield 29, 3) := by decide +kernel
theorem dA_plan_48 : decode cA_plan 48 = .ok (.iload 5, 2) := by decide +kernel
theorem dA_plan_50 : decode cA_plan 50 = .ok (.aload_n 0, 1) := by decide +kernel
theorem dA_plan_51 : decode cA_plan 51 = .ok (.getfield 9, 3) := by decide +kernel
theorem dA_plan_54 : decode cA_plan 54 = .ok (.iastore, 1) := by decide +kernel
theorem dA_plan_55 : decode cA_plan 55 = .ok (.aload_n 0, 1) := by decide +kernel
theorem dA_plan_56 : decode cA_plan 56 = .ok (.dup, 1) := by decide +kernel
theorem dA_plan_57 : decode cA_plan 57 = .ok (.getfield 9, 3) := by decide +kernel
theorem dA_plan_60 : decode cA_plan 60 = .ok (.iconst 1, 1) := by decide +kernel
theorem dA_plan_61 : decode cA_plan 61 = .ok (.iadd, 1) := by decide +kernel
theorem dA_plan_62 : decode cA_plan 62 = .ok (.putfield 9, 3) := by decide +kernel
theorem dA_plan_65 : decode cA_plan 65 = .ok (.return_, 1) := by decide +kernel
theorem dA_remove_0 : decode cA_remove 0 = .ok (.aload_n 0, 1) := by decide +kernel
theorem dA_remove_1 : decode cA_remove 1 = .ok (.iload_n 1, 1) := by decide +kernel
theorem dA_remove_2 : decode cA_remove 2 = .ok (.iload_n 2, 1) := by decide +kernel
theorem dA_remove_3 : decode cA_remove 3 = .ok (.invokevirtual 33, 3) := by decide +kernel
theorem dA_remove_6 : decode cA_remove 6 = .ok (.istore_n 3, 1) := by decide +kernel
theorem dA_remove_7 : decode cA_remove 7 = .ok (.aload_n 0, 1) := by decide +kernel
theorem dA_remove_8 : decode cA_remove 8 = .ok (.getfield 21, 3) := by decide +kernel
theorem dA_remove_11 : decode cA_remove 11 = .ok (.iload_n 3, 1) := by decide +kernel
theorem dA_remove_12 : decode cA_remove 12 = .ok (.baload, 1) := by decide +kernel
theorem dA_remove_13 : decode cA_remove 13 = .ok (.ifCond .eq 20, 3) := by decide +kernel
theorem dA_remove_16 : decode cA_remove 16 = .ok (.aload_n 0, 1) := by decide +kernel
theorem dA_remove_17 : decode cA_remove 17 = .ok (.getfield 21, 3) := by decide +kernel
theorem dA_remove_20 : decode cA_remove 20 = .ok (.iload_n 3, 1) := by decide +kernel
theorem dA_remove_21 : decode cA_remove 21 = .ok (.iconst 0, 1) := by decide +kernel
theorem dA_remove_22 : decode cA_remove 22 = .ok (.bastore, 1) := by decide +kernel
theorem dA_remove_23 : decode cA_remove 23 = .ok (.aload_n 0, 1) := by decide +kernel
theorem dA_remove_24 : decode cA_remove 24 = .ok (.dup, 1) := by decide +kernel
theorem dA_remove_25 : decode cA_remove 25 = .ok (.getfield 15, 3) := by decide +kernel
theorem dA_remove_28 : decode cA_remove 28 = .ok (.iconst 1, 1) := by decide +kernel
theorem dA_remove_29 : decode cA_remove 29 = .ok (.isub, 1) := by decide +kernel
theorem dA_remove_30 : decode cA_remove 30 = .ok (.putfield 15, 3) := by decide +kernel
theorem dA_remove_33 : decode cA_remove 33 = .ok (.return_, 1) := by decide +kernel
theorem dA_removeAll_0 : decode cA_removeAll 0 = .ok (.iconst 0, 1) := by decide +kernel
theorem dA_removeAll_1 : decode cA_removeAll 1 = .ok (.istore_n 1, 1) := by decide +kernel
theorem dA_removeAll_2 : decode cA_removeAll 2 = .ok (.iload_n 1, 1) := by decide +kernel
theorem dA_removeAll_3 : decode cA_removeAll 3 = .ok (.aload_n 0, 1) := by decide +kernel
theorem dA_removeAll_4 : decode cA_removeAll 4 = .ok (.getfield 21, 3) := by decide +kernel
theorem dA_removeAll_7 : decode cA_removeAll 7 = .ok (.arraylength, 1) := by decide +kernel
theorem dA_removeAll_8 : decode cA_removeAll 8 = .ok (.if_icmp .ge 16, 3) := by decide +kernel
theorem dA_removeAll_11 : decode cA_removeAll 11 = .ok (.aload_n 0, 1) := by decide +kernel
theorem dA_removeAll_12 : decode cA_removeAll 12 = .ok (.getfield 21, 3) := by decide +kernel
theorem dA_removeAll_15 : decode cA_removeAll 15 = .ok (.iload_n 1, 1) := by decide +kernel
theorem dA_removeAll_16 : decode cA_removeAll 16 = .ok (.iconst 0, 1) := by decide +kernel
theorem dA_removeAll_17 : decode cA_removeAll 17 = .ok (.bastore, 1) := by decide +kernel
theorem dA_removeAll_18 : decode cA_removeAll 18 = .ok (.iinc 1 1, 3) := by decide +kernel
theorem dA_removeAll_21 : decode cA_removeAll 21 = .ok (.goto (-19), 3) := by decide +kernel
theorem dA_removeAll_24 : decode cA_removeAll 24 = .ok (.aload_n 0, 1) := by decide +kernel
theorem dA_removeAll_25 : decode cA_removeAll 25 = .ok (.iconst 0, 1) := by decide +kernel
theorem dA_removeAll_26 : decode cA_removeAll 26 = .ok (.putfield 15, 3) := by decide +kernel
theorem dA_removeAll_29 : decode cA_removeAll 29 = .ok (.return_, 1) := by decide +kernel
theorem dA_firstUntil_0 : decode cA_firstUntil 0 = .ok (.iconst (-1), 1) := by decide +kernel
theorem dA_firstUntil_1 : decode cA_firstUntil 1 = .ok (.istore_n 3, 1) := by decide +kernel
theorem dA_firstUntil_2 : decode cA_firstUntil 2 = .ok (.iconst 0, 1) := by decide +kernel
theorem dA_firstUntil_3 : decode cA_firstUntil 3 = .ok (.istore 4, 2) := by decide +kernel
theorem dA_firstUntil_5 : decode cA_firstUntil 5 = .ok (.aload_n 0, 1) := by decide +kernel
theorem dA_firstUntil_6 : decode cA_firstUntil 6 = .ok (.getfield 15, 3) := by decide +kernel
theorem dA_firstUntil_9 : decode cA_firstUntil 9 = .ok (.ifCond .le 59, 3) := by decide +kernel
theorem dA_firstUntil_12 : decode cA_firstUntil 12 = .ok (.iload 4, 2) := by decide +kernel
theorem dA_firstUntil_14 : decode cA_firstUntil 14 = .ok (.aload_n 0, 1) := by decide +kernel
theorem dA_firstUntil_15 : decode cA_firstUntil 15 = .ok (.getfield 21, 3) := by decide +kernel
theorem dA_firstUntil_18 : decode cA_firstUntil 18 = .ok (.arraylength, 1) := by decide +kernel
theorem dA_firstUntil_19 : decode cA_firstUntil 19 = .ok (.if_icmp .ge 49, 3) := by decide +kernel
theorem dA_firstUntil_22 : decode cA_firstUntil 22 = .ok (.aload_n 0, 1) := by decide +kernel
theorem dA_firstUntil_23 : decode cA_firstUntil 23 = .ok (.getfield 21, 3) := by decide +kernel
theorem dA_firstUntil_26 : decode cA_firstUntil 26 = .ok (.iload 4, 2) := by decide +kernel
theorem dA_firstUntil_28 : decode cA_firstUntil 28 = .ok (.baload, 1) := by decide +kernel
theorem dA_firstUntil_29 : decode cA_firstUntil 29 = .ok (.ifCond .eq 33, 3) := by decide +kernel
theorem dA_firstUntil_32 : decode cA_firstUntil 32 = .ok (.aload_n 0, 1) := by decide +kernel
theorem dA_firstUntil_33 : decode cA_firstUntil 33 = .ok (.getfield 25, 3) := by decide +kernel
theorem dA_firstUntil_36 : decode cA_firstUntil 36 = .ok (.iload 4, 2) := by decide +kernel
theorem dA_firstUntil_38 : decode cA_firstUntil 38 = .ok (.laload, 1) := by decide +kernel
theorem dA_firstUntil_39 : decode cA_firstUntil 39 = .ok (.lload_n 1, 1) := by decide +kernel
theorem dA_firstUntil_40 : decode cA_firstUntil 40 = .ok (.lcmp, 1) := by decide +kernel
theorem dA_firstUntil_41 : decode cA_firstUntil 41 = .ok (.ifCond .gt 21, 3) := by decide +kernel
theorem dA_firstUntil_44 : decode cA_firstUntil 44 = .ok (.iload_n 3, 1) := by decide +kernel
theorem dA_firstUntil_45 : decode cA_firstUntil 45 = .ok (.iconst (-1), 1) := by decide +kernel
theorem dA_firstUntil_46 : decode cA_firstUntil 46 = .ok (.if_icmp .eq 13, 3) := by decide +kernel
theorem dA_firstUntil_49 : decode cA_firstUntil 49 = .ok (.aload_n 0, 1) := by decide +kernel
theorem dA_firstUntil_50 : decode cA_firstUntil 50 = .ok (.iload 4, 2) := by decide +kernel
theorem dA_firstUntil_52 : decode cA_firstUntil 52 = .ok (.iload_n 3, 1) := by decide +kernel
theorem dA_firstUntil_53 : decode cA_firstUntil 53 = .ok (.invokevirtual 37, 3) := by decide +kernel
theorem dA_firstUntil_56 : decode cA_firstUntil 56 = .ok (.ifCond .eq 6, 3) := by decide +kernel
theorem dA_firstUntil_59 : decode cA_firstUntil 59 = .ok (.iload 4, 2) := by decide +kernel
theorem dA_firstUntil_61 : decode cA_firstUntil 61 = .ok (.istore_n 3, 1) := by decide +kernel
theorem dA_firstUntil_62 : decode cA_firstUntil 62 = .ok (.iinc 4 1, 3) := by decide +kernel
theorem dA_firstUntil_65 : decode cA_firstUntil 65 = .ok (.goto (-60), 3) := by decide +kernel
theorem dA_firstUntil_68 : decode cA_firstUntil 68 = .ok (.iload_n 3, 1) := by decide +kernel
theorem dA_firstUntil_69 : decode cA_firstUntil 69 = .ok (.ireturn, 1) := by decide +kernel
theorem dA_isBefore_0 : decode cA_isBefore 0 = .ok (.aload_n 0, 1) := by decide +kernel
theorem dA_isBefore_1 : decode cA_isBefore 1 = .ok (.getfield 25, 3) := by decide +kernel
theorem dA_isBefore_4 : decode cA_isBefore 4 = .ok (.iload_n 1, 1) := by decide +kernel
theorem dA_isBefore_5 : decode cA_isBefore 5 = .ok (.laload, 1) := by decide +kernel
theorem dA_isBefore_6 : decode cA_isBefore 6 = .ok (.aload_n 0, 1) := by decide +kernel
theorem dA_isBefore_7 : decode cA_isBefore 7 = .ok (.getfield 25, 3) := by decide +kernel
theorem dA_isBefore_10 : decode cA_isBefore 10 = .ok (.iload_n 2, 1) := by decide +kernel
theorem dA_isBefore_11 : decode cA_isBefore 11 = .ok (.laload, 1) := by decide +kernel
theorem dA_isBefore_12 : decode cA_isBefore 12 = .ok (.lcmp, 1) := by decide +kernel
theorem dA_isBefore_13 : decode cA_isBefore 13 = .ok (.ifCond .lt 34, 3) := by decide +kernel
theorem dA_isBefore_16 : decode cA_isBefore 16 = .ok (.aload_n 0, 1) := by decide +kernel
theorem dA_isBefore_17 : decode cA_isBefore 17 = .ok (.getfield 25, 3) := by decide +kernel
theorem dA_isBefore_20 : decode cA_isBefore 20 = .ok (.iload_n 1, 1) := by decide +kernel
theorem dA_isBefore_21 : decode cA_isBefore 21 = .ok (.laload, 1) := by decide +kernel
theorem dA_isBefore_22 : decode cA_isBefore 22 = .ok (.aload_n 0, 1) := by decide +kernel
theorem dA_isBefore_23 : decode cA_isBefore 23 = .ok (.getfield 25, 3) := by decide +kernel
theorem dA_isBefore_26 : decode cA_isBefore 26 = .ok (.iload_n 2, 1) := by decide +kernel
theorem dA_isBefore_27 : decode cA_isBefore 27 = .ok (.laload, 1) := by decide +kernel
theorem dA_isBefore_28 : decode cA_isBefore 28 = .ok (.lcmp, 1) := by decide +kernel
theorem dA_isBefore_29 : decode cA_isBefore 29 = .ok (.ifCond .ne 22, 3) := by decide +kernel
theorem dA_isBefore_32 : decode cA_isBefore 32 = .ok (.aload_n 0, 1) := by decide +kernel
theorem dA_isBefore_33 : decode cA_isBefore 33 = .ok (.getfield 29, 3) := by decide +kernel
theorem dA_isBefore_36 : decode cA_isBefore 36 = .ok (.iload_n 1, 1) := by decide +kernel
theorem dA_isBefore_37 : decode cA_isBefore 37 = .ok (.iaload, 1) := by decide +kernel
theorem dA_isBefore_38 : decode cA_isBefore 38 = .ok (.aload_n 0, 1) := by decide +kernel
theorem dA_isBefore_39 : decode cA_isBefore 39 = .ok (.getfield 29, 3) := by decide +kernel
theorem dA_isBefore_42 : decode cA_isBefore 42 = .ok (.iload_n 2, 1) := by decide +kernel
theorem dA_isBefore_43 : decode cA_isBefore 43 = .ok (.iaload, 1) := by decide +kernel
theorem dA_isBefore_44 : decode cA_isBefore 44 = .ok (.if_icmp .ge 7, 3) := by decide +kernel
theorem dA_isBefore_47 : decode cA_isBefore 47 = .ok (.iconst 1, 1) := by decide +kernel
theorem dA_isBefore_48 : decode cA_isBefore 48 = .ok (.goto 4, 3) := by decide +kernel
theorem dA_isBefore_51 : decode cA_isBefore 51 = .ok (.iconst 0, 1) := by decide +kernel
theorem dA_isBefore_52 : decode cA_isBefore 52 = .ok (.ireturn, 1) := by decide +kernel
theorem dC_init_0 : decode cC_init 0 = .ok (.aload_n 0, 1) := by decide +kernel
theorem dC_init_1 : decode cC_init 1 = .ok (.invokespecial 3, 3) := by decide +kernel
theorem dC_init_4 : decode cC_init 4 = .ok (.aload_n 0, 1) := by decide +kernel
theorem dC_init_5 : decode cC_init 5 = .ok (.bipush 64, 2) := by decide +kernel
theorem dC_init_7 : decode cC_init 7 = .ok (.newarray .int, 2) := by decide +kernel
theorem dC_init_9 : decode cC_init 9 = .ok (.putfield 11, 3) := by decide +kernel
theorem dC_init_12 : decode cC_init 12 = .ok (.aload_n 0, 1) := by decide +kernel
theorem dC_init_13 : decode cC_init 13 = .ok (.iload_n 1, 1) := by decide +kernel
theorem dC_init_14 : decode cC_init 14 = .ok (.putfield 15, 3) := by decide +kernel
theorem dC_init_17 : decode cC_init 17 = .ok (.return_, 1) := by decide +kernel
theorem dC_put_0 : decode cC_put 0 = .ok (.iload_n 1, 1) := by decide +kernel
theorem dC_put_1 : decode cC_put 1 = .ok (.ifCond .lt 31, 3) := by decide +kernel
theorem dC_put_4 : decode cC_put 4 = .ok (.iload_n 1, 1) := by decide +kernel
theorem dC_put_5 : decode cC_put 5 = .ok (.bipush 8, 2) := by decide +kernel
theorem dC_put_7 : decode cC_put 7 = .ok (.if_icmp .ge 25, 3) := by decide +kernel
theorem dC_put_10 : decode cC_put 10 = .ok (.iload_n 2, 1) := by decide +kernel
theorem dC_put_11 : decode cC_put 11 = .ok (.ifCond .lt 21, 3) := by decide +kernel
theorem dC_put_14 : decode cC_put 14 = .ok (.iload_n 2, 1) := by decide +kernel
theorem dC_put_15 : decode cC_put 15 = .ok (.bipush 8, 2) := by decide +kernel
theorem dC_put_17 : decode cC_put 17 = .ok (.if_icmp .ge 15, 3) := by decide +kernel
theorem dC_put_20 : decode cC_put 20 = .ok (.iload_n 3, 1) := by decide +kernel
theorem dC_put_21 : decode cC_put 21 = .ok (.ifCond .lt 11, 3) := by decide +kernel
theorem dC_put_24 : decode cC_put 24 = .ok (.iload_n 3, 1) := by decide +kernel
theorem dC_put_25 : decode cC_put 25 = .ok (.aload_n 0, 1) := by decide +kernel
theorem dC_put_26 : decode cC_put 26 = .ok (.getfield 15, 3) := by decide +kernel
theorem dC_put_29 : decode cC_put 29 = .ok (.if_icmp .le 5, 3) := by decide +kernel
theorem dC_put_32 : decode cC_put 32 = .ok (.iconst 0, 1) := by decide +kernel
theorem dC_put_33 : decode cC_put 33 = .ok (.ireturn, 1) := by decide +kernel
theorem dC_put_34 : decode cC_put 34 = .ok (.aload_n 0, 1) := by decide +kernel
theorem dC_put_35 : decode cC_put 35 = .ok (.getfield 11, 3) := by decide +kernel
theorem dC_put_38 : decode cC_put 38 = .ok (.iload_n 1, 1) := by decide +kernel
theorem dC_put_39 : decode cC_put 39 = .ok (.bipush 8, 2) := by decide +kernel
theorem dC_put_41 : decode cC_put 41 = .ok (.imul, 1) := by decide +kernel
theorem dC_put_42 : decode cC_put 42 = .ok (.iload_n 2, 1) := by decide +kernel
theorem dC_put_43 : decode cC_put 43 = .ok (.iadd, 1) := by decide +kernel
theorem dC_put_44 : decode cC_put 44 = .ok (.iload_n 3, 1) := by decide +kernel
theorem dC_put_45 : decode cC_put 45 = .ok (.iastore, 1) := by decide +kernel
theorem dC_put_46 : decode cC_put 46 = .ok (.iconst 1, 1) := by decide +kernel
theorem dC_put_47 : decode cC_put 47 = .ok (.ireturn, 1) := by decide +kernel
theorem dC_at_0 : decode cC_at 0 = .ok (.iload_n 1, 1) := by decide +kernel
theorem dC_at_1 : decode cC_at 1 = .ok (.ifCond .lt 21, 3) := by decide +kernel
theorem dC_at_4 : decode cC_at 4 = .ok (.iload_n 1, 1) := by decide +kernel
theorem dC_at_5 : decode cC_at 5 = .ok (.sipush 1791, 3) := by decide +kernel
theorem dC_at_8 : decode cC_at 8 = .ok (.if_icmp .gt 14, 3) := by decide +kernel
theorem dC_at_11 : decode cC_at 11 = .ok (.iload_n 2, 1) := by decide +kernel
theorem dC_at_12 : decode cC_at 12 = .ok (.ifCond .lt 10, 3) := by decide +kernel
theorem dC_at_15 : decode cC_at 15 = .ok (.iload_n 2, 1) := by decide +kernel
theorem dC_at_16 : decode cC_at 16 = .ok (.sipush 1791, 3) := by decide +kernel
theorem dC_at_19 : decode cC_at 19 = .ok (.if_icmp .le 5, 3) := by decide +kernel
theorem dC_at_22 : decode cC_at 22 = .ok (.iconst (-1), 1) := by decide +kernel
theorem dC_at_23 : decode cC_at 23 = .ok (.ireturn, 1) := by decide +kernel
theorem dC_at_24 : decode cC_at 24 = .ok (.iload_n 1, 1) := by decide +kernel
theorem dC_at_25 : decode cC_at 25 = .ok (.sipush 256, 3) := by decide +kernel
theorem dC_at_28 : decode cC_at 28 = .ok (.idiv, 1) := by decide +kernel
theorem dC_at_29 : decode cC_at 29 = .ok (.bipush 8, 2) := by decide +kernel
theorem dC_at_31 : decode cC_at 31 = .ok (.imul, 1) := by decide +kernel
theorem dC_at_32 : decode cC_at 32 = .ok (.iload_n 2, 1) := by decide +kernel
theorem dC_at_33 : decode cC_at 33 = .ok (.sipush 256, 3) := by decide +kernel
theorem dC_at_36 : decode cC_at 36 = .ok (.idiv, 1) := by decide +kernel
theorem dC_at_37 : decode cC_at 37 = .ok (.iadd, 1) := by decide +kernel
theorem dC_at_38 : decode cC_at 38 = .ok (.istore_n 3, 1) := by decide +kernel
theorem dC_at_39 : decode cC_at 39 = .ok (.iload_n 1, 1) := by decide +kernel
theorem dC_at_40 : decode cC_at 40 = .ok (.sipush 256, 3) := by decide +kernel
theorem dC_at_43 : decode cC_at 43 = .ok (.irem, 1) := by decide +kernel
theorem dC_at_44 : decode cC_at 44 = .ok (.i2l, 1) := by decide +kernel
theorem dC_at_45 : decode cC_at 45 = .ok (.lstore 4, 2) := by decide +kernel
theorem dC_at_47 : decode cC_at 47 = .ok (.iload_n 2, 1) := by decide +kernel
theorem dC_at_48 : decode cC_at 48 = .ok (.sipush 256, 3) := by decide +kernel
theorem dC_at_51 : decode cC_at 51 = .ok (.irem, 1) := by decide +kernel
theorem dC_at_52 : decode cC_at 52 = .ok (.i2l, 1) := by decide +kernel
theorem dC_at_53 : decode cC_at 53 = .ok (.lstore 6, 2) := by decide +kernel
theorem dC_at_55 : decode cC_at 55 = .ok (.aload_n 0, 1) := by decide +kernel
theorem dC_at_56 : decode cC_at 56 = .ok (.getfield 11, 3) := by decide +kernel
theorem dC_at_59 : decode cC_at 59 = .ok (.iload_n 3, 1) := by decide +kernel
theorem dC_at_60 : decode cC_at 60 = .ok (.iaload, 1) := by decide +kernel
theorem dC_at_61 : decode cC_at 61 = .ok (.i2l, 1) := by decide +kernel
theorem dC_at_62 : decode cC_at 62 = .ok (.ldc2_w 19, 3) := by decide +kernel
theorem dC_at_65 : decode cC_at 65 = .ok (.lload 6, 2) := by decide +kernel
theorem dC_at_67 : decode cC_at 67 = .ok (.lsub, 1) := by decide +kernel
theorem dC_at_68 : decode cC_at 68 = .ok (.lmul, 1) := by decide +kernel
theorem dC_at_69 : decode cC_at 69 = .ok (.aload_n 0, 1) := by decide +kernel
theorem dC_at_70 : decode cC_at 70 = .ok (.getfield 11, 3) := by decide +kernel
theorem dC_at_73 : decode cC_at 73 = .ok (.iload_n 3, 1) := by decide +kernel
theorem dC_at_74 : decode cC_at 74 = .ok (.iconst 1, 1) := by decide +kernel
theorem dC_at_75 : decode cC_at 75 = .ok (.iadd, 1) := by decide +kernel
theorem dC_at_76 : decode cC_at 76 = .ok (.iaload, 1) := by decide +kernel
theorem dC_at_77 : decode cC_at 77 = .ok (.i2l, 1) := by decide +kernel
theorem dC_at_78 : decode cC_at 78 = .ok (.lload 6, 2) := by decide +kernel
theorem dC_at_80 : decode cC_at 80 = .ok (.lmul, 1) := by decide +kernel
theorem dC_at_81 : decode cC_at 81 = .ok (.ladd, 1) := by decide +kernel
theorem dC_at_82 : decode cC_at 82 = .ok (.lstore 8, 2) := by decide +kernel
theorem dC_at_84 : decode cC_at 84 = .ok (.aload_n 0, 1) := by decide +kernel
theorem dC_at_85 : decode cC_at 85 = .ok (.getfield 11, 3) := by decide +kernel
theorem dC_at_88 : decode cC_at 88 = .ok (.iload_n 3, 1) := by decide +kernel
theorem dC_at_89 : decode cC_at 89 = .ok (.bipush 8, 2) := by decide +kernel
theorem dC_at_91 : decode cC_at 91 = .ok (.iadd, 1) := by decide +kernel
theorem dC_at_92 : decode cC_at 92 = .ok (.iaload, 1) := by decide +kernel
theorem dC_at_93 : decode cC_at 93 = .ok (.i2l, 1) := by decide +kernel
theorem dC_at_94 : decode cC_at 94 = .ok (.ldc2_w 19, 3) := by decide +kernel
theorem dC_at_97 : decode cC_at 97 = .ok (.lload 6, 2) := by decide +kernel
theorem dC_at_99 : decode cC_at 99 = .ok (.lsub, 1) := by decide +kernel
theorem dC_at_100 : decode cC_at 100 = .ok (.lmul, 1) := by decide +kernel
theorem dC_at_101 : decode cC_at 101 = .ok (.aload_n 0, 1) := by decide +kernel
theorem dC_at_102 : decode cC_at 102 = .ok (.getfield 11, 3) := by decide +kernel
theorem dC_at_105 : decode cC_at 105 = .ok (.iload_n 3, 1) := by decide +kernel
theorem dC_at_106 : decode cC_at 106 = .ok (.bipush 8, 2) := by decide +kernel
theorem dC_at_108 : decode cC_at 108 = .ok (.iadd, 1) := by decide +kernel
theorem dC_at_109 : decode cC_at 109 = .ok (.iconst 1, 1) := by decide +kernel
theorem dC_at_110 : decode cC_at 110 = .ok (.iadd, 1) := by decide +kernel
theorem dC_at_111 : decode cC_at 111 = .ok (.iaload, 1) := by decide +kernel
theorem dC_at_112 : decode cC_at 112 = .ok (.i2l, 1) := by decide +kernel
theorem dC_at_113 : decode cC_at 113 = .ok (.lload 6, 2) := by decide +kernel
theorem dC_at_115 : decode cC_at 115 = .ok (.lmul, 1) := by decide +kernel
theorem dC_at_116 : decode cC_at 116 = .ok (.ladd, 1) := by decide +kernel
theorem dC_at_117 : decode cC_at 117 = .ok (.lstore 10, 2) := by decide +kernel
theorem dC_at_119 : decode cC_at 119 = .ok (.lload 8, 2) := by decide +kernel
theorem dC_at_121 : decode cC_at 121 = .ok (.ldc2_w 19, 3) := by decide +kernel
theorem dC_at_124 : decode cC_at 124 = .ok (.lload 4, 2) := by decide +kernel
theorem dC_at_126 : decode cC_at 126 = .ok (.lsub, 1) := by decide +kernel
theorem dC_at_127 : decode cC_at 127 = .ok (.lmul, 1) := by decide +kernel
theorem dC_at_128 : decode cC_at 128 = .ok (.lload 10, 2) := by decide +kernel
theorem dC_at_130 : decode cC_at 130 = .ok (.lload 4, 2) := by decide +kernel
theorem dC_at_132 : decode cC_at 132 = .ok (.lmul, 1) := by decide +kernel
theorem dC_at_133 : decode cC_at 133 = .ok (.ladd, 1) := by decide +kernel
theorem dC_at_134 : decode cC_at 134 = .ok (.ldc2_w 21, 3) := by decide +kernel
theorem dC_at_137 : decode cC_at 137 = .ok (.ladd, 1) := by decide +kernel
theorem dC_at_138 : decode cC_at 138 = .ok (.ldc2_w 23, 3) := by decide +kernel
theorem dC_at_141 : decode cC_at 141 = .ok (.ldiv, 1) := by decide +kernel
theorem dC_at_142 : decode cC_at 142 = .ok (.l2i, 1) := by decide +kernel
theorem dC_at_143 : decode cC_at 143 = .ok (.ireturn, 1) := by decide +kernel
theorem dP_init_0 : decode cP_init 0 = .ok (.aload_n 0, 1) := by decide +kernel
theorem dP_init_1 : decode cP_init 1 = .ok (.invokespecial 3, 3) := by decide +kernel
theorem dP_init_4 : decode cP_init 4 = .ok (.aload_n 0, 1) := by decide +kernel
theorem dP_init_5 : decode cP_init 5 = .ok (.bipush 16, 2) := by decide +kernel
theorem dP_init_7 : decode cP_init 7 = .ok (.newarray .long, 2) := by decide +kernel
theorem dP_init_9 : decode cP_init 9 = .ok (.putfield 11, 3) := by decide +kernel
theorem dP_init_12 : decode cP_init 12 = .ok (.aload_n 0, 1) := by decide +kernel
theorem dP_init_13 : decode cP_init 13 = .ok (.iconst 0, 1) := by decide +kernel
theorem dP_init_14 : decode cP_init 14 = .ok (.putfield 15, 3) := by decide +kernel
theorem dP_init_17 : decode cP_init 17 = .ok (.aload_n 0, 1) := by decide +kernel
theorem dP_init_18 : decode cP_init 18 = .ok (.iconst 0, 1) := by decide +kernel
theorem dP_init_19 : decode cP_init 19 = .ok (.putfield 19, 3) := by decide +kernel
theorem dP_init_22 : decode cP_init 22 = .ok (.return_, 1) := by decide +kernel
theorem dP_isOn_0 : decode cP_isOn 0 = .ok (.aload_n 0, 1) := by decide +kernel
theorem dP_isOn_1 : decode cP_isOn 1 = .ok (.getfield 15, 3) := by decide +kernel
theorem dP_isOn_4 : decode cP_isOn 4 = .ok (.iconst 1, 1) := by decide +kernel
theorem dP_isOn_5 : decode cP_isOn 5 = .ok (.iload_n 1, 1) := by decide +kernel
theorem dP_isOn_6 : decode cP_isOn 6 = .ok (.ishl, 1) := by decide +kernel
theorem dP_isOn_7 : decode cP_isOn 7 = .ok (.iand, 1) := by decide +kernel
theorem dP_isOn_8 : decode cP_isOn 8 = .ok (.ifCond .eq 7, 3) := by decide +kernel
theorem dP_isOn_11 : decode cP_isOn 11 = .ok (.iconst 1, 1) := by decide +kernel
theorem dP_isOn_12 : decode cP_isOn 12 = .ok (.goto 4, 3) := by decide +kernel
theorem dP_isOn_15 : decode cP_isOn 15 = .ok (.iconst 0, 1) := by decide +kernel
theorem dP_isOn_16 : decode cP_isOn 16 = .ok (.ireturn, 1) := by decide +kernel
theorem dP_switchTo_0 : decode cP_switchTo 0 = .ok (.aload_n 0, 1) := by decide +kernel
theorem dP_switchTo_1 : decode cP_switchTo 1 = .ok (.iload_n 2, 1) := by decide +kernel
theorem dP_switchTo_2 : decode cP_switchTo 2 = .ok (.ifCond .eq 14, 3) := by decide +kernel
theorem dP_switchTo_5 : decode cP_switchTo 5 = .ok (.aload_n 0, 1) := by decide +kernel
theorem dP_switchTo_6 : decode cP_switchTo 6 = .ok (.getfield 15, 3) := by decide +kernel
theorem dP_switchTo_9 : decode cP_switchTo 9 = .ok (.iconst 1, 1) := by decide +kernel
theorem dP_switchTo_10 : decode cP_switchTo 10 = .ok (.iload_n 1, 1) := by decide +kernel
theorem dP_switchTo_11 : decode cP_switchTo 11 = .ok (.ishl, 1) := by decide +kernel
theorem dP_switchTo_12 : decode cP_switchTo 12 = .ok (.ior, 1) := by decide +kernel
theorem dP_switchTo_13 : decode cP_switchTo 13 = .ok (.goto 13, 3) := by decide +kernel
theorem dP_switchTo_16 : decode cP_switchTo 16 = .ok (.aload_n 0, 1) := by decide +kernel
theorem dP_switchTo_17 : decode cP_switchTo 17 = .ok (.getfield 15, 3) := by decide +kernel
theorem dP_switchTo_20 : decode cP_switchTo 20 = .ok (.iconst 1, 1) := by decide +kernel
theorem dP_switchTo_21 : decode cP_switchTo 21 = .ok (.iload_n 1, 1) := by decide +kernel
theorem dP_switchTo_22 : decode cP_switchTo 22 = .ok (.ishl, 1) := by decide +kernel
theorem dP_switchTo_23 : decode cP_switchTo 23 = .ok (.iconst (-1), 1) := by decide +kernel
theorem dP_switchTo_24 : decode cP_switchTo 24 = .ok (.ixor, 1) := by decide +kernel
theorem dP_switchTo_25 : decode cP_switchTo 25 = .ok (.iand, 1) := by decide +kernel
theorem dP_switchTo_26 : decode cP_switchTo 26 = .ok (.putfield 15, 3) := by decide +kernel
theorem dP_switchTo_29 : decode cP_switchTo 29 = .ok (.aload_n 0, 1) := by decide +kernel
theorem dP_switchTo_30 : decode cP_switchTo 30 = .ok (.getfield 11, 3) := by decide +kernel
theorem dP_switchTo_33 : decode cP_switchTo 33 = .ok (.aload_n 0, 1) := by decide +kernel
theorem dP_switchTo_34 : decode cP_switchTo 34 = .ok (.getfield 19, 3) := by decide +kernel
theorem dP_switchTo_37 : decode cP_switchTo 37 = .ok (.bipush 15, 2) := by decide +kernel
theorem dP_switchTo_39 : decode cP_switchTo 39 = .ok (.iand, 1) := by decide +kernel
theorem dP_switchTo_40 : decode cP_switchTo 40 = .ok (.lload_n 3, 1) := by decide +kernel
theorem dP_switchTo_41 : decode cP_switchTo 41 = .ok (.ldc2_w 22, 3) := by decide +kernel
theorem dP_switchTo_44 : decode cP_switchTo 44 = .ok (.lmul, 1) := by decide +kernel
theorem dP_switchTo_45 : decode cP_switchTo 45 = .ok (.iconst 2, 1) := by decide +kernel
theorem dP_switchTo_46 : decode cP_switchTo 46 = .ok (.iload_n 1, 1) := by decide +kernel
theorem dP_switchTo_47 : decode cP_switchTo 47 = .ok (.imul, 1) := by decide +kernel
theorem dP_switchTo_48 : decode cP_switchTo 48 = .ok (.i2l, 1) := by decide +kernel
theorem dP_switchTo_49 : decode cP_switchTo 49 = .ok (.ladd, 1) := by decide +kernel
theorem dP_switchTo_50 : decode cP_switchTo 50 = .ok (.iload_n 2, 1) := by decide +kernel
theorem dP_switchTo_51 : decode cP_switchTo 51 = .ok (.ifCond .eq 7, 3) := by decide +kernel
theorem dP_switchTo_54 : decode cP_switchTo 54 = .ok (.iconst 1, 1) := by decide +kernel
theorem dP_switchTo_55 : decode cP_switchTo 55 = .ok (.goto 4, 3) := by decide +kernel
theorem dP_switchTo_58 : decode cP_switchTo 58 = .ok (.iconst 0, 1) := by decide +kernel
theorem dP_switchTo_59 : decode cP_switchTo 59 = .ok (.i2l, 1) := by decide +kernel
theorem dP_switchTo_60 : decode cP_switchTo 60 = .ok (.ladd, 1) := by decide +kernel
theorem dP_switchTo_61 : decode cP_switchTo 61 = .ok (.lastore, 1) := by decide +kernel
theorem dP_switchTo_62 : decode cP_switchTo 62 = .ok (.aload_n 0, 1) := by decide +kernel
theorem dP_switchTo_63 : decode cP_switchTo 63 = .ok (.dup, 1) := by decide +kernel
theorem dP_switchTo_64 : decode cP_switchTo 64 = .ok (.getfield 19, 3) := by decide +kernel
theorem dP_switchTo_67 : decode cP_switchTo 67 = .ok (.iconst 1, 1) := by decide +kernel
theorem dP_switchTo_68 : decode cP_switchTo 68 = .ok (.iadd, 1) := by decide +kernel
theorem dP_switchTo_69 : decode cP_switchTo 69 = .ok (.putfield 19, 3) := by decide +kernel
theorem dP_switchTo_72 : decode cP_switchTo 72 = .ok (.return_, 1) := by decide +kernel
theorem dP_switchAllOff_0 : decode cP_switchAllOff 0 = .ok (.iconst 0, 1) := by decide +kernel
theorem dP_switchAllOff_1 : decode cP_switchAllOff 1 = .ok (.istore_n 3, 1) := by decide +kernel
theorem dP_switchAllOff_2 : decode cP_switchAllOff 2 = .ok (.iload_n 3, 1) := by decide +kernel
theorem dP_switchAllOff_3 : decode cP_switchAllOff 3 = .ok (.bipush 16, 2) := by decide +kernel
theorem dP_switchAllOff_5 : decode cP_switchAllOff 5 = .ok (.if_icmp .ge 24, 3) := by decide +kernel
theorem dP_switchAllOff_8 : decode cP_switchAllOff 8 = .ok (.aload_n 0, 1) := by decide +kernel
theorem dP_switchAllOff_9 : decode cP_switchAllOff 9 = .ok (.iload_n 3, 1) := by decide +kernel
theorem dP_switchAllOff_10 : decode cP_switchAllOff 10 = .ok (.invokevirtual 24, 3) := by decide +kernel
theorem dP_switchAllOff_13 : decode cP_switchAllOff 13 = .ok (.ifCond .eq 10, 3) := by decide +kernel
theorem dP_switchAllOff_16 : decode cP_switchAllOff 16 = .ok (.aload_n 0, 1) := by decide +kernel
theorem dP_switchAllOff_17 : decode cP_switchAllOff 17 = .ok (.iload_n 3, 1) := by decide +kernel
theorem dP_switchAllOff_18 : decode cP_switchAllOff 18 = .ok (.iconst 0, 1) := by decide +kernel
theorem dP_switchAllOff_19 : decode cP_switchAllOff 19 = .ok (.lload_n 1, 1) := by decide +kernel
theorem dP_switchAllOff_20 : decode cP_switchAllOff 20 = .ok (.invokevirtual 28, 3) := by decide +kernel
theorem dP_switchAllOff_23 : decode cP_switchAllOff 23 = .ok (.iinc 3 1, 3) := by decide +kernel
theorem dP_switchAllOff_26 : decode cP_switchAllOff 26 = .ok (.goto (-24), 3) := by decide +kernel
theorem dP_switchAllOff_29 : decode cP_switchAllOff 29 = .ok (.return_, 1) := by decide +kernel
theorem dP_logged_0 : decode cP_logged 0 = .ok (.iload_n 1, 1) := by decide +kernel
theorem dP_logged_1 : decode cP_logged 1 = .ok (.ifCond .lt 17, 3) := by decide +kernel
theorem dP_logged_4 : decode cP_logged 4 = .ok (.iload_n 1, 1) := by decide +kernel
theorem dP_logged_5 : decode cP_logged 5 = .ok (.bipush 16, 2) := by decide +kernel
theorem dP_logged_7 : decode cP_logged 7 = .ok (.if_icmp .ge 11, 3) := by decide +kernel
theorem dP_logged_10 : decode cP_logged 10 = .ok (.iload_n 1, 1) := by decide +kernel
theorem dP_logged_11 : decode cP_logged 11 = .ok (.aload_n 0, 1) := by decide +kernel
theorem dP_logged_12 : decode cP_logged 12 = .ok (.getfield 19, 3) := by decide +kernel
theorem dP_logged_15 : decode cP_logged 15 = .ok (.if_icmp .lt 9, 3) := by decide +kernel
theorem dP_logged_18 : decode cP_logged 18 = .ok (.ldc2_w 32, 3) := by decide +kernel
theorem dP_logged_21 : decode cP_logged 21 = .ok (.goto 19, 3) := by decide +kernel
theorem dP_logged_24 : decode cP_logged 24 = .ok (.aload_n 0, 1) := by decide +kernel
theorem dP_logged_25 : decode cP_logged 25 = .ok (.getfield 11, 3) := by decide +kernel
theorem dP_logged_28 : decode cP_logged 28 = .ok (.aload_n 0, 1) := by decide +kernel
theorem dP_logged_29 : decode cP_logged 29 = .ok (.getfield 19, 3) := by decide +kernel
theorem dP_logged_32 : decode cP_logged 32 = .ok (.iconst 1, 1) := by decide +kernel
theorem dP_logged_33 : decode cP_logged 33 = .ok (.isub, 1) := by decide +kernel
theorem dP_logged_34 : decode cP_logged 34 = .ok (.iload_n 1, 1) := by decide +kernel
theorem dP_logged_35 : decode cP_logged 35 = .ok (.isub, 1) := by decide +kernel
theorem dP_logged_36 : decode cP_logged 36 = .ok (.bipush 15, 2) := by decide +kernel
theorem dP_logged_38 : decode cP_logged 38 = .ok (.iand, 1) := by decide +kernel
theorem dP_logged_39 : decode cP_logged 39 = .ok (.laload, 1) := by decide +kernel
theorem dP_logged_40 : decode cP_logged 40 = .ok (.lreturn, 1) := by decide +kernel
theorem dS_init_0 : decode cS_init 0 = .ok (.aload_n 0, 1) := by decide +kernel
theorem dS_init_1 : decode cS_init 1 = .ok (.invokespecial 3, 3) := by decide +kernel
theorem dS_init_4 : decode cS_init 4 = .ok (.aload_n 0, 1) := by decide +kernel
theorem dS_init_5 : decode cS_init 5 = .ok (.iconst 3, 1) := by decide +kernel
theorem dS_init_6 : decode cS_init 6 = .ok (.newarray .long, 2) := by decide +kernel
theorem dS_init_8 : decode cS_init 8 = .ok (.putfield 11, 3) := by decide +kernel
theorem dS_init_11 : decode cS_init 11 = .ok (.aload_n 0, 1) := by decide +kernel
theorem dS_init_12 : decode cS_init 12 = .ok (.iconst (-1), 1) := by decide +kernel
theorem dS_init_13 : decode cS_init 13 = .ok (.putfield 15, 3) := by decide +kernel
theorem dS_init_16 : decode cS_init 16 = .ok (.aload_n 0, 1) := by decide +kernel
theorem dS_init_17 : decode cS_init 17 = .ok (.iconst 0, 1) := by decide +kernel
theorem dS_init_18 : decode cS_init 18 = .ok (.putfield 19, 3) := by decide +kernel
theorem dS_init_21 : decode cS_init 21 = .ok (.aload_n 0, 1) := by decide +kernel
theorem dS_init_22 : decode cS_init 22 = .ok (.iconst 0, 1) := by decide +kernel
theorem dS_init_23 : decode cS_init 23 = .ok (.putfield 22, 3) := by decide +kernel
theorem dS_init_26 : decode cS_init 26 = .ok (.aload_n 0, 1) := by decide +kernel
theorem dS_init_27 : decode cS_init 27 = .ok (.aload_n 1, 1) := by decide +kernel
theorem dS_init_28 : decode cS_init 28 = .ok (.putfield 26, 3) := by decide +kernel
theorem dS_init_31 : decode cS_init 31 = .ok (.aload_n 0, 1) := by decide +kernel
theorem dS_init_32 : decode cS_init 32 = .ok (.iload_n 3, 1) := by decide +kernel
theorem dS_init_33 : decode cS_init 33 = .ok (.putfield 30, 3) := by decide +kernel
theorem dS_init_36 : decode cS_init 36 = .ok (.aload_n 0, 1) := by decide +kernel
theorem dS_init_37 : decode cS_init 37 = .ok (.iload_n 2, 1) := by decide +kernel
theorem dS_init_38 : decode cS_init 38 = .ok (.putfield 33, 3) := by decide +kernel
theorem dS_init_41 : decode cS_init 41 = .ok (.return_, 1) := by decide +kernel
theorem dS_take_0 : decode cS_take 0 = .ok (.iload_n 1, 1) := by decide +kernel
theorem dS_take_1 : decode cS_take 1 = .ok (.invokestatic 36, 3) := by decide +kernel
theorem dS_take_4 : decode cS_take 4 = .ok (.ifCond .eq 32, 3) := by decide +kernel
theorem dS_take_7 : decode cS_take 7 = .ok (.aload_n 0, 1) := by decide +kernel
theorem dS_take_8 : decode cS_take 8 = .ok (.getfield 15, 3) := by decide +kernel
theorem dS_take_11 : decode cS_take 11 = .ok (.invokestatic 36, 3) := by decide +kernel
theorem dS_take_14 : decode cS_take 14 = .ok (.ifCond .eq 18, 3) := by decide +kernel
theorem dS_take_17 : decode cS_take 17 = .ok (.iload_n 1, 1) := by decide +kernel
theorem dS_take_18 : decode cS_take 18 = .ok (.aload_n 0, 1) := by decide +kernel
theorem dS_take_19 : decode cS_take 19 = .ok (.getfield 15, 3) := by decide +kernel
theorem dS_take_22 : decode cS_take 22 = .ok (.isub, 1) := by decide +kernel
theorem dS_take_23 : decode cS_take 23 = .ok (.invokestatic 40, 3) := by decide +kernel
theorem dS_take_26 : decode cS_take 26 = .ok (.sipush 256, 3) := by decide +kernel
theorem dS_take_29 : decode cS_take 29 = .ok (.if_icmp .gt 7, 3) := by decide +kernel
theorem dS_take_32 : decode cS_take 32 = .ok (.iconst 1, 1) := by decide +kernel
theorem dS_take_33 : decode cS_take 33 = .ok (.goto 4, 3) := by decide +kernel
theorem dS_take_36 : decode cS_take 36 = .ok (.iconst 0, 1) := by decide +kernel
theorem dS_take_37 : decode cS_take 37 = .ok (.istore_n 2, 1) := by decide +kernel
theorem dS_take_38 : decode cS_take 38 = .ok (.iload_n 2, 1) := by decide +kernel
theorem dS_take_39 : decode cS_take 39 = .ok (.ifCond .eq 29, 3) := by decide +kernel
theorem dS_take_42 : decode cS_take 42 = .ok (.aload_n 0, 1) := by decide +kernel
theorem dS_take_43 : decode cS_take 43 = .ok (.iconst 0, 1) := by decide +kernel
theorem dS_take_44 : decode cS_take 44 = .ok (.aload_n 0, 1) := by decide +kernel
theorem dS_take_45 : decode cS_take 45 = .ok (.getfield 19, 3) := by decide +kernel
theorem dS_take_48 : decode cS_take 48 = .ok (.iconst 1, 1) := by decide +kernel
theorem dS_take_49 : decode cS_take 49 = .ok (.isub, 1) := by decide +kernel
theorem dS_take_50 : decode cS_take 50 = .ok (.invokestatic 46, 3) := by decide +kernel
theorem dS_take_53 : decode cS_take 53 = .ok (.putfield 19, 3) := by decide +kernel
theorem dS_take_56 : decode cS_take 56 = .ok (.aload_n 0, 1) := by decide +kernel
theorem dS_take_57 : decode cS_take 57 = .ok (.aload_n 0, 1) := by decide +kernel
theorem dS_take_58 : decode cS_take 58 = .ok (.iload_n 1, 1) := by decide +kernel
theorem dS_take_59 : decode cS_take 59 = .ok (.invokevirtual 50, 3) := by decide +kernel
theorem dS_take_62 : decode cS_take 62 = .ok (.putfield 33, 3) := by decide +kernel
theorem dS_take_65 : decode cS_take 65 = .ok (.goto 18, 3) := by decide +kernel
theorem dS_take_68 : decode cS_take 68 = .ok (.aload_n 0, 1) := by decide +kernel
theorem dS_take_69 : decode cS_take 69 = .ok (.bipush 6, 2) := by decide +kernel
theorem dS_take_71 : decode cS_take 71 = .ok (.aload_n 0, 1) := by decide +kernel
theorem dS_take_72 : decode cS_take 72 = .ok (.getfield 19, 3) := by decide +kernel
theorem dS_take_75 : decode cS_take 75 = .ok (.iconst 1, 1) := by decide +kernel
theorem dS_take_76 : decode cS_take 76 = .ok (.iadd, 1) := by decide +kernel
theorem dS_take_77 : decode cS_take 77 = .ok (.invokestatic 53, 3) := by decide +kernel
theorem dS_take_80 : decode cS_take 80 = .ok (.putfield 19, 3) := by decide +kernel
theorem dS_take_83 : decode cS_take 83 = .ok (.aload_n 0, 1) := by decide +kernel
theorem dS_take_84 : decode cS_take 84 = .ok (.iload_n 1, 1) := by decide +kernel
theorem dS_take_85 : decode cS_take 85 = .ok (.putfield 15, 3) := by decide +kernel
theorem dS_take_88 : decode cS_take 88 = .ok (.iload_n 2, 1) := by decide +kernel
theorem dS_take_89 : decode cS_take 89 = .ok (.ireturn, 1) := by decide +kernel
theorem dS_inRange_0 : decode cS_inRange 0 = .ok (.iload_n 0, 1) := by decide +kernel
theorem dS_inRange_1 : decode cS_inRange 1 = .ok (.bipush 16, 2) := by decide +kernel
theorem dS_inRange_3 : decode cS_inRange 3 = .ok (.if_icmp .lt 14, 3) := by decide +kernel
theorem dS_inRange_6 : decode cS_inRange 6 = .ok (.iload_n 0, 1) := by decide +kernel
theorem dS_inRange_7 : decode cS_inRange 7 = .ok (.sipush 1007, 3) := by decide +kernel
theorem dS_inRange_10 : decode cS_inRange 10 = .ok (.if_icmp .gt 7, 3) := by decide +kernel
theorem dS_inRange_13 : decode cS_inRange 13 = .ok (.iconst 1, 1) := by decide +kernel
theorem dS_inRange_14 : decode cS_inRange 14 = .ok (.goto 4, 3) := by decide +kernel
theorem dS_inRange_17 : decode cS_inRange 17 = .ok (.iconst 0, 1) := by decide +kernel
theorem dS_inRange_18 : decode cS_inRange 18 = .ok (.ireturn, 1) := by decide +kernel
theorem dS_onCurve_0 : decode cS_onCurve 0 = .ok (.iload_n 1, 1) := by decide +kernel
theorem dS_onCurve_1 : decode cS_onCurve 1 = .ok (.sipush 256, 3) := by decide +kernel
theorem dS_onCurve_4 : decode cS_onCurve 4 = .ok (.idiv, 1) := by decide +kernel
theorem dS_onCurve_5 : decode cS_onCurve 5 = .ok (.istore_n 2, 1) := by decide +kernel
theorem dS_onCurve_6 : decode cS_onCurve 6 = .ok (.aload_n 0, 1) := by decide +kernel
theorem dS_onCurve_7 : decode cS_onCurve 7 = .ok (.getfield 26, 3) := by decide +kernel
theorem dS_onCurve_10 : decode cS_onCurve 10 = .ok (.iload_n 2, 1) := by decide +kernel
theorem dS_onCurve_11 : decode cS_onCurve 11 = .ok (.iaload, 1) := by decide +kernel
theorem dS_onCurve_12 : decode cS_onCurve 12 = .ok (.aload_n 0, 1) := by decide +kernel
theorem dS_onCurve_13 : decode cS_onCurve 13 = .ok (.getfield 26, 3) := by decide +kernel
theorem dS_onCurve_16 : decode cS_onCurve 16 = .ok (.iload_n 2, 1) := by decide +kernel
theorem dS_onCurve_17 : decode cS_onCurve 17 = .ok (.iconst 1, 1) := by decide +kernel
theorem dS_onCurve_18 : decode cS_onCurve 18 = .ok (.iadd, 1) := by decide +kernel
theorem dS_onCurve_19 : decode cS_onCurve 19 = .ok (.iaload, 1) := by decide +kernel
theorem dS_onCurve_20 : decode cS_onCurve 20 = .ok (.aload_n 0, 1) := by decide +kernel
theorem dS_onCurve_21 : decode cS_onCurve 21 = .ok (.getfield 26, 3) := by decide +kernel
theorem dS_onCurve_24 : decode cS_onCurve 24 = .ok (.iload_n 2, 1) := by decide +kernel
theorem dS_onCurve_25 : decode cS_onCurve 25 = .ok (.iaload, 1) := by decide +kernel
theorem dS_onCurve_26 : decode cS_onCurve 26 = .ok (.isub, 1) := by decide +kernel
theorem dS_onCurve_27 : decode cS_onCurve 27 = .ok (.iload_n 1, 1) := by decide +kernel
theorem dS_onCurve_28 : decode cS_onCurve 28 = .ok (.sipush 256, 3) := by decide +kernel
theorem dS_onCurve_31 : decode cS_onCurve 31 = .ok (.irem, 1) := by decide +kernel
theorem dS_onCurve_32 : decode cS_onCurve 32 = .ok (.imul, 1) := by decide +kernel
theorem dS_onCurve_33 : decode cS_onCurve 33 = .ok (.sipush 256, 3) := by decide +kernel
theorem dS_onCurve_36 : decode cS_onCurve 36 = .ok (.invokestatic 56, 3) := by decide +kernel
theorem dS_onCurve_39 : decode cS_onCurve 39 = .ok (.iadd, 1) := by decide +kernel
theorem dS_onCurve_40 : decode cS_onCurve 40 = .ok (.ireturn, 1) := by decide +kernel
theorem dS_reading_0 : decode cS_reading 0 = .ok (.aload_n 0, 1) := by decide +kernel
theorem dS_reading_1 : decode cS_reading 1 = .ok (.getfield 19, 3) := by decide +kernel
theorem dS_reading_4 : decode cS_reading 4 = .ok (.iconst 3, 1) := by decide +kernel
theorem dS_reading_5 : decode cS_reading 5 = .ok (.if_icmp .lt 10, 3) := by decide +kernel
theorem dS_reading_8 : decode cS_reading 8 = .ok (.aload_n 0, 1) := by decide +kernel
theorem dS_reading_9 : decode cS_reading 9 = .ok (.getfield 30, 3) := by decide +kernel
theorem dS_reading_12 : decode cS_reading 12 = .ok (.goto 7, 3) := by decide +kernel
theorem dS_reading_15 : decode cS_reading 15 = .ok (.aload_n 0, 1) := by decide +kernel
theorem dS_reading_16 : decode cS_reading 16 = .ok (.getfield 33, 3) := by decide +kernel
theorem dS_reading_19 : decode cS_reading 19 = .ok (.ireturn, 1) := by decide +kernel
theorem dS_wantsCode_0 : decode cS_wantsCode 0 = .ok (.aload_n 0, 1) := by decide +kernel
theorem dS_wantsCode_1 : decode cS_wantsCode 1 = .ok (.getfield 19, 3) := by decide +kernel
theorem dS_wantsCode_4 : decode cS_wantsCode 4 = .ok (.iconst 3, 1) := by decide +kernel
theorem dS_wantsCode_5 : decode cS_wantsCode 5 = .ok (.if_icmp .ne 14, 3) := by decide +kernel
theorem dS_wantsCode_8 : decode cS_wantsCode 8 = .ok (.aload_n 0, 1) := by decide +kernel
theorem dS_wantsCode_9 : decode cS_wantsCode 9 = .ok (.getfield 22, 3) := by decide +kernel
theorem dS_wantsCode_12 : decode cS_wantsCode 12 = .ok (.ifCond .ne 7, 3) := by decide +kernel
theorem dS_wantsCode_15 : decode cS_wantsCode 15 = .ok (.iconst 1, 1) := by decide +kernel
theorem dS_wantsCode_16 : decode cS_wantsCode 16 = .ok (.goto 4, 3) := by decide +kernel
theorem dS_wantsCode_19 : decode cS_wantsCode 19 = .ok (.iconst 0, 1) := by decide +kernel
theorem dS_wantsCode_20 : decode cS_wantsCode 20 = .ok (.ireturn, 1) := by decide +kernel
theorem dS_storeCode_0 : decode cS_storeCode 0 = .ok (.aload_n 0, 1) := by decide +kernel
theorem dS_storeCode_1 : decode cS_storeCode 1 = .ok (.iconst 1, 1) := by decide +kernel
theorem dS_storeCode_2 : decode cS_storeCode 2 = .ok (.putfield 22, 3) := by decide +kernel
theorem dS_storeCode_5 : decode cS_storeCode 5 = .ok (.aload_n 0, 1) := by decide +kernel
theorem dS_storeCode_6 : decode cS_storeCode 6 = .ok (.getfield 11, 3) := by decide +kernel
theorem dS_storeCode_9 : decode cS_storeCode 9 = .ok (.iconst 0, 1) := by decide +kernel
theorem dS_storeCode_10 : decode cS_storeCode 10 = .ok (.lload_n 1, 1) := by decide +kernel
theorem dS_storeCode_11 : decode cS_storeCode 11 = .ok (.lastore, 1) := by decide +kernel
theorem dS_storeCode_12 : decode cS_storeCode 12 = .ok (.aload_n 0, 1) := by decide +kernel
theorem dS_storeCode_13 : decode cS_storeCode 13 = .ok (.getfield 11, 3) := by decide +kernel
theorem dS_storeCode_16 : decode cS_storeCode 16 = .ok (.iconst 1, 1) := by decide +kernel
theorem dS_storeCode_17 : decode cS_storeCode 17 = .ok (.lload_n 3, 1) := by decide +kernel
theorem dS_storeCode_18 : decode cS_storeCode 18 = .ok (.lastore, 1) := by decide +kernel
theorem dS_storeCode_19 : decode cS_storeCode 19 = .ok (.aload_n 0, 1) := by decide +kernel
theorem dS_storeCode_20 : decode cS_storeCode 20 = .ok (.getfield 11, 3) := by decide +kernel
theorem dS_storeCode_23 : decode cS_storeCode 23 = .ok (.iconst 2, 1) := by decide +kernel
theorem dS_storeCode_24 : decode cS_storeCode 24 = .ok (.iload 5, 2) := by decide +kernel
theorem dS_storeCode_26 : decode cS_storeCode 26 = .ok (.i2l, 1) := by decide +kernel
theorem dS_storeCode_27 : decode cS_storeCode 27 = .ok (.lastore, 1) := by decide +kernel
theorem dS_storeCode_28 : decode cS_storeCode 28 = .ok (.return_, 1) := by decide +kernel
theorem dS_codePart_0 : decode cS_codePart 0 = .ok (.aload_n 0, 1) := by decide +kernel
theorem dS_codePart_1 : decode cS_codePart 1 = .ok (.getfield 22, 3) := by decide +kernel
theorem dS_codePart_4 : decode cS_codePart 4 = .ok (.ifCond .eq 21, 3) := by decide +kernel
theorem dS_codePart_7 : decode cS_codePart 7 = .ok (.iload_n 1, 1) := by decide +kernel
theorem dS_codePart_8 : decode cS_codePart 8 = .ok (.ifCond .lt 17, 3) := by decide +kernel
theorem dS_codePart_11 : decode cS_codePart 11 = .ok (.iload_n 1, 1) := by decide +kernel
theorem dS_codePart_12 : decode cS_codePart 12 = .ok (.iconst 3, 1) := by decide +kernel
theorem dS_codePart_13 : decode cS_codePart 13 = .ok (.if_icmp .ge 12, 3) := by decide +kernel
theorem dS_codePart_16 : decode cS_codePart 16 = .ok (.aload_n 0, 1) := by decide +kernel
theorem dS_codePart_17 : decode cS_codePart 17 = .ok (.getfield 11, 3) := by decide +kernel
theorem dS_codePart_20 : decode cS_codePart 20 = .ok (.iload_n 1, 1) := by decide +kernel
theorem dS_codePart_21 : decode cS_codePart 21 = .ok (.laload, 1) := by decide +kernel
theorem dS_codePart_22 : decode cS_codePart 22 = .ok (.goto 6, 3) := by decide +kernel
theorem dS_codePart_25 : decode cS_codePart 25 = .ok (.ldc2_w 59, 3) := by decide +kernel
theorem dS_codePart_28 : decode cS_codePart 28 = .ok (.lreturn, 1) := by decide +kernel
theorem dS_dropCode_0 : decode cS_dropCode 0 = .ok (.aload_n 0, 1) := by decide +kernel
theorem dS_dropCode_1 : decode cS_dropCode 1 = .ok (.getfield 22, 3) := by decide +kernel
theorem dS_dropCode_4 : decode cS_dropCode 4 = .ok (.ifCond .eq 7, 3) := by decide +kernel
theorem dS_dropCode_7 : decode cS_dropCode 7 = .ok (.iconst 1, 1) := by decide +kernel
theorem dS_dropCode_8 : decode cS_dropCode 8 = .ok (.goto 4, 3) := by decide +kernel
theorem dS_dropCode_11 : decode cS_dropCode 11 = .ok (.iconst 0, 1) := by decide +kernel
theorem dS_dropCode_12 : decode cS_dropCode 12 = .ok (.istore_n 1, 1) := by decide +kernel
theorem dS_dropCode_13 : decode cS_dropCode 13 = .ok (.aload_n 0, 1) := by decide +kernel
theorem dS_dropCode_14 : decode cS_dropCode 14 = .ok (.iconst 0, 1) := by decide +kernel
theorem dS_dropCode_15 : decode cS_dropCode 15 = .ok (.putfield 22, 3) := by decide +kernel
theorem dS_dropCode_18 : decode cS_dropCode 18 = .ok (.iload_n 1, 1) := by decide +kernel
theorem dS_dropCode_19 : decode cS_dropCode 19 = .ok (.ireturn, 1) := by decide +kernel
theorem dW_init_0 : decode cW_init 0 = .ok (.aload_n 0, 1) := by decide +kernel
theorem dW_init_1 : decode cW_init 1 = .ok (.invokespecial 3, 3) := by decide +kernel
theorem dW_init_4 : decode cW_init 4 = .ok (.aload_n 0, 1) := by decide +kernel
theorem dW_init_5 : decode cW_init 5 = .ok (.iconst 0, 1) := by decide +kernel
theorem dW_init_6 : decode cW_init 6 = .ok (.putfield 9, 3) := by decide +kernel
theorem dW_init_9 : decode cW_init 9 = .ok (.aload_n 0, 1) := by decide +kernel
theorem dW_init_10 : decode cW_init 10 = .ok (.iconst 0, 1) := by decide +kernel
theorem dW_init_11 : decode cW_init 11 = .ok (.putfield 15, 3) := by decide +kernel
theorem dW_init_14 : decode cW_init 14 = .ok (.aload_n 0, 1) := by decide +kernel
theorem dW_init_15 : decode cW_init 15 = .ok (.lconst 0, 1) := by decide +kernel
theorem dW_init_16 : decode cW_init 16 = .ok (.putfield 19, 3) := by decide +kernel
theorem dW_init_19 : decode cW_init 19 = .ok (.aload_n 0, 1) := by decide +kernel
theorem dW_init_20 : decode cW_init 20 = .ok (.lconst 0, 1) := by decide +kernel
theorem dW_init_21 : decode cW_init 21 = .ok (.putfield 23, 3) := by decide +kernel
theorem dW_init_24 : decode cW_init 24 = .ok (.aload_n 0, 1) := by decide +kernel
theorem dW_init_25 : decode cW_init 25 = .ok (.iconst (-1), 1) := by decide +kernel
theorem dW_init_26 : decode cW_init 26 = .ok (.putfield 26, 3) := by decide +kernel
theorem dW_init_29 : decode cW_init 29 = .ok (.aload_n 0, 1) := by decide +kernel
theorem dW_init_30 : decode cW_init 30 = .ok (.iconst (-1), 1) := by decide +kernel
theorem dW_init_31 : decode cW_init 31 = .ok (.putfield 29, 3) := by decide +kernel
theorem dW_init_34 : decode cW_init 34 = .ok (.aload_n 0, 1) := by decide +kernel
theorem dW_init_35 : decode cW_init 35 = .ok (.iconst 0, 1) := by decide +kernel
theorem dW_init_36 : decode cW_init 36 = .ok (.putfield 32, 3) := by decide +kernel
theorem dW_init_39 : decode cW_init 39 = .ok (.aload_n 0, 1) := by decide +kernel
theorem dW_init_40 : decode cW_init 40 = .ok (.iload_n 1, 1) := by decide +kernel
theorem dW_init_41 : decode cW_init 41 = .ok (.putfield 35, 3) := by decide +kernel
theorem dW_init_44 : decode cW_init 44 = .ok (.aload_n 0, 1) := by decide +kernel
theorem dW_init_45 : decode cW_init 45 = .ok (.iload_n 1, 1) := by decide +kernel
theorem dW_init_46 : decode cW_init 46 = .ok (.iconst 3, 1) := by decide +kernel
theorem dW_init_47 : decode cW_init 47 = .ok (.isub, 1) := by decide +kernel
theorem dW_init_48 : decode cW_init 48 = .ok (.putfield 38, 3) := by decide +kernel
theorem dW_init_51 : decode cW_init 51 = .ok (.aload_n 0, 1) := by decide +kernel
theorem dW_init_52 : decode cW_init 52 = .ok (.iconst 2, 1) := by decide +kernel
theorem dW_init_53 : decode cW_init 53 = .ok (.iload_n 1, 1) := by decide +kernel
theorem dW_init_54 : decode cW_init 54 = .ok (.imul, 1) := by decide +kernel
theorem dW_init_55 : decode cW_init 55 = .ok (.bipush 64, 2) := by decide +kernel
theorem dW_init_57 : decode cW_init 57 = .ok (.imul, 1) := by decide +kernel
theorem dW_init_58 : decode cW_init 58 = .ok (.putfield 41, 3) := by decide +kernel
theorem dW_init_61 : decode cW_init 61 = .ok (.return_, 1) := by decide +kernel
theorem dW_meetTooth_0 : decode cW_meetTooth 0 = .ok (.aload_n 0, 1) := by decide +kernel
theorem dW_meetTooth_1 : decode cW_meetTooth 1 = .ok (.getfield 15, 3) := by decide +kernel
theorem dW_meetTooth_4 : decode cW_meetTooth 4 = .ok (.ifCond .eq 13, 3) := by decide +kernel
theorem dW_meetTooth_7 : decode cW_meetTooth 7 = .ok (.aload_n 0, 1) := by decide +kernel
theorem dW_meetTooth_8 : decode cW_meetTooth 8 = .ok (.lload_n 1, 1) := by decide +kernel
theorem dW_meetTooth_9 : decode cW_meetTooth 9 = .ok (.aload_n 0, 1) := by decide +kernel
theorem dW_meetTooth_10 : decode cW_meetTooth 10 = .ok (.getfield 19, 3) := by decide +kernel
theorem dW_meetTooth_13 : decode cW_meetTooth 13 = .ok (.lsub, 1) := by decide +kernel
theorem dW_meetTooth_14 : decode cW_meetTooth 14 = .ok (.invokevirtual 44, 3) := by decide +kernel
theorem dW_meetTooth_17 : decode cW_meetTooth 17 = .ok (.aload_n 0, 1) := by decide +kernel
theorem dW_meetTooth_18 : decode cW_meetTooth 18 = .ok (.iconst 1, 1) := by decide +kernel
theorem dW_meetTooth_19 : decode cW_meetTooth 19 = .ok (.putfield 15, 3) := by decide +kernel
theorem dW_meetTooth_22 : decode cW_meetTooth 22 = .ok (.aload_n 0, 1) := by decide +kernel
theorem dW_meetTooth_23 : decode cW_meetTooth 23 = .ok (.lload_n 1, 1) := by decide +kernel
theorem dW_meetTooth_24 : decode cW_meetTooth 24 = .ok (.putfield 19, 3) := by decide +kernel
theorem dW_meetTooth_27 : decode cW_meetTooth 27 = .ok (.return_, 1) := by decide +kernel
theorem dW_measure_0 : decode cW_measure 0 = .ok (.aload_n 0, 1) := by decide +kernel
theorem dW_measure_1 : decode cW_measure 1 = .ok (.getfield 9, 3) := by decide +kernel
theorem dW_measure_4 : decode cW_measure 4 = .ok (.ifCond .ne 16, 3) := by decide +kernel
theorem dW_measure_7 : decode cW_measure 7 = .ok (.aload_n 0, 1) := by decide +kernel
theorem dW_measure_8 : decode cW_measure 8 = .ok (.lload_n 1, 1) := by decide +kernel
theorem dW_measure_9 : decode cW_measure 9 = .ok (.putfield 23, 3) := by decide +kernel
theorem dW_measure_12 : decode cW_measure 12 = .ok (.aload_n 0, 1) := by decide +kernel
theorem dW_measure_13 : decode cW_measure 13 = .ok (.iconst 1, 1) := by decide +kernel
theorem dW_measure_14 : decode cW_measure 14 = .ok (.putfield 9, 3) := by decide +kernel
theorem dW_measure_17 : decode cW_measure 17 = .ok (.goto 49, 3) := by decide +kernel
theorem dW_measure_20 : decode cW_measure 20 = .ok (.lload_n 1, 1) := by decide +kernel
theorem dW_measure_21 : decode cW_measure 21 = .ok (.ldc2_w 48, 3) := by decide +kernel
theorem dW_measure_24 : decode cW_measure 24 = .ok (.aload_n 0, 1) := by decide +kernel
theorem dW_measure_25 : decode cW_measure 25 = .ok (.getfield 23, 3) := by decide +kernel
theorem dW_measure_28 : decode cW_measure 28 = .ok (.lmul, 1) := by decide +kernel
theorem dW_measure_29 : decode cW_measure 29 = .ok (.lcmp, 1) := by decide +kernel
theorem dW_measure_30 : decode cW_measure 30 = .ok (.ifCond .lt 11, 3) := by decide +kernel
theorem dW_measure_33 : decode cW_measure 33 = .ok (.aload_n 0, 1) := by decide +kernel
theorem dW_measure_34 : decode cW_measure 34 = .ok (.lload_n 1, 1) := by decide +kernel
theorem dW_measure_35 : decode cW_measure 35 = .ok (.invokevirtual 50, 3) := by decide +kernel
theorem dW_measure_38 : decode cW_measure 38 = .ok (.goto 28, 3) := by decide +kernel
theorem dW_measure_41 : decode cW_measure 41 = .ok (.ldc2_w 48, 3) := by decide +kernel
theorem dW_measure_44 : decode cW_measure 44 = .ok (.lload_n 1, 1) := by decide +kernel
theorem dW_measure_45 : decode cW_measure 45 = .ok (.lmul, 1) := by decide +kernel
theorem dW_measure_46 : decode cW_measure 46 = .ok (.aload_n 0, 1) := by decide +kernel
theorem dW_measure_47 : decode cW_measure 47 = .ok (.getfield 23, 3) := by decide +kernel
theorem dW_measure_50 : decode cW_measure 50 = .ok (.lcmp, 1) := by decide +kernel
theorem dW_measure_51 : decode cW_measure 51 = .ok (.ifCond .le 11, 3) := by decide +kernel
theorem dW_measure_54 : decode cW_measure 54 = .ok (.aload_n 0, 1) := by decide +kernel
theorem dW_measure_55 : decode cW_measure 55 = .ok (.lload_n 1, 1) := by decide +kernel
theorem dW_measure_56 : decode cW_measure 56 = .ok (.invokevirtual 53, 3) := by decide +kernel
theorem dW_measure_59 : decode cW_measure 59 = .ok (.goto 7, 3) := by decide +kernel
theorem dW_measure_62 : decode cW_measure 62 = .ok (.aload_n 0, 1) := by decide +kernel
theorem dW_measure_63 : decode cW_measure 63 = .ok (.invokevirtual 56, 3) := by decide +kernel
theorem dW_measure_66 : decode cW_measure 66 = .ok (.return_, 1) := by decide +kernel
theorem dW_passGap_0 : decode cW_passGap 0 = .ok (.aload_n 0, 1) := by decide +kernel
theorem dW_passGap_1 : decode cW_passGap 1 = .ok (.lconst 1, 1) := by decide +kernel
theorem dW_passGap_2 : decode cW_passGap 2 = .ok (.lload_n 1, 1) := by decide +kernel
theorem dW_passGap_3 : decode cW_passGap 3 = .ok (.ldc2_w 59, 3) := by decide +kernel
theorem dW_passGap_6 : decode cW_passGap 6 = .ok (.ldiv, 1) := by decide +kernel
theorem dW_passGap_7 : decode cW_passGap 7 = .ok (.invokestatic 61, 3) := by decide +kernel
theorem dW_passGap_10 : decode cW_passGap 10 = .ok (.putfield 23, 3) := by decide +kernel
theorem dW_passGap_13 : decode cW_passGap 13 = .ok (.aload_n 0, 1) := by decide +kernel
theorem dW_passGap_14 : decode cW_passGap 14 = .ok (.getfield 26, 3) := by decide +kernel
theorem dW_passGap_17 : decode cW_passGap 17 = .ok (.aload_n 0, 1) := by decide +kernel
theorem dW_passGap_18 : decode cW_passGap 18 = .ok (.getfield 38, 3) := by decide +kernel
theorem dW_passGap_21 : decode cW_passGap 21 = .ok (.if_icmp .ne 7, 3) := by decide +kernel
theorem dW_passGap_24 : decode cW_passGap 24 = .ok (.iconst 1, 1) := by decide +kernel
theorem dW_passGap_25 : decode cW_passGap 25 = .ok (.goto 4, 3) := by decide +kernel
theorem dW_passGap_28 : decode cW_passGap 28 = .ok (.iconst 0, 1) := by decide +kernel
theorem dW_passGap_29 : decode cW_passGap 29 = .ok (.istore_n 3, 1) := by decide +kernel
theorem dW_passGap_30 : decode cW_passGap 30 = .ok (.aload_n 0, 1) := by decide +kernel
theorem dW_passGap_31 : decode cW_passGap 31 = .ok (.iload_n 3, 1) := by decide +kernel
theorem dW_passGap_32 : decode cW_passGap 32 = .ok (.ifCond .eq 10, 3) := by decide +kernel
theorem dW_passGap_35 : decode cW_passGap 35 = .ok (.aload_n 0, 1) := by decide +kernel
theorem dW_passGap_36 : decode cW_passGap 36 = .ok (.invokevirtual 67, 3) := by decide +kernel
theorem dW_passGap_39 : decode cW_passGap 39 = .ok (.goto 4, 3) := by decide +kernel
theorem dW_passGap_42 : decode cW_passGap 42 = .ok (.iconst (-1), 1) := by decide +kernel
theorem dW_passGap_43 : decode cW_passGap 43 = .ok (.putfield 29, 3) := by decide +kernel
theorem dW_passGap_46 : decode cW_passGap 46 = .ok (.aload_n 0, 1) := by decide +kernel
theorem dW_passGap_47 : decode cW_passGap 47 = .ok (.iload_n 3, 1) := by decide +kernel
theorem dW_passGap_48 : decode cW_passGap 48 = .ok (.ifCond .eq 7, 3) := by decide +kernel
theorem dW_passGap_51 : decode cW_passGap 51 = .ok (.iconst 3, 1) := by decide +kernel
theorem dW_passGap_52 : decode cW_passGap 52 = .ok (.goto 4, 3) := by decide +kernel
theorem dW_passGap_55 : decode cW_passGap 55 = .ok (.iconst 2, 1) := by decide +kernel
theorem dW_passGap_56 : decode cW_passGap 56 = .ok (.putfield 9, 3) := by decide +kernel
theorem dW_passGap_59 : decode cW_passGap 59 = .ok (.aload_n 0, 1) := by decide +kernel
theorem dW_passGap_60 : decode cW_passGap 60 = .ok (.iconst 0, 1) := by decide +kernel
theorem dW_passGap_61 : decode cW_passGap 61 = .ok (.putfield 26, 3) := by decide +kernel
theorem dW_passGap_64 : decode cW_passGap 64 = .ok (.aload_n 0, 1) := by decide +kernel
theorem dW_passGap_65 : decode cW_passGap 65 = .ok (.iconst 0, 1) := by decide +kernel
theorem dW_passGap_66 : decode cW_passGap 66 = .ok (.putfield 32, 3) := by decide +kernel
theorem dW_passGap_69 : decode cW_passGap 69 = .ok (.return_, 1) := by decide +kernel
theorem dW_roundAfterGap_0 : decode cW_roundAfterGap 0 = .ok (.aload_n 0, 1) := by decide +kernel
theorem dW_roundAfterGap_1 : decode cW_roundAfterGap 1 = .ok (.getfield 29, 3) := by decide +kernel
theorem dW_roundAfterGap_4 : decode cW_roundAfterGap 4 = .ok (.iconst (-1), 1) := by decide +kernel
theorem dW_roundAfterGap_5 : decode cW_roundAfterGap 5 = .ok (.if_icmp .eq 17, 3) := by decide +kernel
theorem dW_roundAfterGap_8 : decode cW_roundAfterGap 8 = .ok (.aload_n 0, 1) := by decide +kernel
theorem dW_roundAfterGap_9 : decode cW_roundAfterGap 9 = .ok (.getfield 29, 3) := by decide +kernel
theorem dW_roundAfterGap_12 : decode cW_roundAfterGap 12 = .ok (.ifCond .ne 12, 3) := by decide +kernel
theorem dW_roundAfterGap_15 : decode cW_roundAfterGap 15 = .ok (.aload_n 0, 1) := by decide +kernel
theorem dW_roundAfterGap_16 : decode cW_roundAfterGap 16 = .ok (.getfield 32, 3) := by decide +kernel
theorem dW_roundAfterGap_19 : decode cW_roundAfterGap 19 = .ok (.ifCond .ne 5, 3) := by decide +kernel
theorem dW_roundAfterGap_22 : decode cW_roundAfterGap 22 = .ok (.iconst (-1), 1) := by decide +kernel
theorem dW_roundAfterGap_23 : decode cW_roundAfterGap 23 = .ok (.ireturn, 1) := by decide +kernel
theorem dW_roundAfterGap_24 : decode cW_roundAfterGap 24 = .ok (.iconst 1, 1) := by decide +kernel
theorem dW_roundAfterGap_25 : decode cW_roundAfterGap 25 = .ok (.aload_n 0, 1) := by decide +kernel
theorem dW_roundAfterGap_26 : decode cW_roundAfterGap 26 = .ok (.getfield 29, 3) := by decide +kernel
theorem dW_roundAfterGap_29 : decode cW_roundAfterGap 29 = .ok (.isub, 1) := by decide +kernel
theorem dW_roundAfterGap_30 : decode cW_roundAfterGap 30 = .ok (.ireturn, 1) := by decide +kernel
theorem dW_passPlain_0 : decode cW_passPlain 0 = .ok (.aload_n 0, 1) := by decide +kernel
theorem dW_passPlain_1 : decode cW_passPlain 1 = .ok (.lload_n 1, 1) := by decide +kernel
theorem dW_passPlain_2 : decode cW_passPlain 2 = .ok (.putfield 23, 3) := by decide +kernel
theorem dW_passPlain_5 : decode cW_passPlain 5 = .ok (.aload_n 0, 1) := by decide +kernel
theorem dW_passPlain_6 : decode cW_passPlain 6 = .ok (.getfield 9, 3) := by decide +kernel
theorem dW_passPlain_9 : decode cW_passPlain 9 = .ok (.iconst 1, 1) := by decide +kernel
theorem dW_passPlain_10 : decode cW_passPlain 10 = .ok (.if_icmp .ne 4, 3) := by decide +kernel
theorem dW_passPlain_13 : decode cW_passPlain 13 = .ok (.return_, 1) := by decide +kernel
theorem dW_passPlain_14 : decode cW_passPlain 14 = .ok (.aload_n 0, 1) := by decide +kernel
theorem dW_passPlain_15 : decode cW_passPlain 15 = .ok (.getfield 26, 3) := by decide +kernel
theorem dW_passPlain_18 : decode cW_passPlain 18 = .ok (.aload_n 0, 1) := by decide +kernel
theorem dW_passPlain_19 : decode cW_passPlain 19 = .ok (.getfield 38, 3) := by decide +kernel
theorem dW_passPlain_22 : decode cW_passPlain 22 = .ok (.if_icmp .ge 16, 3) := by decide +kernel
theorem dW_passPlain_25 : decode cW_passPlain 25 = .ok (.aload_n 0, 1) := by decide +kernel
theorem dW_passPlain_26 : decode cW_passPlain 26 = .ok (.dup, 1) := by decide +kernel
theorem dW_passPlain_27 : decode cW_passPlain 27 = .ok (.getfield 26, 3) := by decide +kernel
theorem dW_passPlain_30 : decode cW_passPlain 30 = .ok (.iconst 1, 1) := by decide +kernel
theorem dW_passPlain_31 : decode cW_passPlain 31 = .ok (.iadd, 1) := by decide +kernel
theorem dW_passPlain_32 : decode cW_passPlain 32 = .ok (.putfield 26, 3) := by decide +kernel
theorem dW_passPlain_35 : decode cW_passPlain 35 = .ok (.goto 18, 3) := by decide +kernel
theorem dW_passPlain_38 : decode cW_passPlain 38 = .ok (.aload_n 0, 1) := by decide +kernel
theorem dW_passPlain_39 : decode cW_passPlain 39 = .ok (.iconst 1, 1) := by decide +kernel
theorem dW_passPlain_40 : decode cW_passPlain 40 = .ok (.putfield 9, 3) := by decide +kernel
theorem dW_passPlain_43 : decode cW_passPlain 43 = .ok (.aload_n 0, 1) := by decide +kernel
theorem dW_passPlain_44 : decode cW_passPlain 44 = .ok (.iconst (-1), 1) := by decide +kernel
theorem dW_passPlain_45 : decode cW_passPlain 45 = .ok (.putfield 26, 3) := by decide +kernel
theorem dW_passPlain_48 : decode cW_passPlain 48 = .ok (.aload_n 0, 1) := by decide +kernel
theorem dW_passPlain_49 : decode cW_passPlain 49 = .ok (.iconst (-1), 1) := by decide +kernel
theorem dW_passPlain_50 : decode cW_passPlain 50 = .ok (.putfield 29, 3) := by decide +kernel
theorem dW_passPlain_53 : decode cW_passPlain 53 = .ok (.return_, 1) := by decide +kernel
theorem dW_lose_0 : decode cW_lose 0 = .ok (.aload_n 0, 1) := by decide +kernel
theorem dW_lose_1 : decode cW_lose 1 = .ok (.iconst 0, 1) := by decide +kernel
theorem dW_lose_2 : decode cW_lose 2 = .ok (.putfield 9, 3) := by decide +kernel
theorem dW_lose_5 : decode cW_lose 5 = .ok (.aload_n 0, 1) := by decide +kernel
theorem dW_lose_6 : decode cW_lose 6 = .ok (.lconst 0, 1) := by decide +kernel
theorem dW_lose_7 : decode cW_lose 7 = .ok (.putfield 23, 3) := by decide +kernel
theorem dW_lose_10 : decode cW_lose 10 = .ok (.aload_n 0, 1) := by decide +kernel
theorem dW_lose_11 : decode cW_lose 11 = .ok (.iconst (-1), 1) := by decide +kernel
theorem dW_lose_12 : decode cW_lose 12 = .ok (.putfield 26, 3) := by decide +kernel
theorem dW_lose_15 : decode cW_lose 15 = .ok (.aload_n 0, 1) := by decide +kernel
theorem dW_lose_16 : decode cW_lose 16 = .ok (.iconst (-1), 1) := by decide +kernel
theorem dW_lose_17 : decode cW_lose 17 = .ok (.putfield 29, 3) := by decide +kernel
theorem dW_lose_20 : decode cW_lose 20 = .ok (.return_, 1) := by decide +kernel
theorem dW_meetCam_0 : decode cW_meetCam 0 = .ok (.aload_n 0, 1) := by decide +kernel
theorem dW_meetCam_1 : decode cW_meetCam 1 = .ok (.getfield 9, 3) := by decide +kernel
theorem dW_meetCam_4 : decode cW_meetCam 4 = .ok (.iconst 3, 1) := by decide +kernel
theorem dW_meetCam_5 : decode cW_meetCam 5 = .ok (.if_icmp .ne 25, 3) := by decide +kernel
theorem dW_meetCam_8 : decode cW_meetCam 8 = .ok (.aload_n 0, 1) := by decide +kernel
theorem dW_meetCam_9 : decode cW_meetCam 9 = .ok (.aload_n 0, 1) := by decide +kernel
theorem dW_meetCam_10 : decode cW_meetCam 10 = .ok (.getfield 29, 3) := by decide +kernel
theorem dW_meetCam_13 : decode cW_meetCam 13 = .ok (.iconst 1, 1) := by decide +kernel
theorem dW_meetCam_14 : decode cW_meetCam 14 = .ok (.if_icmp .ne 7, 3) := by decide +kernel
theorem dW_meetCam_17 : decode cW_meetCam 17 = .ok (.iconst (-1), 1) := by decide +kernel
theorem dW_meetCam_18 : decode cW_meetCam 18 = .ok (.goto 4, 3) := by decide +kernel
theorem dW_meetCam_21 : decode cW_meetCam 21 = .ok (.iconst 0, 1) := by decide +kernel
theorem dW_meetCam_22 : decode cW_meetCam 22 = .ok (.putfield 29, 3) := by decide +kernel
theorem dW_meetCam_25 : decode cW_meetCam 25 = .ok (.aload_n 0, 1) := by decide +kernel
theorem dW_meetCam_26 : decode cW_meetCam 26 = .ok (.iconst 1, 1) := by decide +kernel
theorem dW_meetCam_27 : decode cW_meetCam 27 = .ok (.putfield 32, 3) := by decide +kernel
theorem dW_meetCam_30 : decode cW_meetCam 30 = .ok (.return_, 1) := by decide +kernel
theorem dW_stallTime_0 : decode cW_stallTime 0 = .ok (.aload_n 0, 1) := by decide +kernel
theorem dW_stallTime_1 : decode cW_stallTime 1 = .ok (.getfield 19, 3) := by decide +kernel
theorem dW_stallTime_4 : decode cW_stallTime 4 = .ok (.ldc2_w 71, 3) := by decide +kernel
theorem dW_stallTime_7 : decode cW_stallTime 7 = .ok (.aload_n 0, 1) := by decide +kernel
theorem dW_stallTime_8 : decode cW_stallTime 8 = .ok (.getfield 23, 3) := by decide +kernel
theorem dW_stallTime_11 : decode cW_stallTime 11 = .ok (.lmul, 1) := by decide +kernel
theorem dW_stallTime_12 : decode cW_stallTime 12 = .ok (.ladd, 1) := by decide +kernel
theorem dW_stallTime_13 : decode cW_stallTime 13 = .ok (.lreturn, 1) := by decide +kernel
theorem dW_stallsBy_0 : decode cW_stallsBy 0 = .ok (.aload_n 0, 1) := by decide +kernel
theorem dW_stallsBy_1 : decode cW_stallsBy 1 = .ok (.getfield 23, 3) := by decide +kernel
theorem dW_stallsBy_4 : decode cW_stallsBy 4 = .ok (.lconst 0, 1) := by decide +kernel
theorem dW_stallsBy_5 : decode cW_stallsBy 5 = .ok (.lcmp, 1) := by decide +kernel
theorem dW_stallsBy_6 : decode cW_stallsBy 6 = .ok (.ifCond .le 16, 3) := by decide +kernel
theorem dW_stallsBy_9 : decode cW_stallsBy 9 = .ok (.aload_n 0, 1) := by decide +kernel
theorem dW_stallsBy_10 : decode cW_stallsBy 10 = .ok (.invokevirtual 73, 3) := by decide +kernel
theorem dW_stallsBy_13 : decode cW_stallsBy 13 = .ok (.lload_n 1, 1) := by decide +kernel
theorem dW_stallsBy_14 : decode cW_stallsBy 14 = .ok (.lcmp, 1) := by decide +kernel
theorem dW_stallsBy_15 : decode cW_stallsBy 15 = .ok (.ifCond .gt 7, 3) := by decide +kernel
theorem dW_stallsBy_18 : decode cW_stallsBy 18 = .ok (.iconst 1, 1) := by decide +kernel
theorem dW_stallsBy_19 : decode cW_stallsBy 19 = .ok (.goto 4, 3) := by decide +kernel
theorem dW_stallsBy_22 : decode cW_stallsBy 22 = .ok (.iconst 0, 1) := by decide +kernel
theorem dW_stallsBy_23 : decode cW_stallsBy 23 = .ok (.ireturn, 1) := by decide +kernel
theorem dW_stand_0 : decode cW_stand 0 = .ok (.aload_n 0, 1) := by decide +kernel
theorem dW_stand_1 : decode cW_stand 1 = .ok (.invokevirtual 56, 3) := by decide +kernel
theorem dW_stand_4 : decode cW_stand 4 = .ok (.aload_n 0, 1) := by decide +kernel
theorem dW_stand_5 : decode cW_stand 5 = .ok (.iconst 0, 1) := by decide +kernel
theorem dW_stand_6 : decode cW_stand 6 = .ok (.putfield 15, 3) := by decide +kernel
theorem dW_stand_9 : decode cW_stand 9 = .ok (.return_, 1) := by decide +kernel
theorem dW_stepsTo_0 : decode cW_stepsTo 0 = .ok (.aload_n 0, 1) := by decide +kernel
theorem dW_stepsTo_1 : decode cW_stepsTo 1 = .ok (.getfield 29, 3) := by decide +kernel
theorem dW_stepsTo_4 : decode cW_stepsTo 4 = .ok (.aload_n 0, 1) := by decide +kernel
theorem dW_stepsTo_5 : decode cW_stepsTo 5 = .ok (.getfield 35, 3) := by decide +kernel
theorem dW_stepsTo_8 : decode cW_stepsTo 8 = .ok (.imul, 1) := by decide +kernel
theorem dW_stepsTo_9 : decode cW_stepsTo 9 = .ok (.aload_n 0, 1) := by decide +kernel
theorem dW_stepsTo_10 : decode cW_stepsTo 10 = .ok (.getfield 26, 3) := by decide +kernel
theorem dW_stepsTo_13 : decode cW_stepsTo 13 = .ok (.iadd, 1) := by decide +kernel
theorem dW_stepsTo_14 : decode cW_stepsTo 14 = .ok (.bipush 64, 2) := by decide +kernel
theorem dW_stepsTo_16 : decode cW_stepsTo 16 = .ok (.imul, 1) := by decide +kernel
theorem dW_stepsTo_17 : decode cW_stepsTo 17 = .ok (.istore_n 2, 1) := by decide +kernel
theorem dW_stepsTo_18 : decode cW_stepsTo 18 = .ok (.iload_n 1, 1) := by decide +kernel
theorem dW_stepsTo_19 : decode cW_stepsTo 19 = .ok (.iload_n 2, 1) := by decide +kernel
theorem dW_stepsTo_20 : decode cW_stepsTo 20 = .ok (.isub, 1) := by decide +kernel
theorem dW_stepsTo_21 : decode cW_stepsTo 21 = .ok (.aload_n 0, 1) := by decide +kernel
theorem dW_stepsTo_22 : decode cW_stepsTo 22 = .ok (.getfield 41, 3) := by decide +kernel
theorem dW_stepsTo_25 : decode cW_stepsTo 25 = .ok (.invokestatic 77, 3) := by decide +kernel
theorem dW_stepsTo_28 : decode cW_stepsTo 28 = .ok (.ireturn, 1) := by decide +kernel
theorem dW_stepsToNextTooth_0 : decode cW_stepsToNextTooth 0 = .ok (.aload_n 0, 1) := by decide +kernel
theorem dW_stepsToNextTooth_1 : decode cW_stepsToNextTooth 1 = .ok (.getfield 26, 3) := by decide +kernel
theorem dW_stepsToNextTooth_4 : decode cW_stepsToNextTooth 4 = .ok (.aload_n 0, 1) := by decide +kernel
theorem dW_stepsToNextTooth_5 : decode cW_stepsToNextTooth 5 = .ok (.getfield 38, 3) := by decide +kernel
theorem dW_stepsToNextTooth_8 : decode cW_stepsToNextTooth 8 = .ok (.if_icmp .ne 9, 3) := by decide +kernel
theorem dW_stepsToNextTooth_11 : decode cW_stepsToNextTooth 11 = .ok (.sipush 192, 3) := by decide +kernel
theorem dW_stepsToNextTooth_14 : decode cW_stepsToNextTooth 14 = .ok (.goto 5, 3) := by decide +kernel
theorem dW_stepsToNextTooth_17 : decode cW_stepsToNextTooth 17 = .ok (.bipush 64, 2) := by decide +kernel
theorem dW_stepsToNextTooth_19 : decode cW_stepsToNextTooth 19 = .ok (.ireturn, 1) := by decide +kernel
theorem dW_timeOver_0 : decode cW_timeOver 0 = .ok (.iload_n 1, 1) := by decide +kernel
theorem dW_timeOver_1 : decode cW_timeOver 1 = .ok (.i2l, 1) := by decide +kernel
theorem dW_timeOver_2 : decode cW_timeOver 2 = .ok (.aload_n 0, 1) := by decide +kernel
theorem dW_timeOver_3 : decode cW_timeOver 3 = .ok (.getfield 23, 3) := by decide +kernel
theorem dW_timeOver_6 : decode cW_timeOver 6 = .ok (.lmul, 1) := by decide +kernel
theorem dW_timeOver_7 : decode cW_timeOver 7 = .ok (.ldc2_w 81, 3) := by decide +kernel
theorem dW_timeOver_10 : decode cW_timeOver 10 = .ok (.ldiv, 1) := by decide +kernel
theorem dW_timeOver_11 : decode cW_timeOver 11 = .ok (.lreturn, 1) := by decide +kernel
theorem dW_speed_0 : decode cW_speed 0 = .ok (.aload_n 0, 1) := by decide +kernel
theorem dW_speed_1 : decode cW_speed 1 = .ok (.getfield 23, 3) := by decide +kernel
theorem dW_speed_4 : decode cW_speed 4 = .ok (.lconst 0, 1) := by decide +kernel
theorem dW_speed_5 : decode cW_speed 5 = .ok (.lcmp, 1) := by decide +kernel
theorem dW_speed_6 : decode cW_speed 6 = .ok (.ifCond .gt 5, 3) := by decide +kernel
theorem dW_speed_9 : decode cW_speed 9 = .ok (.iconst 0, 1) := by decide +kernel
theorem dW_speed_10 : decode cW_speed 10 = .ok (.ireturn, 1) := by decide +kernel
theorem dW_speed_11 : decode cW_speed 11 = .ok (.ldc2_w 83, 3) := by decide +kernel
theorem dW_speed_14 : decode cW_speed 14 = .ok (.aload_n 0, 1) := by decide +kernel
theorem dW_speed_15 : decode cW_speed 15 = .ok (.getfield 23, 3) := by decide +kernel
theorem dW_speed_18 : decode cW_speed 18 = .ok (.ldiv, 1) := by decide +kernel
theorem dW_speed_19 : decode cW_speed 19 = .ok (.lstore_n 1, 1) := by decide +kernel
theorem dW_speed_20 : decode cW_speed 20 = .ok (.lload_n 1, 1) := by decide +kernel
theorem dW_speed_21 : decode cW_speed 21 = .ok (.ldc2_w 87, 3) := by decide +kernel
theorem dW_speed_24 : decode cW_speed 24 = .ok (.lcmp, 1) := by decide +kernel
theorem dW_speed_25 : decode cW_speed 25 = .ok (.ifCond .ge 8, 3) := by decide +kernel
theorem dW_speed_28 : decode cW_speed 28 = .ok (.lload_n 1, 1) := by decide +kernel
theorem dW_speed_29 : decode cW_speed 29 = .ok (.l2i, 1) := by decide +kernel
theorem dW_speed_30 : decode cW_speed 30 = .ok (.goto 6, 3) := by decide +kernel
theorem dW_speed_33 : decode cW_speed 33 = .ok (.sipush 1791, 3) := by decide +kernel
theorem dW_speed_36 : decode cW_speed 36 = .ok (.ireturn, 1) := by decide +kernel
theorem dJ_abs_0 : decode cJ_abs 0 = .ok (.iload_n 0, 1) := by decide +kernel
theorem dJ_abs_1 : decode cJ_abs 1 = .ok (.ifCond .ge 8, 3) := by decide +kernel
theorem dJ_abs_4 : decode cJ_abs 4 = .ok (.iload_n 0, 1) := by decide +kernel
theorem dJ_abs_5 : decode cJ_abs 5 = .ok (.ineg, 1) := by decide +kernel
theorem dJ_abs_6 : decode cJ_abs 6 = .ok (.goto 4, 3) := by decide +kernel
theorem dJ_abs_9 : decode cJ_abs 9 = .ok (.iload_n 0, 1) := by decide +kernel
theorem dJ_abs_10 : decode cJ_abs 10 = .ok (.ireturn, 1) := by decide +kernel
theorem dJ_floorDiv_0 : decode cJ_floorDiv 0 = .ok (.iload_n 0, 1) := by decide +kernel
theorem dJ_floorDiv_1 : decode cJ_floorDiv 1 = .ok (.iload_n 1, 1) := by decide +kernel
theorem dJ_floorDiv_2 : decode cJ_floorDiv 2 = .ok (.idiv, 1) := by decide +kernel
theorem dJ_floorDiv_3 : decode cJ_floorDiv 3 = .ok (.istore_n 2, 1) := by decide +kernel
theorem dJ_floorDiv_4 : decode cJ_floorDiv 4 = .ok (.iload_n 0, 1) := by decide +kernel
theorem dJ_floorDiv_5 : decode cJ_floorDiv 5 = .ok (.iload_n 1, 1) := by decide +kernel
theorem dJ_floorDiv_6 : decode cJ_floorDiv 6 = .ok (.ixor, 1) := by decide +kernel
theorem dJ_floorDiv_7 : decode cJ_floorDiv 7 = .ok (.ifCond .ge 14, 3) := by decide +kernel
theorem dJ_floorDiv_10 : decode cJ_floorDiv 10 = .ok (.iload_n 2, 1) := by decide +kernel
theorem dJ_floorDiv_11 : decode cJ_floorDiv 11 = .ok (.iload_n 1, 1) := by decide +kernel
theorem dJ_floorDiv_12 : decode cJ_floorDiv 12 = .ok (.imul, 1) := by decide +kernel
theorem dJ_floorDiv_13 : decode cJ_floorDiv 13 = .ok (.iload_n 0, 1) := by decide +kernel
theorem dJ_floorDiv_14 : decode cJ_floorDiv 14 = .ok (.if_icmp .eq 7, 3) := by decide +kernel
theorem dJ_floorDiv_17 : decode cJ_floorDiv 17 = .ok (.iload_n 2, 1) := by decide +kernel
theorem dJ_floorDiv_18 : decode cJ_floorDiv 18 = .ok (.iconst 1, 1) := by decide +kernel
theorem dJ_floorDiv_19 : decode cJ_floorDiv 19 = .ok (.isub, 1) := by decide +kernel
theorem dJ_floorDiv_20 : decode cJ_floorDiv 20 = .ok (.ireturn, 1) := by decide +kernel
theorem dJ_floorDiv_21 : decode cJ_floorDiv 21 = .ok (.iload_n 2, 1) := by decide +kernel
theorem dJ_floorDiv_22 : decode cJ_floorDiv 22 = .ok (.ireturn, 1) := by decide +kernel
theorem dJ_floorMod_0 : decode cJ_floorMod 0 = .ok (.iload_n 0, 1) := by decide +kernel
theorem dJ_floorMod_1 : decode cJ_floorMod 1 = .ok (.iload_n 1, 1) := by decide +kernel
theorem dJ_floorMod_2 : decode cJ_floorMod 2 = .ok (.irem, 1) := by decide +kernel
theorem dJ_floorMod_3 : decode cJ_floorMod 3 = .ok (.istore_n 2, 1) := by decide +kernel
theorem dJ_floorMod_4 : decode cJ_floorMod 4 = .ok (.iload_n 0, 1) := by decide +kernel
theorem dJ_floorMod_5 : decode cJ_floorMod 5 = .ok (.iload_n 1, 1) := by decide +kernel
theorem dJ_floorMod_6 : decode cJ_floorMod 6 = .ok (.ixor, 1) := by decide +kernel
theorem dJ_floorMod_7 : decode cJ_floorMod 7 = .ok (.ifCond .ge 11, 3) := by decide +kernel
theorem dJ_floorMod_10 : decode cJ_floorMod 10 = .ok (.iload_n 2, 1) := by decide +kernel
theorem dJ_floorMod_11 : decode cJ_floorMod 11 = .ok (.ifCond .eq 7, 3) := by decide +kernel
theorem dJ_floorMod_14 : decode cJ_floorMod 14 = .ok (.iload_n 2, 1) := by decide +kernel
theorem dJ_floorMod_15 : decode cJ_floorMod 15 = .ok (.iload_n 1, 1) := by decide +kernel
theorem dJ_floorMod_16 : decode cJ_floorMod 16 = .ok (.iadd, 1) := by decide +kernel
theorem dJ_floorMod_17 : decode cJ_floorMod 17 = .ok (.ireturn, 1) := by decide +kernel
theorem dJ_floorMod_18 : decode cJ_floorMod 18 = .ok (.iload_n 2, 1) := by decide +kernel
theorem dJ_floorMod_19 : decode cJ_floorMod 19 = .ok (.ireturn, 1) := by decide +kernel
theorem dJ_maxI_0 : decode cJ_maxI 0 = .ok (.iload_n 0, 1) := by decide +kernel
theorem dJ_maxI_1 : decode cJ_maxI 1 = .ok (.iload_n 1, 1) := by decide +kernel
theorem dJ_maxI_2 : decode cJ_maxI 2 = .ok (.if_icmp .lt 7, 3) := by decide +kernel
theorem dJ_maxI_5 : decode cJ_maxI 5 = .ok (.iload_n 0, 1) := by decide +kernel
theorem dJ_maxI_6 : decode cJ_maxI 6 = .ok (.goto 4, 3) := by decide +kernel
theorem dJ_maxI_9 : decode cJ_maxI 9 = .ok (.iload_n 1, 1) := by decide +kernel
theorem dJ_maxI_10 : decode cJ_maxI 10 = .ok (.ireturn, 1) := by decide +kernel
theorem dJ_maxJ_0 : decode cJ_maxJ 0 = .ok (.lload_n 0, 1) := by decide +kernel
theorem dJ_maxJ_1 : decode cJ_maxJ 1 = .ok (.lload_n 2, 1) := by decide +kernel
theorem dJ_maxJ_2 : decode cJ_maxJ 2 = .ok (.lcmp, 1) := by decide +kernel
theorem dJ_maxJ_3 : decode cJ_maxJ 3 = .ok (.ifCond .lt 7, 3) := by decide +kernel
theorem dJ_maxJ_6 : decode cJ_maxJ 6 = .ok (.lload_n 0, 1) := by decide +kernel
theorem dJ_maxJ_7 : decode cJ_maxJ 7 = .ok (.goto 4, 3) := by decide +kernel
theorem dJ_maxJ_10 : decode cJ_maxJ 10 = .ok (.lload_n 2, 1) := by decide +kernel
theorem dJ_maxJ_11 : decode cJ_maxJ 11 = .ok (.lreturn, 1) := by decide +kernel
theorem dJ_min_0 : decode cJ_min 0 = .ok (.iload_n 0, 1) := by decide +kernel
theorem dJ_min_1 : decode cJ_min 1 = .ok (.iload_n 1, 1) := by decide +kernel
theorem dJ_min_2 : decode cJ_min 2 = .ok (.if_icmp .gt 7, 3) := by decide +kernel
theorem dJ_min_5 : decode cJ_min 5 = .ok (.iload_n 0, 1) := by decide +kernel
theorem dJ_min_6 : decode cJ_min 6 = .ok (.goto 4, 3) := by decide +kernel
theorem dJ_min_9 : decode cJ_min 9 = .ok (.iload_n 1, 1) := by decide +kernel
theorem dJ_min_10 : decode cJ_min 10 = .ok (.ireturn, 1) := by decide +kernel
