theorem dX5_init_0 : decode cX5_init 0 = .ok (.aload_n 0, 1) := by decide +kernel
theorem dX5_init_1 : decode cX5_init 1 = .ok (.invokespecial 1, 3) := by decide +kernel
theorem dX5_init_4 : decode cX5_init 4 = .ok (.aload_n 0, 1) := by decide +kernel
theorem dX5_init_5 : decode cX5_init 5 = .ok (.iconst 2, 1) := by decide +kernel
theorem dX5_init_6 : decode cX5_init 6 = .ok (.newarray .int, 2) := by decide +kernel
theorem dX5_init_8 : decode cX5_init 8 = .ok (.putfield 7, 3) := by decide +kernel
theorem dX5_init_11 : decode cX5_init 11 = .ok (.aload_n 0, 1) := by decide +kernel
theorem dX5_init_12 : decode cX5_init 12 = .ok (.bipush 94, 2) := by decide +kernel
theorem dX5_init_14 : decode cX5_init 14 = .ok (.newarray .int, 2) := by decide +kernel
theorem dX5_init_16 : decode cX5_init 16 = .ok (.putfield 13, 3) := by decide +kernel
theorem dX5_init_19 : decode cX5_init 19 = .ok (.aload_n 0, 1) := by decide +kernel
theorem dX5_init_20 : decode cX5_init 20 = .ok (.bipush 7, 2) := by decide +kernel
theorem dX5_init_22 : decode cX5_init 22 = .ok (.newarray .int, 2) := by decide +kernel
theorem dX5_init_24 : decode cX5_init 24 = .ok (.putfield 16, 3) := by decide +kernel
theorem dX5_init_27 : decode cX5_init 27 = .ok (.aload_n 0, 1) := by decide +kernel
theorem dX5_init_28 : decode cX5_init 28 = .ok (.bipush 7, 2) := by decide +kernel
theorem dX5_init_30 : decode cX5_init 30 = .ok (.newarray .int, 2) := by decide +kernel
theorem dX5_init_32 : decode cX5_init 32 = .ok (.putfield 19, 3) := by decide +kernel
theorem dX5_init_35 : decode cX5_init 35 = .ok (.aload_n 0, 1) := by decide +kernel
theorem dX5_init_36 : decode cX5_init 36 = .ok (.bipush 7, 2) := by decide +kernel
theorem dX5_init_38 : decode cX5_init 38 = .ok (.newarray .int, 2) := by decide +kernel
theorem dX5_init_40 : decode cX5_init 40 = .ok (.putfield 22, 3) := by decide +kernel
theorem dX5_init_43 : decode cX5_init 43 = .ok (.aload_n 0, 1) := by decide +kernel
theorem dX5_init_44 : decode cX5_init 44 = .ok (.bipush 9, 2) := by decide +kernel
theorem dX5_init_46 : decode cX5_init 46 = .ok (.newarray .int, 2) := by decide +kernel
theorem dX5_init_48 : decode cX5_init 48 = .ok (.putfield 25, 3) := by decide +kernel
theorem dX5_init_51 : decode cX5_init 51 = .ok (.aload_n 0, 1) := by decide +kernel
theorem dX5_init_52 : decode cX5_init 52 = .ok (.bipush 9, 2) := by decide +kernel
theorem dX5_init_54 : decode cX5_init 54 = .ok (.newarray .int, 2) := by decide +kernel
theorem dX5_init_56 : decode cX5_init 56 = .ok (.putfield 28, 3) := by decide +kernel
theorem dX5_init_59 : decode cX5_init 59 = .ok (.aload_n 0, 1) := by decide +kernel
theorem dX5_init_60 : decode cX5_init 60 = .ok (.bipush 9, 2) := by decide +kernel
theorem dX5_init_62 : decode cX5_init 62 = .ok (.newarray .int, 2) := by decide +kernel
theorem dX5_init_64 : decode cX5_init 64 = .ok (.putfield 31, 3) := by decide +kernel
theorem dX5_init_67 : decode cX5_init 67 = .ok (.aload_n 0, 1) := by decide +kernel
theorem dX5_init_68 : decode cX5_init 68 = .ok (.bipush 13, 2) := by decide +kernel
theorem dX5_init_70 : decode cX5_init 70 = .ok (.newarray .int, 2) := by decide +kernel
theorem dX5_init_72 : decode cX5_init 72 = .ok (.putfield 34, 3) := by decide +kernel
theorem dX5_init_75 : decode cX5_init 75 = .ok (.aload_n 0, 1) := by decide +kernel
theorem dX5_init_76 : decode cX5_init 76 = .ok (.bipush 13, 2) := by decide +kernel
theorem dX5_init_78 : decode cX5_init 78 = .ok (.newarray .int, 2) := by decide +kernel
theorem dX5_init_80 : decode cX5_init 80 = .ok (.putfield 37, 3) := by decide +kernel
theorem dX5_init_83 : decode cX5_init 83 = .ok (.aload_n 0, 1) := by decide +kernel
theorem dX5_init_84 : decode cX5_init 84 = .ok (.bipush 9, 2) := by decide +kernel
theorem dX5_init_86 : decode cX5_init 86 = .ok (.newarray .int, 2) := by decide +kernel
theorem dX5_init_88 : decode cX5_init 88 = .ok (.putfield 40, 3) := by decide +kernel
theorem dX5_init_91 : decode cX5_init 91 = .ok (.aload_n 0, 1) := by decide +kernel
theorem dX5_init_92 : decode cX5_init 92 = .ok (.bipush 13, 2) := by decide +kernel
theorem dX5_init_94 : decode cX5_init 94 = .ok (.newarray .int, 2) := by decide +kernel
theorem dX5_init_96 : decode cX5_init 96 = .ok (.putfield 43, 3) := by decide +kernel
theorem dX5_init_99 : decode cX5_init 99 = .ok (.aload_n 0, 1) := by decide +kernel
theorem dX5_init_100 : decode cX5_init 100 = .ok (.bipush 13, 2) := by decide +kernel
theorem dX5_init_102 : decode cX5_init 102 = .ok (.newarray .int, 2) := by decide +kernel
theorem dX5_init_104 : decode cX5_init 104 = .ok (.putfield 46, 3) := by decide +kernel
theorem dX5_init_107 : decode cX5_init 107 = .ok (.aload_n 0, 1) := by decide +kernel
theorem dX5_init_108 : decode cX5_init 108 = .ok (.sipush 240, 3) := by decide +kernel
theorem dX5_init_111 : decode cX5_init 111 = .ok (.newarray .int, 2) := by decide +kernel
theorem dX5_init_113 : decode cX5_init 113 = .ok (.putfield 49, 3) := by decide +kernel
theorem dX5_init_116 : decode cX5_init 116 = .ok (.aload_n 0, 1) := by decide +kernel
theorem dX5_init_117 : decode cX5_init 117 = .ok (.sipush 240, 3) := by decide +kernel
theorem dX5_init_120 : decode cX5_init 120 = .ok (.newarray .int, 2) := by decide +kernel
theorem dX5_init_122 : decode cX5_init 122 = .ok (.putfield 52, 3) := by decide +kernel
theorem dX5_init_125 : decode cX5_init 125 = .ok (.aload_n 0, 1) := by decide +kernel
theorem dX5_init_126 : decode cX5_init 126 = .ok (.sipush 240, 3) := by decide +kernel
theorem dX5_init_129 : decode cX5_init 129 = .ok (.newarray .int, 2) := by decide +kernel
theorem dX5_init_131 : decode cX5_init 131 = .ok (.putfield 55, 3) := by decide +kernel
theorem dX5_init_134 : decode cX5_init 134 = .ok (.aload_n 0, 1) := by decide +kernel
theorem dX5_init_135 : decode cX5_init 135 = .ok (.sipush 401, 3) := by decide +kernel
theorem dX5_init_138 : decode cX5_init 138 = .ok (.newarray .boolean, 2) := by decide +kernel
theorem dX5_init_140 : decode cX5_init 140 = .ok (.putfield 58, 3) := by decide +kernel
theorem dX5_init_143 : decode cX5_init 143 = .ok (.aload_n 0, 1) := by decide +kernel
theorem dX5_init_144 : decode cX5_init 144 = .ok (.bipush 8, 2) := by decide +kernel
theorem dX5_init_146 : decode cX5_init 146 = .ok (.newarray .int, 2) := by decide +kernel
theorem dX5_init_148 : decode cX5_init 148 = .ok (.putfield 62, 3) := by decide +kernel
theorem dX5_init_151 : decode cX5_init 151 = .ok (.aload_n 0, 1) := by decide +kernel
theorem dX5_init_152 : decode cX5_init 152 = .ok (.bipush 8, 2) := by decide +kernel
theorem dX5_init_154 : decode cX5_init 154 = .ok (.newarray .int, 2) := by decide +kernel
theorem dX5_init_156 : decode cX5_init 156 = .ok (.putfield 65, 3) := by decide +kernel
theorem dX5_init_159 : decode cX5_init 159 = .ok (.aload_n 0, 1) := by decide +kernel
theorem dX5_init_160 : decode cX5_init 160 = .ok (.bipush 15, 2) := by decide +kernel
theorem dX5_init_162 : decode cX5_init 162 = .ok (.newarray .long, 2) := by decide +kernel
theorem dX5_init_164 : decode cX5_init 164 = .ok (.putfield 68, 3) := by decide +kernel
theorem dX5_init_167 : decode cX5_init 167 = .ok (.aload_n 0, 1) := by decide +kernel
theorem dX5_init_168 : decode cX5_init 168 = .ok (.iconst 4, 1) := by decide +kernel
theorem dX5_init_169 : decode cX5_init 169 = .ok (.newarray .boolean, 2) := by decide +kernel
theorem dX5_init_171 : decode cX5_init 171 = .ok (.putfield 72, 3) := by decide +kernel
theorem dX5_init_174 : decode cX5_init 174 = .ok (.aload_n 0, 1) := by decide +kernel
theorem dX5_init_175 : decode cX5_init 175 = .ok (.iconst 4, 1) := by decide +kernel
theorem dX5_init_176 : decode cX5_init 176 = .ok (.newarray .int, 2) := by decide +kernel
theorem dX5_init_178 : decode cX5_init 178 = .ok (.putfield 75, 3) := by decide +kernel
theorem dX5_init_181 : decode cX5_init 181 = .ok (.aload_n 0, 1) := by decide +kernel
theorem dX5_init_182 : decode cX5_init 182 = .ok (.iconst 4, 1) := by decide +kernel
theorem dX5_init_183 : decode cX5_init 183 = .ok (.newarray .int, 2) := by decide +kernel
theorem dX5_init_185 : decode cX5_init 185 = .ok (.putfield 78, 3) := by decide +kernel
theorem dX5_init_188 : decode cX5_init 188 = .ok (.aload_n 0, 1) := by decide +kernel
theorem dX5_init_189 : decode cX5_init 189 = .ok (.sipush 192, 3) := by decide +kernel
theorem dX5_init_192 : decode cX5_init 192 = .ok (.newarray .int, 2) := by decide +kernel
theorem dX5_init_194 : decode cX5_init 194 = .ok (.putfield 81, 3) := by decide +kernel
theorem dX5_init_197 : decode cX5_init 197 = .ok (.aload_n 0, 1) := by decide +kernel
theorem dX5_init_198 : decode cX5_init 198 = .ok (.bipush 48, 2) := by decide +kernel
theorem dX5_init_200 : decode cX5_init 200 = .ok (.newarray .int, 2) := by decide +kernel
theorem dX5_init_202 : decode cX5_init 202 = .ok (.putfield 84, 3) := by decide +kernel
theorem dX5_init_205 : decode cX5_init 205 = .ok (.return_, 1) := by decide +kernel
theorem dX5_in_0 : decode cX5_in 0 = .ok (.iload_n 0, 1) := by decide +kernel
theorem dX5_in_1 : decode cX5_in 1 = .ok (.iload_n 1, 1) := by decide +kernel
theorem dX5_in_2 : decode cX5_in 2 = .ok (.if_icmp .lt 12, 3) := by decide +kernel
theorem dX5_in_5 : decode cX5_in 5 = .ok (.iload_n 0, 1) := by decide +kernel
theorem dX5_in_6 : decode cX5_in 6 = .ok (.iload_n 2, 1) := by decide +kernel
theorem dX5_in_7 : decode cX5_in 7 = .ok (.if_icmp .gt 7, 3) := by decide +kernel
theorem dX5_in_10 : decode cX5_in 10 = .ok (.iconst 1, 1) := by decide +kernel
theorem dX5_in_11 : decode cX5_in 11 = .ok (.goto 4, 3) := by decide +kernel
theorem dX5_in_14 : decode cX5_in 14 = .ok (.iconst 0, 1) := by decide +kernel
theorem dX5_in_15 : decode cX5_in 15 = .ok (.ireturn, 1) := by decide +kernel
theorem dX5_no_0 : decode cX5_no 0 = .ok (.ldc2_w 87, 3) := by decide +kernel
theorem dX5_no_3 : decode cX5_no 3 = .ok (.iload_n 0, 1) := by decide +kernel
theorem dX5_no_4 : decode cX5_no 4 = .ok (.i2l, 1) := by decide +kernel
theorem dX5_no_5 : decode cX5_no 5 = .ok (.lsub, 1) := by decide +kernel
theorem dX5_no_6 : decode cX5_no 6 = .ok (.lreturn, 1) := by decide +kernel
theorem dX5_lowest_0 : decode cX5_lowest 0 = .ok (.lload_n 0, 1) := by decide +kernel
theorem dX5_lowest_1 : decode cX5_lowest 1 = .ok (.lstore 5, 2) := by decide +kernel
theorem dX5_lowest_3 : decode cX5_lowest 3 = .ok (.lload_n 2, 1) := by decide +kernel
theorem dX5_lowest_4 : decode cX5_lowest 4 = .ok (.lstore 7, 2) := by decide +kernel
theorem dX5_lowest_6 : decode cX5_lowest 6 = .ok (.lload 7, 2) := by decide +kernel
theorem dX5_lowest_8 : decode cX5_lowest 8 = .ok (.lconst 0, 1) := by decide +kernel
theorem dX5_lowest_9 : decode cX5_lowest 9 = .ok (.lcmp, 1) := by decide +kernel
theorem dX5_lowest_10 : decode cX5_lowest 10 = .ok (.ifCond .eq 21, 3) := by decide +kernel
theorem dX5_lowest_13 : decode cX5_lowest 13 = .ok (.lload 5, 2) := by decide +kernel
theorem dX5_lowest_15 : decode cX5_lowest 15 = .ok (.lload 7, 2) := by decide +kernel
theorem dX5_lowest_17 : decode cX5_lowest 17 = .ok (.lrem, 1) := by decide +kernel
theorem dX5_lowest_18 : decode cX5_lowest 18 = .ok (.lstore 9, 2) := by decide +kernel
theorem dX5_lowest_20 : decode cX5_lowest 20 = .ok (.lload 7, 2) := by decide +kernel
theorem dX5_lowest_22 : decode cX5_lowest 22 = .ok (.lstore 5, 2) := by decide +kernel
theorem dX5_lowest_24 : decode cX5_lowest 24 = .ok (.lload 9, 2) := by decide +kernel
theorem dX5_lowest_26 : decode cX5_lowest 26 = .ok (.lstore 7, 2) := by decide +kernel
theorem dX5_lowest_28 : decode cX5_lowest 28 = .ok (.goto (-22), 3) := by decide +kernel
theorem dX5_lowest_31 : decode cX5_lowest 31 = .ok (.iload 4, 2) := by decide +kernel
theorem dX5_lowest_33 : decode cX5_lowest 33 = .ok (.ifCond .ne 10, 3) := by decide +kernel
theorem dX5_lowest_36 : decode cX5_lowest 36 = .ok (.lload_n 0, 1) := by decide +kernel
theorem dX5_lowest_37 : decode cX5_lowest 37 = .ok (.lload 5, 2) := by decide +kernel
theorem dX5_lowest_39 : decode cX5_lowest 39 = .ok (.ldiv, 1) := by decide +kernel
theorem dX5_lowest_40 : decode cX5_lowest 40 = .ok (.goto 7, 3) := by decide +kernel
theorem dX5_lowest_43 : decode cX5_lowest 43 = .ok (.lload_n 2, 1) := by decide +kernel
theorem dX5_lowest_44 : decode cX5_lowest 44 = .ok (.lload 5, 2) := by decide +kernel
theorem dX5_lowest_46 : decode cX5_lowest 46 = .ok (.ldiv, 1) := by decide +kernel
theorem dX5_lowest_47 : decode cX5_lowest 47 = .ok (.lreturn, 1) := by decide +kernel
theorem dX5_isText_0 : decode cX5_isText 0 = .ok (.iload_n 0, 1) := by decide +kernel
theorem dX5_isText_1 : decode cX5_isText 1 = .ok (.iconst 0, 1) := by decide +kernel
theorem dX5_isText_2 : decode cX5_isText 2 = .ok (.iconst 1, 1) := by decide +kernel
theorem dX5_isText_3 : decode cX5_isText 3 = .ok (.invokestatic 89, 3) := by decide +kernel
theorem dX5_isText_6 : decode cX5_isText 6 = .ok (.ireturn, 1) := by decide +kernel
theorem dX5_isTime_0 : decode cX5_isTime 0 = .ok (.iload_n 0, 1) := by decide +kernel
theorem dX5_isTime_1 : decode cX5_isTime 1 = .ok (.iconst 0, 1) := by decide +kernel
theorem dX5_isTime_2 : decode cX5_isTime 2 = .ok (.sipush 239, 3) := by decide +kernel
theorem dX5_isTime_5 : decode cX5_isTime 5 = .ok (.invokestatic 89, 3) := by decide +kernel
theorem dX5_isTime_8 : decode cX5_isTime 8 = .ok (.ireturn, 1) := by decide +kernel
theorem dX5_isNumber_0 : decode cX5_isNumber 0 = .ok (.iload_n 0, 1) := by decide +kernel
theorem dX5_isNumber_1 : decode cX5_isNumber 1 = .ok (.iconst 1, 1) := by decide +kernel
theorem dX5_isNumber_2 : decode cX5_isNumber 2 = .ok (.sipush 400, 3) := by decide +kernel
theorem dX5_isNumber_5 : decode cX5_isNumber 5 = .ok (.invokestatic 89, 3) := by decide +kernel
theorem dX5_isNumber_8 : decode cX5_isNumber 8 = .ok (.ireturn, 1) := by decide +kernel
theorem dX5_type_0 : decode cX5_type 0 = .ok (.iload_n 1, 1) := by decide +kernel
theorem dX5_type_1 : decode cX5_type 1 = .ok (.invokestatic 93, 3) := by decide +kernel
theorem dX5_type_4 : decode cX5_type 4 = .ok (.ifCond .eq 14, 3) := by decide +kernel
theorem dX5_type_7 : decode cX5_type 7 = .ok (.iload_n 2, 1) := by decide +kernel
theorem dX5_type_8 : decode cX5_type 8 = .ok (.iconst 0, 1) := by decide +kernel
theorem dX5_type_9 : decode cX5_type 9 = .ok (.sipush 255, 3) := by decide +kernel
theorem dX5_type_12 : decode cX5_type 12 = .ok (.invokestatic 89, 3) := by decide +kernel
theorem dX5_type_15 : decode cX5_type 15 = .ok (.ifCond .ne 6, 3) := by decide +kernel
theorem dX5_type_18 : decode cX5_type 18 = .ok (.bipush (-2), 2) := by decide +kernel
theorem dX5_type_20 : decode cX5_type 20 = .ok (.ireturn, 1) := by decide +kernel
theorem dX5_type_21 : decode cX5_type 21 = .ok (.aload_n 0, 1) := by decide +kernel
theorem dX5_type_22 : decode cX5_type 22 = .ok (.getfield 7, 3) := by decide +kernel
theorem dX5_type_25 : decode cX5_type 25 = .ok (.iload_n 1, 1) := by decide +kernel
theorem dX5_type_26 : decode cX5_type 26 = .ok (.iaload, 1) := by decide +kernel
theorem dX5_type_27 : decode cX5_type 27 = .ok (.iload_n 1, 1) := by decide +kernel
theorem dX5_type_28 : decode cX5_type 28 = .ok (.ifCond .ne 8, 3) := by decide +kernel
theorem dX5_type_31 : decode cX5_type 31 = .ok (.bipush 35, 2) := by decide +kernel
theorem dX5_type_33 : decode cX5_type 33 = .ok (.goto 5, 3) := by decide +kernel
theorem dX5_type_36 : decode cX5_type 36 = .ok (.bipush 47, 2) := by decide +kernel
theorem dX5_type_38 : decode cX5_type 38 = .ok (.if_icmp .ne 6, 3) := by decide +kernel
theorem dX5_type_41 : decode cX5_type 41 = .ok (.bipush (-4), 2) := by decide +kernel
theorem dX5_type_43 : decode cX5_type 43 = .ok (.ireturn, 1) := by decide +kernel
theorem dX5_type_44 : decode cX5_type 44 = .ok (.aload_n 0, 1) := by decide +kernel
theorem dX5_type_45 : decode cX5_type 45 = .ok (.getfield 13, 3) := by decide +kernel
theorem dX5_type_48 : decode cX5_type 48 = .ok (.bipush 47, 2) := by decide +kernel
theorem dX5_type_50 : decode cX5_type 50 = .ok (.iload_n 1, 1) := by decide +kernel
theorem dX5_type_51 : decode cX5_type 51 = .ok (.imul, 1) := by decide +kernel
theorem dX5_type_52 : decode cX5_type 52 = .ok (.aload_n 0, 1) := by decide +kernel
theorem dX5_type_53 : decode cX5_type 53 = .ok (.getfield 7, 3) := by decide +kernel
theorem dX5_type_56 : decode cX5_type 56 = .ok (.iload_n 1, 1) := by decide +kernel
theorem dX5_type_57 : decode cX5_type 57 = .ok (.iaload, 1) := by decide +kernel
theorem dX5_type_58 : decode cX5_type 58 = .ok (.iadd, 1) := by decide +kernel
theorem dX5_type_59 : decode cX5_type 59 = .ok (.iload_n 2, 1) := by decide +kernel
theorem dX5_type_60 : decode cX5_type 60 = .ok (.iastore, 1) := by decide +kernel
theorem dX5_type_61 : decode cX5_type 61 = .ok (.aload_n 0, 1) := by decide +kernel
theorem dX5_type_62 : decode cX5_type 62 = .ok (.getfield 7, 3) := by decide +kernel
theorem dX5_type_65 : decode cX5_type 65 = .ok (.iload_n 1, 1) := by decide +kernel
theorem dX5_type_66 : decode cX5_type 66 = .ok (.dup2, 1) := by decide +kernel
theorem dX5_type_67 : decode cX5_type 67 = .ok (.iaload, 1) := by decide +kernel
theorem dX5_type_68 : decode cX5_type 68 = .ok (.iconst 1, 1) := by decide +kernel
theorem dX5_type_69 : decode cX5_type 69 = .ok (.iadd, 1) := by decide +kernel
theorem dX5_type_70 : decode cX5_type 70 = .ok (.iastore, 1) := by decide +kernel
theorem dX5_type_71 : decode cX5_type 71 = .ok (.aload_n 0, 1) := by decide +kernel
theorem dX5_type_72 : decode cX5_type 72 = .ok (.getfield 7, 3) := by decide +kernel
theorem dX5_type_75 : decode cX5_type 75 = .ok (.iload_n 1, 1) := by decide +kernel
theorem dX5_type_76 : decode cX5_type 76 = .ok (.iaload, 1) := by decide +kernel
theorem dX5_type_77 : decode cX5_type 77 = .ok (.ireturn, 1) := by decide +kernel
theorem dX5_wipe_0 : decode cX5_wipe 0 = .ok (.iload_n 1, 1) := by decide +kernel
theorem dX5_wipe_1 : decode cX5_wipe 1 = .ok (.invokestatic 93, 3) := by decide +kernel
theorem dX5_wipe_4 : decode cX5_wipe 4 = .ok (.ifCond .ne 6, 3) := by decide +kernel
theorem dX5_wipe_7 : decode cX5_wipe 7 = .ok (.bipush (-2), 2) := by decide +kernel
theorem dX5_wipe_9 : decode cX5_wipe 9 = .ok (.ireturn, 1) := by decide +kernel
theorem dX5_wipe_10 : decode cX5_wipe 10 = .ok (.aload_n 0, 1) := by decide +kernel
theorem dX5_wipe_11 : decode cX5_wipe 11 = .ok (.getfield 7, 3) := by decide +kernel
theorem dX5_wipe_14 : decode cX5_wipe 14 = .ok (.iload_n 1, 1) := by decide +kernel
theorem dX5_wipe_15 : decode cX5_wipe 15 = .ok (.iaload, 1) := by decide +kernel
theorem dX5_wipe_16 : decode cX5_wipe 16 = .ok (.istore_n 2, 1) := by decide +kernel
theorem dX5_wipe_17 : decode cX5_wipe 17 = .ok (.aload_n 0, 1) := by decide +kernel
theorem dX5_wipe_18 : decode cX5_wipe 18 = .ok (.getfield 7, 3) := by decide +kernel
theorem dX5_wipe_21 : decode cX5_wipe 21 = .ok (.iload_n 1, 1) := by decide +kernel
theorem dX5_wipe_22 : decode cX5_wipe 22 = .ok (.iconst 0, 1) := by decide +kernel
theorem dX5_wipe_23 : decode cX5_wipe 23 = .ok (.iastore, 1) := by decide +kernel
theorem dX5_wipe_24 : decode cX5_wipe 24 = .ok (.iload_n 2, 1) := by decide +kernel
theorem dX5_wipe_25 : decode cX5_wipe 25 = .ok (.ireturn, 1) := by decide +kernel
theorem dX5_undo_0 : decode cX5_undo 0 = .ok (.iload_n 1, 1) := by decide +kernel
theorem dX5_undo_1 : decode cX5_undo 1 = .ok (.invokestatic 93, 3) := by decide +kernel
theorem dX5_undo_4 : decode cX5_undo 4 = .ok (.ifCond .ne 6, 3) := by decide +kernel
theorem dX5_undo_7 : decode cX5_undo 7 = .ok (.bipush (-2), 2) := by decide +kernel
theorem dX5_undo_9 : decode cX5_undo 9 = .ok (.ireturn, 1) := by decide +kernel
theorem dX5_undo_10 : decode cX5_undo 10 = .ok (.aload_n 0, 1) := by decide +kernel
theorem dX5_undo_11 : decode cX5_undo 11 = .ok (.getfield 7, 3) := by decide +kernel
theorem dX5_undo_14 : decode cX5_undo 14 = .ok (.iload_n 1, 1) := by decide +kernel
theorem dX5_undo_15 : decode cX5_undo 15 = .ok (.iaload, 1) := by decide +kernel
theorem dX5_undo_16 : decode cX5_undo 16 = .ok (.ifCond .ne 6, 3) := by decide +kernel
theorem dX5_undo_19 : decode cX5_undo 19 = .ok (.bipush (-3), 2) := by decide +kernel
theorem dX5_undo_21 : decode cX5_undo 21 = .ok (.ireturn, 1) := by decide +kernel
theorem dX5_undo_22 : decode cX5_undo 22 = .ok (.aload_n 0, 1) := by decide +kernel
theorem dX5_undo_23 : decode cX5_undo 23 = .ok (.getfield 7, 3) := by decide +kernel
theorem dX5_undo_26 : decode cX5_undo 26 = .ok (.iload_n 1, 1) := by decide +kernel
theorem dX5_undo_27 : decode cX5_undo 27 = .ok (.dup2, 1) := by decide +kernel
theorem dX5_undo_28 : decode cX5_undo 28 = .ok (.iaload, 1) := by decide +kernel
theorem dX5_undo_29 : decode cX5_undo 29 = .ok (.iconst 1, 1) := by decide +kernel
theorem dX5_undo_30 : decode cX5_undo 30 = .ok (.isub, 1) := by decide +kernel
theorem dX5_undo_31 : decode cX5_undo 31 = .ok (.iastore, 1) := by decide +kernel
theorem dX5_undo_32 : decode cX5_undo 32 = .ok (.aload_n 0, 1) := by decide +kernel
theorem dX5_undo_33 : decode cX5_undo 33 = .ok (.getfield 7, 3) := by decide +kernel
theorem dX5_undo_36 : decode cX5_undo 36 = .ok (.iload_n 1, 1) := by decide +kernel
theorem dX5_undo_37 : decode cX5_undo 37 = .ok (.iaload, 1) := by decide +kernel
theorem dX5_undo_38 : decode cX5_undo 38 = .ok (.ireturn, 1) := by decide +kernel
theorem dX5_figureAt_0 : decode cX5_figureAt 0 = .ok (.iload_n 2, 1) := by decide +kernel
theorem dX5_figureAt_1 : decode cX5_figureAt 1 = .ok (.aload_n 0, 1) := by decide +kernel
theorem dX5_figureAt_2 : decode cX5_figureAt 2 = .ok (.getfield 7, 3) := by decide +kernel
theorem dX5_figureAt_5 : decode cX5_figureAt 5 = .ok (.iload_n 1, 1) := by decide +kernel
theorem dX5_figureAt_6 : decode cX5_figureAt 6 = .ok (.iaload, 1) := by decide +kernel
theorem dX5_figureAt_7 : decode cX5_figureAt 7 = .ok (.if_icmp .ge 20, 3) := by decide +kernel
theorem dX5_figureAt_10 : decode cX5_figureAt 10 = .ok (.aload_n 0, 1) := by decide +kernel
theorem dX5_figureAt_11 : decode cX5_figureAt 11 = .ok (.getfield 13, 3) := by decide +kernel
theorem dX5_figureAt_14 : decode cX5_figureAt 14 = .ok (.bipush 47, 2) := by decide +kernel
theorem dX5_figureAt_16 : decode cX5_figureAt 16 = .ok (.iload_n 1, 1) := by decide +kernel
theorem dX5_figureAt_17 : decode cX5_figureAt 17 = .ok (.imul, 1) := by decide +kernel
theorem dX5_figureAt_18 : decode cX5_figureAt 18 = .ok (.iload_n 2, 1) := by decide +kernel
theorem dX5_figureAt_19 : decode cX5_figureAt 19 = .ok (.iadd, 1) := by decide +kernel
theorem dX5_figureAt_20 : decode cX5_figureAt 20 = .ok (.iaload, 1) := by decide +kernel
theorem dX5_figureAt_21 : decode cX5_figureAt 21 = .ok (.bipush 48, 2) := by decide +kernel
theorem dX5_figureAt_23 : decode cX5_figureAt 23 = .ok (.isub, 1) := by decide +kernel
theorem dX5_figureAt_24 : decode cX5_figureAt 24 = .ok (.goto 4, 3) := by decide +kernel
theorem dX5_figureAt_27 : decode cX5_figureAt 27 = .ok (.iconst (-1), 1) := by decide +kernel
theorem dX5_figureAt_28 : decode cX5_figureAt 28 = .ok (.istore_n 3, 1) := by decide +kernel
theorem dX5_figureAt_29 : decode cX5_figureAt 29 = .ok (.iload_n 3, 1) := by decide +kernel
theorem dX5_figureAt_30 : decode cX5_figureAt 30 = .ok (.iconst 0, 1) := by decide +kernel
theorem dX5_figureAt_31 : decode cX5_figureAt 31 = .ok (.bipush 9, 2) := by decide +kernel
theorem dX5_figureAt_33 : decode cX5_figureAt 33 = .ok (.invokestatic 89, 3) := by decide +kernel
theorem dX5_figureAt_36 : decode cX5_figureAt 36 = .ok (.ifCond .eq 7, 3) := by decide +kernel
theorem dX5_figureAt_39 : decode cX5_figureAt 39 = .ok (.iload_n 3, 1) := by decide +kernel
theorem dX5_figureAt_40 : decode cX5_figureAt 40 = .ok (.goto 4, 3) := by decide +kernel
theorem dX5_figureAt_43 : decode cX5_figureAt 43 = .ok (.iconst (-1), 1) := by decide +kernel
theorem dX5_figureAt_44 : decode cX5_figureAt 44 = .ok (.ireturn, 1) := by decide +kernel
theorem dX5_twoAt_0 : decode cX5_twoAt 0 = .ok (.bipush 10, 2) := by decide +kernel
theorem dX5_twoAt_2 : decode cX5_twoAt 2 = .ok (.aload_n 0, 1) := by decide +kernel
theorem dX5_twoAt_3 : decode cX5_twoAt 3 = .ok (.iload_n 1, 1) := by decide +kernel
theorem dX5_twoAt_4 : decode cX5_twoAt 4 = .ok (.iload_n 2, 1) := by decide +kernel
theorem dX5_twoAt_5 : decode cX5_twoAt 5 = .ok (.invokevirtual 97, 3) := by decide +kernel
theorem dX5_twoAt_8 : decode cX5_twoAt 8 = .ok (.imul, 1) := by decide +kernel
theorem dX5_twoAt_9 : decode cX5_twoAt 9 = .ok (.aload_n 0, 1) := by decide +kernel
theorem dX5_twoAt_10 : decode cX5_twoAt 10 = .ok (.iload_n 1, 1) := by decide +kernel
theorem dX5_twoAt_11 : decode cX5_twoAt 11 = .ok (.iload_n 2, 1) := by decide +kernel
theorem dX5_twoAt_12 : decode cX5_twoAt 12 = .ok (.iconst 1, 1) := by decide +kernel
theorem dX5_twoAt_13 : decode cX5_twoAt 13 = .ok (.iadd, 1) := by decide +kernel
theorem dX5_twoAt_14 : decode cX5_twoAt 14 = .ok (.invokevirtual 97, 3) := by decide +kernel
theorem dX5_twoAt_17 : decode cX5_twoAt 17 = .ok (.iadd, 1) := by decide +kernel
theorem dX5_twoAt_18 : decode cX5_twoAt 18 = .ok (.ireturn, 1) := by decide +kernel
theorem dX5_readsOne_0 : decode cX5_readsOne 0 = .ok (.iconst 0, 1) := by decide +kernel
theorem dX5_readsOne_1 : decode cX5_readsOne 1 = .ok (.istore 4, 2) := by decide +kernel
theorem dX5_readsOne_3 : decode cX5_readsOne 3 = .ok (.iload 4, 2) := by decide +kernel
theorem dX5_readsOne_5 : decode cX5_readsOne 5 = .ok (.iconst 5, 1) := by decide +kernel
theorem dX5_readsOne_6 : decode cX5_readsOne 6 = .ok (.if_icmp .ge 22, 3) := by decide +kernel
theorem dX5_readsOne_9 : decode cX5_readsOne 9 = .ok (.aload_n 0, 1) := by decide +kernel
theorem dX5_readsOne_10 : decode cX5_readsOne 10 = .ok (.iload_n 1, 1) := by decide +kernel
theorem dX5_readsOne_11 : decode cX5_readsOne 11 = .ok (.iload_n 3, 1) := by decide +kernel
theorem dX5_readsOne_12 : decode cX5_readsOne 12 = .ok (.iload 4, 2) := by decide +kernel
theorem dX5_readsOne_14 : decode cX5_readsOne 14 = .ok (.iadd, 1) := by decide +kernel
theorem dX5_readsOne_15 : decode cX5_readsOne 15 = .ok (.invokevirtual 97, 3) := by decide +kernel
theorem dX5_readsOne_18 : decode cX5_readsOne 18 = .ok (.iconst (-1), 1) := by decide +kernel
theorem dX5_readsOne_19 : decode cX5_readsOne 19 = .ok (.if_icmp .eq 9, 3) := by decide +kernel
theorem dX5_readsOne_22 : decode cX5_readsOne 22 = .ok (.iinc 4 1, 3) := by decide +kernel
theorem dX5_readsOne_25 : decode cX5_readsOne 25 = .ok (.goto (-22), 3) := by decide +kernel
theorem dX5_readsOne_28 : decode cX5_readsOne 28 = .ok (.iload_n 1, 1) := by decide +kernel
theorem dX5_readsOne_29 : decode cX5_readsOne 29 = .ok (.ifCond .ne 102, 3) := by decide +kernel
theorem dX5_readsOne_32 : decode cX5_readsOne 32 = .ok (.iload 4, 2) := by decide +kernel
theorem dX5_readsOne_34 : decode cX5_readsOne 34 = .ok (.ifCond .le 14, 3) := by decide +kernel
theorem dX5_readsOne_37 : decode cX5_readsOne 37 = .ok (.aload_n 0, 1) := by decide +kernel
theorem dX5_readsOne_38 : decode cX5_readsOne 38 = .ok (.iconst 0, 1) := by decide +kernel
theorem dX5_readsOne_39 : decode cX5_readsOne 39 = .ok (.iload_n 3, 1) := by decide +kernel
theorem dX5_readsOne_40 : decode cX5_readsOne 40 = .ok (.invokevirtual 97, 3) := by decide +kernel
theorem dX5_readsOne_43 : decode cX5_readsOne 43 = .ok (.ifCond .ne 5, 3) := by decide +kernel
theorem dX5_readsOne_46 : decode cX5_readsOne 46 = .ok (.iconst 0, 1) := by decide +kernel
theorem dX5_readsOne_47 : decode cX5_readsOne 47 = .ok (.ireturn, 1) := by decide +kernel
theorem dX5_readsOne_48 : decode cX5_readsOne 48 = .ok (.iload 4, 2) := by decide +kernel
theorem dX5_readsOne_50 : decode cX5_readsOne 50 = .ok (.iconst 2, 1) := by decide +kernel
theorem dX5_readsOne_51 : decode cX5_readsOne 51 = .ok (.if_icmp .le 17, 3) := by decide +kernel
theorem dX5_readsOne_54 : decode cX5_readsOne 54 = .ok (.aload_n 0, 1) := by decide +kernel
theorem dX5_readsOne_55 : decode cX5_readsOne 55 = .ok (.iconst 0, 1) := by decide +kernel
theorem dX5_readsOne_56 : decode cX5_readsOne 56 = .ok (.iload_n 3, 1) := by decide +kernel
theorem dX5_readsOne_57 : decode cX5_readsOne 57 = .ok (.iconst 1, 1) := by decide +kernel
theorem dX5_readsOne_58 : decode cX5_readsOne 58 = .ok (.iadd, 1) := by decide +kernel
theorem dX5_readsOne_59 : decode cX5_readsOne 59 = .ok (.invokevirtual 101, 3) := by decide +kernel
theorem dX5_readsOne_62 : decode cX5_readsOne 62 = .ok (.iconst 2, 1) := by decide +kernel
theorem dX5_readsOne_63 : decode cX5_readsOne 63 = .ok (.if_icmp .ge 5, 3) := by decide +kernel
theorem dX5_readsOne_66 : decode cX5_readsOne 66 = .ok (.iconst 2, 1) := by decide +kernel
theorem dX5_readsOne_67 : decode cX5_readsOne 67 = .ok (.ireturn, 1) := by decide +kernel
theorem dX5_readsOne_68 : decode cX5_readsOne 68 = .ok (.aload_n 0, 1) := by decide +kernel
theorem dX5_readsOne_69 : decode cX5_readsOne 69 = .ok (.getfield 16, 3) := by decide +kernel
theorem dX5_readsOne_72 : decode cX5_readsOne 72 = .ok (.iload_n 2, 1) := by decide +kernel
theorem dX5_readsOne_73 : decode cX5_readsOne 73 = .ok (.aload_n 0, 1) := by decide +kernel
theorem dX5_readsOne_74 : decode cX5_readsOne 74 = .ok (.iconst 0, 1) := by decide +kernel
theorem dX5_readsOne_75 : decode cX5_readsOne 75 = .ok (.iload_n 3, 1) := by decide +kernel
theorem dX5_readsOne_76 : decode cX5_readsOne 76 = .ok (.invokevirtual 97, 3) := by decide +kernel
theorem dX5_readsOne_79 : decode cX5_readsOne 79 = .ok (.iastore, 1) := by decide +kernel
theorem dX5_readsOne_80 : decode cX5_readsOne 80 = .ok (.aload_n 0, 1) := by decide +kernel
theorem dX5_readsOne_81 : decode cX5_readsOne 81 = .ok (.getfield 19, 3) := by decide +kernel
theorem dX5_readsOne_84 : decode cX5_readsOne 84 = .ok (.iload_n 2, 1) := by decide +kernel
theorem dX5_readsOne_85 : decode cX5_readsOne 85 = .ok (.iload 4, 2) := by decide +kernel
theorem dX5_readsOne_87 : decode cX5_readsOne 87 = .ok (.iconst 5, 1) := by decide +kernel
theorem dX5_readsOne_88 : decode cX5_readsOne 88 = .ok (.if_icmp .ne 14, 3) := by decide +kernel
theorem dX5_readsOne_91 : decode cX5_readsOne 91 = .ok (.aload_n 0, 1) := by decide +kernel
theorem dX5_readsOne_92 : decode cX5_readsOne 92 = .ok (.iconst 0, 1) := by decide +kernel
theorem dX5_readsOne_93 : decode cX5_readsOne 93 = .ok (.iload_n 3, 1) := by decide +kernel
theorem dX5_readsOne_94 : decode cX5_readsOne 94 = .ok (.iconst 1, 1) := by decide +kernel
theorem dX5_readsOne_95 : decode cX5_readsOne 95 = .ok (.iadd, 1) := by decide +kernel
theorem dX5_readsOne_96 : decode cX5_readsOne 96 = .ok (.invokevirtual 101, 3) := by decide +kernel
theorem dX5_readsOne_99 : decode cX5_readsOne 99 = .ok (.goto 4, 3) := by decide +kernel
theorem dX5_readsOne_102 : decode cX5_readsOne 102 = .ok (.iconst 2, 1) := by decide +kernel
theorem dX5_readsOne_103 : decode cX5_readsOne 103 = .ok (.iastore, 1) := by decide +kernel
theorem dX5_readsOne_104 : decode cX5_readsOne 104 = .ok (.aload_n 0, 1) := by decide +kernel
theorem dX5_readsOne_105 : decode cX5_readsOne 105 = .ok (.getfield 22, 3) := by decide +kernel
theorem dX5_readsOne_108 : decode cX5_readsOne 108 = .ok (.iload_n 2, 1) := by decide +kernel
theorem dX5_readsOne_109 : decode cX5_readsOne 109 = .ok (.iload 4, 2) := by decide +kernel
theorem dX5_readsOne_111 : decode cX5_readsOne 111 = .ok (.iconst 5, 1) := by decide +kernel
theorem dX5_readsOne_112 : decode cX5_readsOne 112 = .ok (.if_icmp .ne 14, 3) := by decide +kernel
theorem dX5_readsOne_115 : decode cX5_readsOne 115 = .ok (.aload_n 0, 1) := by decide +kernel
theorem dX5_readsOne_116 : decode cX5_readsOne 116 = .ok (.iconst 0, 1) := by decide +kernel
theorem dX5_readsOne_117 : decode cX5_readsOne 117 = .ok (.iload_n 3, 1) := by decide +kernel
theorem dX5_readsOne_118 : decode cX5_readsOne 118 = .ok (.iconst 3, 1) := by decide +kernel
theorem dX5_readsOne_119 : decode cX5_readsOne 119 = .ok (.iadd, 1) := by decide +kernel
theorem dX5_readsOne_120 : decode cX5_readsOne 120 = .ok (.invokevirtual 101, 3) := by decide +kernel
theorem dX5_readsOne_123 : decode cX5_readsOne 123 = .ok (.goto 4, 3) := by decide +kernel
theorem dX5_readsOne_126 : decode cX5_readsOne 126 = .ok (.iconst 0, 1) := by decide +kernel
theorem dX5_readsOne_127 : decode cX5_readsOne 127 = .ok (.iastore, 1) := by decide +kernel
theorem dX5_readsOne_128 : decode cX5_readsOne 128 = .ok (.iload 4, 2) := by decide +kernel
theorem dX5_readsOne_130 : decode cX5_readsOne 130 = .ok (.ireturn, 1) := by decide +kernel
theorem dX5_readsOne_131 : decode cX5_readsOne 131 = .ok (.iload 4, 2) := by decide +kernel
theorem dX5_readsOne_133 : decode cX5_readsOne 133 = .ok (.iconst 1, 1) := by decide +kernel
theorem dX5_readsOne_134 : decode cX5_readsOne 134 = .ok (.if_icmp .le 14, 3) := by decide +kernel
theorem dX5_readsOne_137 : decode cX5_readsOne 137 = .ok (.aload_n 0, 1) := by decide +kernel
theorem dX5_readsOne_138 : decode cX5_readsOne 138 = .ok (.iconst 1, 1) := by decide +kernel
theorem dX5_readsOne_139 : decode cX5_readsOne 139 = .ok (.iload_n 3, 1) := by decide +kernel
theorem dX5_readsOne_140 : decode cX5_readsOne 140 = .ok (.invokevirtual 101, 3) := by decide +kernel
theorem dX5_readsOne_143 : decode cX5_readsOne 143 = .ok (.ifCond .ne 5, 3) := by decide +kernel
theorem dX5_readsOne_146 : decode cX5_readsOne 146 = .ok (.iconst 1, 1) := by decide +kernel
theorem dX5_readsOne_147 : decode cX5_readsOne 147 = .ok (.ireturn, 1) := by decide +kernel
theorem dX5_readsOne_148 : decode cX5_readsOne 148 = .ok (.aload_n 0, 1) := by decide +kernel
theorem dX5_readsOne_149 : decode cX5_readsOne 149 = .ok (.getfield 25, 3) := by decide +kernel
theorem dX5_readsOne_152 : decode cX5_readsOne 152 = .ok (.iload_n 2, 1) := by decide +kernel
theorem dX5_readsOne_153 : decode cX5_readsOne 153 = .ok (.iload 4, 2) := by decide +kernel
theorem dX5_readsOne_155 : decode cX5_readsOne 155 = .ok (.iconst 5, 1) := by decide +kernel
theorem dX5_readsOne_156 : decode cX5_readsOne 156 = .ok (.if_icmp .ne 12, 3) := by decide +kernel
theorem dX5_readsOne_159 : decode cX5_readsOne 159 = .ok (.aload_n 0, 1) := by decide +kernel
theorem dX5_readsOne_160 : decode cX5_readsOne 160 = .ok (.iconst 1, 1) := by decide +kernel
theorem dX5_readsOne_161 : decode cX5_readsOne 161 = .ok (.iload_n 3, 1) := by decide +kernel
theorem dX5_readsOne_162 : decode cX5_readsOne 162 = .ok (.invokevirtual 101, 3) := by decide +kernel
theorem dX5_readsOne_165 : decode cX5_readsOne 165 = .ok (.goto 4, 3) := by decide +kernel
theorem dX5_readsOne_168 : decode cX5_readsOne 168 = .ok (.iconst 1, 1) := by decide +kernel
theorem dX5_readsOne_169 : decode cX5_readsOne 169 = .ok (.iastore, 1) := by decide +kernel
theorem dX5_readsOne_170 : decode cX5_readsOne 170 = .ok (.aload_n 0, 1) := by decide +kernel
theorem dX5_readsOne_171 : decode cX5_readsOne 171 = .ok (.getfield 28, 3) := by decide +kernel
theorem dX5_readsOne_174 : decode cX5_readsOne 174 = .ok (.iload_n 2, 1) := by decide +kernel
theorem dX5_readsOne_175 : decode cX5_readsOne 175 = .ok (.iload 4, 2) := by decide +kernel
theorem dX5_readsOne_177 : decode cX5_readsOne 177 = .ok (.iconst 5, 1) := by decide +kernel
theorem dX5_readsOne_178 : decode cX5_readsOne 178 = .ok (.if_icmp .ne 14, 3) := by decide +kernel
theorem dX5_readsOne_181 : decode cX5_readsOne 181 = .ok (.aload_n 0, 1) := by decide +kernel
theorem dX5_readsOne_182 : decode cX5_readsOne 182 = .ok (.iconst 1, 1) := by decide +kernel
theorem dX5_readsOne_183 : decode cX5_readsOne 183 = .ok (.iload_n 3, 1) := by decide +kernel
theorem dX5_readsOne_184 : decode cX5_readsOne 184 = .ok (.iconst 2, 1) := by decide +kernel
theorem dX5_readsOne_185 : decode cX5_readsOne 185 = .ok (.iadd, 1) := by decide +kernel
theorem dX5_readsOne_186 : decode cX5_readsOne 186 = .ok (.invokevirtual 101, 3) := by decide +kernel
theorem dX5_readsOne_189 : decode cX5_readsOne 189 = .ok (.goto 4, 3) := by decide +kernel
theorem dX5_readsOne_192 : decode cX5_readsOne 192 = .ok (.iconst 0, 1) := by decide +kernel
theorem dX5_readsOne_193 : decode cX5_readsOne 193 = .ok (.iastore, 1) := by decide +kernel
theorem dX5_readsOne_194 : decode cX5_readsOne 194 = .ok (.aload_n 0, 1) := by decide +kernel
theorem dX5_readsOne_195 : decode cX5_readsOne 195 = .ok (.getfield 31, 3) := by decide +kernel
theorem dX5_readsOne_198 : decode cX5_readsOne 198 = .ok (.iload_n 2, 1) := by decide +kernel
theorem dX5_readsOne_199 : decode cX5_readsOne 199 = .ok (.iload 4, 2) := by decide +kernel
theorem dX5_readsOne_201 : decode cX5_readsOne 201 = .ok (.iconst 5, 1) := by decide +kernel
theorem dX5_readsOne_202 : decode cX5_readsOne 202 = .ok (.if_icmp .ne 14, 3) := by decide +kernel
theorem dX5_readsOne_205 : decode cX5_readsOne 205 = .ok (.aload_n 0, 1) := by decide +kernel
theorem dX5_readsOne_206 : decode cX5_readsOne 206 = .ok (.iconst 1, 1) := by decide +kernel
theorem dX5_readsOne_207 : decode cX5_readsOne 207 = .ok (.iload_n 3, 1) := by decide +kernel
theorem dX5_readsOne_208 : decode cX5_readsOne 208 = .ok (.iconst 4, 1) := by decide +kernel
theorem dX5_readsOne_209 : decode cX5_readsOne 209 = .ok (.iadd, 1) := by decide +kernel
theorem dX5_readsOne_210 : decode cX5_readsOne 210 = .ok (.invokevirtual 97, 3) := by decide +kernel
theorem dX5_readsOne_213 : decode cX5_readsOne 213 = .ok (.goto 4, 3) := by decide +kernel
theorem dX5_readsOne_216 : decode cX5_readsOne 216 = .ok (.iconst 0, 1) := by decide +kernel
theorem dX5_readsOne_217 : decode cX5_readsOne 217 = .ok (.iastore, 1) := by decide +kernel
theorem dX5_readsOne_218 : decode cX5_readsOne 218 = .ok (.iload 4, 2) := by decide +kernel
theorem dX5_readsOne_220 : decode cX5_readsOne 220 = .ok (.ireturn, 1) := by decide +kernel
theorem dX5_readsText_0 : decode cX5_readsText 0 = .ok (.iload_n 1, 1) := by decide +kernel
theorem dX5_readsText_1 : decode cX5_readsText 1 = .ok (.ifCond .ne 8, 3) := by decide +kernel
theorem dX5_readsText_4 : decode cX5_readsText 4 = .ok (.bipush 6, 2) := by decide +kernel
theorem dX5_readsText_6 : decode cX5_readsText 6 = .ok (.goto 5, 3) := by decide +kernel
theorem dX5_readsText_9 : decode cX5_readsText 9 = .ok (.bipush 8, 2) := by decide +kernel
theorem dX5_readsText_11 : decode cX5_readsText 11 = .ok (.istore_n 2, 1) := by decide +kernel
theorem dX5_readsText_12 : decode cX5_readsText 12 = .ok (.iconst 0, 1) := by decide +kernel
theorem dX5_readsText_13 : decode cX5_readsText 13 = .ok (.istore_n 3, 1) := by decide +kernel
theorem dX5_readsText_14 : decode cX5_readsText 14 = .ok (.iconst 0, 1) := by decide +kernel
theorem dX5_readsText_15 : decode cX5_readsText 15 = .ok (.istore 4, 2) := by decide +kernel
theorem dX5_readsText_17 : decode cX5_readsText 17 = .ok (.aload_n 0, 1) := by decide +kernel
theorem dX5_readsText_18 : decode cX5_readsText 18 = .ok (.iload_n 1, 1) := by decide +kernel
theorem dX5_readsText_19 : decode cX5_readsText 19 = .ok (.ifCond .ne 7, 3) := by decide +kernel
theorem dX5_readsText_22 : decode cX5_readsText 22 = .ok (.iconst 0, 1) := by decide +kernel
theorem dX5_readsText_23 : decode cX5_readsText 23 = .ok (.goto 7, 3) := by decide +kernel
theorem dX5_readsText_26 : decode cX5_readsText 26 = .ok (.aload_n 0, 1) := by decide +kernel
theorem dX5_readsText_27 : decode cX5_readsText 27 = .ok (.getfield 104, 3) := by decide +kernel
theorem dX5_readsText_30 : decode cX5_readsText 30 = .ok (.putfield 104, 3) := by decide +kernel
theorem dX5_readsText_33 : decode cX5_readsText 33 = .ok (.aload_n 0, 1) := by decide +kernel
theorem dX5_readsText_34 : decode cX5_readsText 34 = .ok (.iload_n 1, 1) := by decide +kernel
theorem dX5_readsText_35 : decode cX5_readsText 35 = .ok (.iconst 1, 1) := by decide +kernel
theorem dX5_readsText_36 : decode cX5_readsText 36 = .ok (.if_icmp .ne 7, 3) := by decide +kernel
theorem dX5_readsText_39 : decode cX5_readsText 39 = .ok (.iconst 0, 1) := by decide +kernel
theorem dX5_readsText_40 : decode cX5_readsText 40 = .ok (.goto 7, 3) := by decide +kernel
theorem dX5_readsText_43 : decode cX5_readsText 43 = .ok (.aload_n 0, 1) := by decide +kernel
theorem dX5_readsText_44 : decode cX5_readsText 44 = .ok (.getfield 108, 3) := by decide +kernel
theorem dX5_readsText_47 : decode cX5_readsText 47 = .ok (.putfield 108, 3) := by decide +kernel
theorem dX5_readsText_50 : decode cX5_readsText 50 = .ok (.iload 4, 2) := by decide +kernel
theorem dX5_readsText_52 : decode cX5_readsText 52 = .ok (.aload_n 0, 1) := by decide +kernel
theorem dX5_readsText_53 : decode cX5_readsText 53 = .ok (.getfield 7, 3) := by decide +kernel
theorem dX5_readsText_56 : decode cX5_readsText 56 = .ok (.iload_n 1, 1) := by decide +kernel
theorem dX5_readsText_57 : decode cX5_readsText 57 = .ok (.iaload, 1) := by decide +kernel
theorem dX5_readsText_58 : decode cX5_readsText 58 = .ok (.if_icmp .lt 8, 3) := by decide +kernel
theorem dX5_readsText_61 : decode cX5_readsText 61 = .ok (.iload 4, 2) := by decide +kernel
theorem dX5_readsText_63 : decode cX5_readsText 63 = .ok (.ifCond .le 112, 3) := by decide +kernel
theorem dX5_readsText_66 : decode cX5_readsText 66 = .ok (.iload_n 3, 1) := by decide +kernel
theorem dX5_readsText_67 : decode cX5_readsText 67 = .ok (.iload_n 2, 1) := by decide +kernel
theorem dX5_readsText_68 : decode cX5_readsText 68 = .ok (.if_icmp .ne 7, 3) := by decide +kernel
theorem dX5_readsText_71 : decode cX5_readsText 71 = .ok (.iconst 0, 1) := by decide +kernel
theorem dX5_readsText_72 : decode cX5_readsText 72 = .ok (.goto 11, 3) := by decide +kernel
theorem dX5_readsText_75 : decode cX5_readsText 75 = .ok (.aload_n 0, 1) := by decide +kernel
theorem dX5_readsText_76 : decode cX5_readsText 76 = .ok (.iload_n 1, 1) := by decide +kernel
theorem dX5_readsText_77 : decode cX5_readsText 77 = .ok (.iload_n 3, 1) := by decide +kernel
theorem dX5_readsText_78 : decode cX5_readsText 78 = .ok (.iload 4, 2) := by decide +kernel
theorem dX5_readsText_80 : decode cX5_readsText 80 = .ok (.invokevirtual 111, 3) := by decide +kernel
theorem dX5_readsText_83 : decode cX5_readsText 83 = .ok (.istore 5, 2) := by decide +kernel
theorem dX5_readsText_85 : decode cX5_readsText 85 = .ok (.iload 5, 2) := by decide +kernel
theorem dX5_readsText_87 : decode cX5_readsText 87 = .ok (.iconst 5, 1) := by decide +kernel
theorem dX5_readsText_88 : decode cX5_readsText 88 = .ok (.if_icmp .ge 9, 3) := by decide +kernel
theorem dX5_readsText_91 : decode cX5_readsText 91 = .ok (.iload 4, 2) := by decide +kernel
theorem dX5_readsText_93 : decode cX5_readsText 93 = .ok (.iload 5, 2) := by decide +kernel
theorem dX5_readsText_95 : decode cX5_readsText 95 = .ok (.iadd, 1) := by decide +kernel
theorem dX5_readsText_96 : decode cX5_readsText 96 = .ok (.ireturn, 1) := by decide +kernel
theorem dX5_readsText_97 : decode cX5_readsText 97 = .ok (.iinc 3 1, 3) := by decide +kernel
theorem dX5_readsText_100 : decode cX5_readsText 100 = .ok (.iinc 4 5, 3) := by decide +kernel
theorem dX5_readsText_103 : decode cX5_readsText 103 = .ok (.iload 4, 2) := by decide +kernel
theorem dX5_readsText_105 : decode cX5_readsText 105 = .ok (.aload_n 0, 1) := by decide +kernel
theorem dX5_readsText_106 : decode cX5_readsText 106 = .ok (.getfield 7, 3) := by decide +kernel
theorem dX5_readsText_109 : decode cX5_readsText 109 = .ok (.iload_n 1, 1) := by decide +kernel
theorem dX5_readsText_110 : decode cX5_readsText 110 = .ok (.iaload, 1) := by decide +kernel
theorem dX5_readsText_111 : decode cX5_readsText 111 = .ok (.if_icmp .ne 38, 3) := by decide +kernel
theorem dX5_readsText_114 : decode cX5_readsText 114 = .ok (.aload_n 0, 1) := by decide +kernel
theorem dX5_readsText_115 : decode cX5_readsText 115 = .ok (.iload_n 1, 1) := by decide +kernel
theorem dX5_readsText_116 : decode cX5_readsText 116 = .ok (.ifCond .ne 7, 3) := by decide +kernel
theorem dX5_readsText_119 : decode cX5_readsText 119 = .ok (.iload_n 3, 1) := by decide +kernel
theorem dX5_readsText_120 : decode cX5_readsText 120 = .ok (.goto 7, 3) := by decide +kernel
theorem dX5_readsText_123 : decode cX5_readsText 123 = .ok (.aload_n 0, 1) := by decide +kernel
theorem dX5_readsText_124 : decode cX5_readsText 124 = .ok (.getfield 104, 3) := by decide +kernel
theorem dX5_readsText_127 : decode cX5_readsText 127 = .ok (.putfield 104, 3) := by decide +kernel
theorem dX5_readsText_130 : decode cX5_readsText 130 = .ok (.aload_n 0, 1) := by decide +kernel
theorem dX5_readsText_131 : decode cX5_readsText 131 = .ok (.iload_n 1, 1) := by decide +kernel
theorem dX5_readsText_132 : decode cX5_readsText 132 = .ok (.iconst 1, 1) := by decide +kernel
theorem dX5_readsText_133 : decode cX5_readsText 133 = .ok (.if_icmp .ne 7, 3) := by decide +kernel
theorem dX5_readsText_136 : decode cX5_readsText 136 = .ok (.iload_n 3, 1) := by decide +kernel
theorem dX5_readsText_137 : decode cX5_readsText 137 = .ok (.goto 7, 3) := by decide +kernel
theorem dX5_readsText_140 : decode cX5_readsText 140 = .ok (.aload_n 0, 1) := by decide +kernel
theorem dX5_readsText_141 : decode cX5_readsText 141 = .ok (.getfield 108, 3) := by decide +kernel
theorem dX5_readsText_144 : decode cX5_readsText 144 = .ok (.putfield 108, 3) := by decide +kernel
theorem dX5_readsText_147 : decode cX5_readsText 147 = .ok (.iconst (-1), 1) := by decide +kernel
theorem dX5_readsText_148 : decode cX5_readsText 148 = .ok (.ireturn, 1) := by decide +kernel
theorem dX5_readsText_149 : decode cX5_readsText 149 = .ok (.aload_n 0, 1) := by decide +kernel
theorem dX5_readsText_150 : decode cX5_readsText 150 = .ok (.getfield 13, 3) := by decide +kernel
theorem dX5_readsText_153 : decode cX5_readsText 153 = .ok (.bipush 47, 2) := by decide +kernel
theorem dX5_readsText_155 : decode cX5_readsText 155 = .ok (.iload_n 1, 1) := by decide +kernel
theorem dX5_readsText_156 : decode cX5_readsText 156 = .ok (.imul, 1) := by decide +kernel
theorem dX5_readsText_157 : decode cX5_readsText 157 = .ok (.iload 4, 2) := by decide +kernel
theorem dX5_readsText_159 : decode cX5_readsText 159 = .ok (.iadd, 1) := by decide +kernel
theorem dX5_readsText_160 : decode cX5_readsText 160 = .ok (.iaload, 1) := by decide +kernel
theorem dX5_readsText_161 : decode cX5_readsText 161 = .ok (.bipush 59, 2) := by decide +kernel
theorem dX5_readsText_163 : decode cX5_readsText 163 = .ok (.if_icmp .eq 6, 3) := by decide +kernel
theorem dX5_readsText_166 : decode cX5_readsText 166 = .ok (.iload 4, 2) := by decide +kernel
theorem dX5_readsText_168 : decode cX5_readsText 168 = .ok (.ireturn, 1) := by decide +kernel
theorem dX5_readsText_169 : decode cX5_readsText 169 = .ok (.iinc 4 1, 3) := by decide +kernel
theorem dX5_readsText_172 : decode cX5_readsText 172 = .ok (.goto (-122), 3) := by decide +kernel
theorem dX5_readsText_175 : decode cX5_readsText 175 = .ok (.iconst (-1), 1) := by decide +kernel
theorem dX5_readsText_176 : decode cX5_readsText 176 = .ok (.ireturn, 1) := by decide +kernel
theorem dX5_faultOf_0 : decode cX5_faultOf 0 = .ok (.aload_n 0, 1) := by decide +kernel
theorem dX5_faultOf_1 : decode cX5_faultOf 1 = .ok (.iconst 0, 1) := by decide +kernel
theorem dX5_faultOf_2 : decode cX5_faultOf 2 = .ok (.invokevirtual 115, 3) := by decide +kernel
theorem dX5_faultOf_5 : decode cX5_faultOf 5 = .ok (.istore_n 2, 1) := by decide +kernel
theorem dX5_faultOf_6 : decode cX5_faultOf 6 = .ok (.aload_n 0, 1) := by decide +kernel
theorem dX5_faultOf_7 : decode cX5_faultOf 7 = .ok (.iconst 1, 1) := by decide +kernel
theorem dX5_faultOf_8 : decode cX5_faultOf 8 = .ok (.invokevirtual 115, 3) := by decide +kernel
theorem dX5_faultOf_11 : decode cX5_faultOf 11 = .ok (.istore_n 3, 1) := by decide +kernel
theorem dX5_faultOf_12 : decode cX5_faultOf 12 = .ok (.iload_n 1, 1) := by decide +kernel
theorem dX5_faultOf_13 : decode cX5_faultOf 13 = .ok (.ifCond .ne 7, 3) := by decide +kernel
theorem dX5_faultOf_16 : decode cX5_faultOf 16 = .ok (.iload_n 2, 1) := by decide +kernel
theorem dX5_faultOf_17 : decode cX5_faultOf 17 = .ok (.goto 4, 3) := by decide +kernel
theorem dX5_faultOf_20 : decode cX5_faultOf 20 = .ok (.iload_n 3, 1) := by decide +kernel
theorem dX5_faultOf_21 : decode cX5_faultOf 21 = .ok (.ireturn, 1) := by decide +kernel
theorem dX5_reads_0 : decode cX5_reads 0 = .ok (.aload_n 0, 1) := by decide +kernel
theorem dX5_reads_1 : decode cX5_reads 1 = .ok (.iconst 0, 1) := by decide +kernel
theorem dX5_reads_2 : decode cX5_reads 2 = .ok (.invokevirtual 119, 3) := by decide +kernel
theorem dX5_reads_5 : decode cX5_reads 5 = .ok (.istore_n 1, 1) := by decide +kernel
theorem dX5_reads_6 : decode cX5_reads 6 = .ok (.return_, 1) := by decide +kernel
theorem dX5_fault_0 : decode cX5_fault 0 = .ok (.iload_n 1, 1) := by decide +kernel
theorem dX5_fault_1 : decode cX5_fault 1 = .ok (.invokestatic 93, 3) := by decide +kernel
theorem dX5_fault_4 : decode cX5_fault 4 = .ok (.ifCond .eq 11, 3) := by decide +kernel
theorem dX5_fault_7 : decode cX5_fault 7 = .ok (.aload_n 0, 1) := by decide +kernel
theorem dX5_fault_8 : decode cX5_fault 8 = .ok (.iload_n 1, 1) := by decide +kernel
theorem dX5_fault_9 : decode cX5_fault 9 = .ok (.invokevirtual 119, 3) := by decide +kernel
theorem dX5_fault_12 : decode cX5_fault 12 = .ok (.goto 5, 3) := by decide +kernel
theorem dX5_fault_15 : decode cX5_fault 15 = .ok (.bipush (-2), 2) := by decide +kernel
theorem dX5_fault_17 : decode cX5_fault 17 = .ok (.ireturn, 1) := by decide +kernel
theorem dX5_isSwell_0 : decode cX5_isSwell 0 = .ok (.aload_n 0, 1) := by decide +kernel
theorem dX5_isSwell_1 : decode cX5_isSwell 1 = .ok (.invokevirtual 122, 3) := by decide +kernel
theorem dX5_isSwell_4 : decode cX5_isSwell 4 = .ok (.iload_n 1, 1) := by decide +kernel
theorem dX5_isSwell_5 : decode cX5_isSwell 5 = .ok (.iconst 0, 1) := by decide +kernel
theorem dX5_isSwell_6 : decode cX5_isSwell 6 = .ok (.aload_n 0, 1) := by decide +kernel
theorem dX5_isSwell_7 : decode cX5_isSwell 7 = .ok (.getfield 104, 3) := by decide +kernel
theorem dX5_isSwell_10 : decode cX5_isSwell 10 = .ok (.iconst 1, 1) := by decide +kernel
theorem dX5_isSwell_11 : decode cX5_isSwell 11 = .ok (.isub, 1) := by decide +kernel
theorem dX5_isSwell_12 : decode cX5_isSwell 12 = .ok (.invokestatic 89, 3) := by decide +kernel
theorem dX5_isSwell_15 : decode cX5_isSwell 15 = .ok (.ireturn, 1) := by decide +kernel
theorem dX5_isFind_0 : decode cX5_isFind 0 = .ok (.aload_n 0, 1) := by decide +kernel
theorem dX5_isFind_1 : decode cX5_isFind 1 = .ok (.invokevirtual 122, 3) := by decide +kernel
theorem dX5_isFind_4 : decode cX5_isFind 4 = .ok (.iload_n 1, 1) := by decide +kernel
theorem dX5_isFind_5 : decode cX5_isFind 5 = .ok (.iconst 0, 1) := by decide +kernel
theorem dX5_isFind_6 : decode cX5_isFind 6 = .ok (.aload_n 0, 1) := by decide +kernel
theorem dX5_isFind_7 : decode cX5_isFind 7 = .ok (.getfield 108, 3) := by decide +kernel
theorem dX5_isFind_10 : decode cX5_isFind 10 = .ok (.iconst 1, 1) := by decide +kernel
theorem dX5_isFind_11 : decode cX5_isFind 11 = .ok (.isub, 1) := by decide +kernel
theorem dX5_isFind_12 : decode cX5_isFind 12 = .ok (.invokestatic 89, 3) := by decide +kernel
theorem dX5_isFind_15 : decode cX5_isFind 15 = .ok (.ireturn, 1) := by decide +kernel
theorem dX5_swellOf_0 : decode cX5_swellOf 0 = .ok (.iload_n 2, 1) := by decide +kernel
theorem dX5_swellOf_1 : decode cX5_swellOf 1 = .ok (.ifCond .ne 12, 3) := by decide +kernel
theorem dX5_swellOf_4 : decode cX5_swellOf 4 = .ok (.aload_n 0, 1) := by decide +kernel
theorem dX5_swellOf_5 : decode cX5_swellOf 5 = .ok (.getfield 16, 3) := by decide +kernel
theorem dX5_swellOf_8 : decode cX5_swellOf 8 = .ok (.iload_n 1, 1) := by decide +kernel
theorem dX5_swellOf_9 : decode cX5_swellOf 9 = .ok (.iaload, 1) := by decide +kernel
theorem dX5_swellOf_10 : decode cX5_swellOf 10 = .ok (.goto 23, 3) := by decide +kernel
theorem dX5_swellOf_13 : decode cX5_swellOf 13 = .ok (.iload_n 2, 1) := by decide +kernel
theorem dX5_swellOf_14 : decode cX5_swellOf 14 = .ok (.iconst 1, 1) := by decide +kernel
theorem dX5_swellOf_15 : decode cX5_swellOf 15 = .ok (.if_icmp .ne 12, 3) := by decide +kernel
theorem dX5_swellOf_18 : decode cX5_swellOf 18 = .ok (.aload_n 0, 1) := by decide +kernel
theorem dX5_swellOf_19 : decode cX5_swellOf 19 = .ok (.getfield 19, 3) := by decide +kernel
theorem dX5_swellOf_22 : decode cX5_swellOf 22 = .ok (.iload_n 1, 1) := by decide +kernel
theorem dX5_swellOf_23 : decode cX5_swellOf 23 = .ok (.iaload, 1) := by decide +kernel
theorem dX5_swellOf_24 : decode cX5_swellOf 24 = .ok (.goto 9, 3) := by decide +kernel
theorem dX5_swellOf_27 : decode cX5_swellOf 27 = .ok (.aload_n 0, 1) := by decide +kernel
theorem dX5_swellOf_28 : decode cX5_swellOf 28 = .ok (.getfield 22, 3) := by decide +kernel
theorem dX5_swellOf_31 : decode cX5_swellOf 31 = .ok (.iload_n 1, 1) := by decide +kernel
theorem dX5_swellOf_32 : decode cX5_swellOf 32 = .ok (.iaload, 1) := by decide +kernel
theorem dX5_swellOf_33 : decode cX5_swellOf 33 = .ok (.ireturn, 1) := by decide +kernel
theorem dX5_swell_0 : decode cX5_swell 0 = .ok (.aload_n 0, 1) := by decide +kernel
theorem dX5_swell_1 : decode cX5_swell 1 = .ok (.iload_n 1, 1) := by decide +kernel
theorem dX5_swell_2 : decode cX5_swell 2 = .ok (.invokevirtual 125, 3) := by decide +kernel
theorem dX5_swell_5 : decode cX5_swell 5 = .ok (.ifCond .eq 21, 3) := by decide +kernel
theorem dX5_swell_8 : decode cX5_swell 8 = .ok (.iload_n 2, 1) := by decide +kernel
theorem dX5_swell_9 : decode cX5_swell 9 = .ok (.iconst 0, 1) := by decide +kernel
theorem dX5_swell_10 : decode cX5_swell 10 = .ok (.iconst 2, 1) := by decide +kernel
theorem dX5_swell_11 : decode cX5_swell 11 = .ok (.invokestatic 89, 3) := by decide +kernel
theorem dX5_swell_14 : decode cX5_swell 14 = .ok (.ifCond .eq 12, 3) := by decide +kernel
theorem dX5_swell_17 : decode cX5_swell 17 = .ok (.aload_n 0, 1) := by decide +kernel
theorem dX5_swell_18 : decode cX5_swell 18 = .ok (.iload_n 1, 1) := by decide +kernel
theorem dX5_swell_19 : decode cX5_swell 19 = .ok (.iload_n 2, 1) := by decide +kernel
theorem dX5_swell_20 : decode cX5_swell 20 = .ok (.invokevirtual 128, 3) := by decide +kernel
theorem dX5_swell_23 : decode cX5_swell 23 = .ok (.goto 5, 3) := by decide +kernel
theorem dX5_swell_26 : decode cX5_swell 26 = .ok (.bipush (-2), 2) := by decide +kernel
theorem dX5_swell_28 : decode cX5_swell 28 = .ok (.ireturn, 1) := by decide +kernel
theorem dX5_findOf_0 : decode cX5_findOf 0 = .ok (.iload_n 2, 1) := by decide +kernel
theorem dX5_findOf_1 : decode cX5_findOf 1 = .ok (.ifCond .ne 12, 3) := by decide +kernel
theorem dX5_findOf_4 : decode cX5_findOf 4 = .ok (.aload_n 0, 1) := by decide +kernel
theorem dX5_findOf_5 : decode cX5_findOf 5 = .ok (.getfield 25, 3) := by decide +kernel
theorem dX5_findOf_8 : decode cX5_findOf 8 = .ok (.iload_n 1, 1) := by decide +kernel
theorem dX5_findOf_9 : decode cX5_findOf 9 = .ok (.iaload, 1) := by decide +kernel
theorem dX5_findOf_10 : decode cX5_findOf 10 = .ok (.goto 23, 3) := by decide +kernel
theorem dX5_findOf_13 : decode cX5_findOf 13 = .ok (.iload_n 2, 1) := by decide +kernel
theorem dX5_findOf_14 : decode cX5_findOf 14 = .ok (.iconst 1, 1) := by decide +kernel
theorem dX5_findOf_15 : decode cX5_findOf 15 = .ok (.if_icmp .ne 12, 3) := by decide +kernel
theorem dX5_findOf_18 : decode cX5_findOf 18 = .ok (.aload_n 0, 1) := by decide +kernel
theorem dX5_findOf_19 : decode cX5_findOf 19 = .ok (.getfield 28, 3) := by decide +kernel
theorem dX5_findOf_22 : decode cX5_findOf 22 = .ok (.iload_n 1, 1) := by decide +kernel
theorem dX5_findOf_23 : decode cX5_findOf 23 = .ok (.iaload, 1) := by decide +kernel
theorem dX5_findOf_24 : decode cX5_findOf 24 = .ok (.goto 9, 3) := by decide +kernel
theorem dX5_findOf_27 : decode cX5_findOf 27 = .ok (.aload_n 0, 1) := by decide +kernel
theorem dX5_findOf_28 : decode cX5_findOf 28 = .ok (.getfield 31, 3) := by decide +kernel
theorem dX5_findOf_31 : decode cX5_findOf 31 = .ok (.iload_n 1, 1) := by decide +kernel
theorem dX5_findOf_32 : decode cX5_findOf 32 = .ok (.iaload, 1) := by decide +kernel
theorem dX5_findOf_33 : decode cX5_findOf 33 = .ok (.ireturn, 1) := by decide +kernel
theorem dX5_find_0 : decode cX5_find 0 = .ok (.aload_n 0, 1) := by decide +kernel
theorem dX5_find_1 : decode cX5_find 1 = .ok (.iload_n 1, 1) := by decide +kernel
theorem dX5_find_2 : decode cX5_find 2 = .ok (.invokevirtual 131, 3) := by decide +kernel
theorem dX5_find_5 : decode cX5_find 5 = .ok (.ifCond .eq 21, 3) := by decide +kernel
theorem dX5_find_8 : decode cX5_find 8 = .ok (.iload_n 2, 1) := by decide +kernel
theorem dX5_find_9 : decode cX5_find 9 = .ok (.iconst 0, 1) := by decide +kernel
theorem dX5_find_10 : decode cX5_find 10 = .ok (.iconst 2, 1) := by decide +kernel
theorem dX5_find_11 : decode cX5_find 11 = .ok (.invokestatic 89, 3) := by decide +kernel
theorem dX5_find_14 : decode cX5_find 14 = .ok (.ifCond .eq 12, 3) := by decide +kernel
theorem dX5_find_17 : decode cX5_find 17 = .ok (.aload_n 0, 1) := by decide +kernel
theorem dX5_find_18 : decode cX5_find 18 = .ok (.iload_n 1, 1) := by decide +kernel
theorem dX5_find_19 : decode cX5_find 19 = .ok (.iload_n 2, 1) := by decide +kernel
theorem dX5_find_20 : decode cX5_find 20 = .ok (.invokevirtual 134, 3) := by decide +kernel
theorem dX5_find_23 : decode cX5_find 23 = .ok (.goto 5, 3) := by decide +kernel
theorem dX5_find_26 : decode cX5_find 26 = .ok (.bipush (-2), 2) := by decide +kernel
theorem dX5_find_28 : decode cX5_find 28 = .ok (.ireturn, 1) := by decide +kernel
theorem dX5_depth_0 : decode cX5_depth 0 = .ok (.iload_n 1, 1) := by decide +kernel
theorem dX5_depth_1 : decode cX5_depth 1 = .ok (.iconst 0, 1) := by decide +kernel
theorem dX5_depth_2 : decode cX5_depth 2 = .ok (.bipush 55, 2) := by decide +kernel
theorem dX5_depth_4 : decode cX5_depth 4 = .ok (.invokestatic 89, 3) := by decide +kernel
theorem dX5_depth_7 : decode cX5_depth 7 = .ok (.ifCond .ne 6, 3) := by decide +kernel
theorem dX5_depth_10 : decode cX5_depth 10 = .ok (.bipush (-2), 2) := by decide +kernel
theorem dX5_depth_12 : decode cX5_depth 12 = .ok (.ireturn, 1) := by decide +kernel
theorem dX5_depth_13 : decode cX5_depth 13 = .ok (.aload_n 0, 1) := by decide +kernel
theorem dX5_depth_14 : decode cX5_depth 14 = .ok (.getfield 137, 3) := by decide +kernel
theorem dX5_depth_17 : decode cX5_depth 17 = .ok (.istore_n 2, 1) := by decide +kernel
theorem dX5_depth_18 : decode cX5_depth 18 = .ok (.aload_n 0, 1) := by decide +kernel
theorem dX5_depth_19 : decode cX5_depth 19 = .ok (.iload_n 1, 1) := by decide +kernel
theorem dX5_depth_20 : decode cX5_depth 20 = .ok (.putfield 137, 3) := by decide +kernel
theorem dX5_depth_23 : decode cX5_depth 23 = .ok (.iload_n 2, 1) := by decide +kernel
theorem dX5_depth_24 : decode cX5_depth 24 = .ok (.ireturn, 1) := by decide +kernel
theorem dX5_slip_0 : decode cX5_slip 0 = .ok (.iload_n 1, 1) := by decide +kernel
theorem dX5_slip_1 : decode cX5_slip 1 = .ok (.iconst 1, 1) := by decide +kernel
theorem dX5_slip_2 : decode cX5_slip 2 = .ok (.sipush 240, 3) := by decide +kernel
theorem dX5_slip_5 : decode cX5_slip 5 = .ok (.invokestatic 89, 3) := by decide +kernel
theorem dX5_slip_8 : decode cX5_slip 8 = .ok (.ifCond .eq 13, 3) := by decide +kernel
theorem dX5_slip_11 : decode cX5_slip 11 = .ok (.iload_n 2, 1) := by decide +kernel
theorem dX5_slip_12 : decode cX5_slip 12 = .ok (.iconst 1, 1) := by decide +kernel
theorem dX5_slip_13 : decode cX5_slip 13 = .ok (.bipush 11, 2) := by decide +kernel
theorem dX5_slip_15 : decode cX5_slip 15 = .ok (.invokestatic 89, 3) := by decide +kernel
theorem dX5_slip_18 : decode cX5_slip 18 = .ok (.ifCond .ne 6, 3) := by decide +kernel
theorem dX5_slip_21 : decode cX5_slip 21 = .ok (.bipush (-2), 2) := by decide +kernel
theorem dX5_slip_23 : decode cX5_slip 23 = .ok (.ireturn, 1) := by decide +kernel
theorem dX5_slip_24 : decode cX5_slip 24 = .ok (.aload_n 0, 1) := by decide +kernel
theorem dX5_slip_25 : decode cX5_slip 25 = .ok (.getfield 140, 3) := by decide +kernel
theorem dX5_slip_28 : decode cX5_slip 28 = .ok (.bipush 12, 2) := by decide +kernel
theorem dX5_slip_30 : decode cX5_slip 30 = .ok (.if_icmp .ne 6, 3) := by decide +kernel
theorem dX5_slip_33 : decode cX5_slip 33 = .ok (.bipush (-4), 2) := by decide +kernel
theorem dX5_slip_35 : decode cX5_slip 35 = .ok (.ireturn, 1) := by decide +kernel
theorem dX5_slip_36 : decode cX5_slip 36 = .ok (.aload_n 0, 1) := by decide +kernel
theorem dX5_slip_37 : decode cX5_slip 37 = .ok (.getfield 34, 3) := by decide +kernel
theorem dX5_slip_40 : decode cX5_slip 40 = .ok (.aload_n 0, 1) := by decide +kernel
theorem dX5_slip_41 : decode cX5_slip 41 = .ok (.getfield 140, 3) := by decide +kernel
theorem dX5_slip_44 : decode cX5_slip 44 = .ok (.iload_n 1, 1) := by decide +kernel
theorem dX5_slip_45 : decode cX5_slip 45 = .ok (.iastore, 1) := by decide +kernel
theorem dX5_slip_46 : decode cX5_slip 46 = .ok (.aload_n 0, 1) := by decide +kernel
theorem dX5_slip_47 : decode cX5_slip 47 = .ok (.getfield 37, 3) := by decide +kernel
theorem dX5_slip_50 : decode cX5_slip 50 = .ok (.aload_n 0, 1) := by decide +kernel
theorem dX5_slip_51 : decode cX5_slip 51 = .ok (.getfield 140, 3) := by decide +kernel
theorem dX5_slip_54 : decode cX5_slip 54 = .ok (.iload_n 2, 1) := by decide +kernel
theorem dX5_slip_55 : decode cX5_slip 55 = .ok (.iastore, 1) := by decide +kernel
theorem dX5_slip_56 : decode cX5_slip 56 = .ok (.aload_n 0, 1) := by decide +kernel
theorem dX5_slip_57 : decode cX5_slip 57 = .ok (.dup, 1) := by decide +kernel
theorem dX5_slip_58 : decode cX5_slip 58 = .ok (.getfield 140, 3) := by decide +kernel
theorem dX5_slip_61 : decode cX5_slip 61 = .ok (.iconst 1, 1) := by decide +kernel
theorem dX5_slip_62 : decode cX5_slip 62 = .ok (.iadd, 1) := by decide +kernel
theorem dX5_slip_63 : decode cX5_slip 63 = .ok (.putfield 140, 3) := by decide +kernel
theorem dX5_slip_66 : decode cX5_slip 66 = .ok (.aload_n 0, 1) := by decide +kernel
theorem dX5_slip_67 : decode cX5_slip 67 = .ok (.getfield 140, 3) := by decide +kernel
theorem dX5_slip_70 : decode cX5_slip 70 = .ok (.ireturn, 1) := by decide +kernel
theorem dX5_wake_0 : decode cX5_wake 0 = .ok (.iload_n 1, 1) := by decide +kernel
theorem dX5_wake_1 : decode cX5_wake 1 = .ok (.invokestatic 143, 3) := by decide +kernel
theorem dX5_wake_4 : decode cX5_wake 4 = .ok (.ifCond .ne 6, 3) := by decide +kernel
theorem dX5_wake_7 : decode cX5_wake 7 = .ok (.bipush (-2), 2) := by decide +kernel
theorem dX5_wake_9 : decode cX5_wake 9 = .ok (.ireturn, 1) := by decide +kernel
theorem dX5_wake_10 : decode cX5_wake 10 = .ok (.aload_n 0, 1) := by decide +kernel
theorem dX5_wake_11 : decode cX5_wake 11 = .ok (.getfield 146, 3) := by decide +kernel
theorem dX5_wake_14 : decode cX5_wake 14 = .ok (.bipush 8, 2) := by decide +kernel
theorem dX5_wake_16 : decode cX5_wake 16 = .ok (.if_icmp .ne 6, 3) := by decide +kernel
theorem dX5_wake_19 : decode cX5_wake 19 = .ok (.bipush (-4), 2) := by decide +kernel
theorem dX5_wake_21 : decode cX5_wake 21 = .ok (.ireturn, 1) := by decide +kernel
theorem dX5_wake_22 : decode cX5_wake 22 = .ok (.aload_n 0, 1) := by decide +kernel
theorem dX5_wake_23 : decode cX5_wake 23 = .ok (.getfield 40, 3) := by decide +kernel
theorem dX5_wake_26 : decode cX5_wake 26 = .ok (.aload_n 0, 1) := by decide +kernel
theorem dX5_wake_27 : decode cX5_wake 27 = .ok (.getfield 146, 3) := by decide +kernel
theorem dX5_wake_30 : decode cX5_wake 30 = .ok (.iload_n 1, 1) := by decide +kernel
theorem dX5_wake_31 : decode cX5_wake 31 = .ok (.iastore, 1) := by decide +kernel
theorem dX5_wake_32 : decode cX5_wake 32 = .ok (.aload_n 0, 1) := by decide +kernel
theorem dX5_wake_33 : decode cX5_wake 33 = .ok (.dup, 1) := by decide +kernel
theorem dX5_wake_34 : decode cX5_wake 34 = .ok (.getfield 146, 3) := by decide +kernel
theorem dX5_wake_37 : decode cX5_wake 37 = .ok (.iconst 1, 1) := by decide +kernel
theorem dX5_wake_38 : decode cX5_wake 38 = .ok (.iadd, 1) := by decide +kernel
theorem dX5_wake_39 : decode cX5_wake 39 = .ok (.putfield 146, 3) := by decide +kernel
theorem dX5_wake_42 : decode cX5_wake 42 = .ok (.aload_n 0, 1) := by decide +kernel
theorem dX5_wake_43 : decode cX5_wake 43 = .ok (.getfield 146, 3) := by decide +kernel
theorem dX5_wake_46 : decode cX5_wake 46 = .ok (.ireturn, 1) := by decide +kernel
theorem dX5_ticket_0 : decode cX5_ticket 0 = .ok (.iload_n 1, 1) := by decide +kernel
theorem dX5_ticket_1 : decode cX5_ticket 1 = .ok (.iconst 0, 1) := by decide +kernel
theorem dX5_ticket_2 : decode cX5_ticket 2 = .ok (.bipush 7, 2) := by decide +kernel
theorem dX5_ticket_4 : decode cX5_ticket 4 = .ok (.invokestatic 89, 3) := by decide +kernel
theorem dX5_ticket_7 : decode cX5_ticket 7 = .ok (.ifCond .eq 10, 3) := by decide +kernel
theorem dX5_ticket_10 : decode cX5_ticket 10 = .ok (.iload_n 2, 1) := by decide +kernel
theorem dX5_ticket_11 : decode cX5_ticket 11 = .ok (.invokestatic 149, 3) := by decide +kernel
theorem dX5_ticket_14 : decode cX5_ticket 14 = .ok (.ifCond .ne 6, 3) := by decide +kernel
theorem dX5_ticket_17 : decode cX5_ticket 17 = .ok (.bipush (-2), 2) := by decide +kernel
theorem dX5_ticket_19 : decode cX5_ticket 19 = .ok (.ireturn, 1) := by decide +kernel
theorem dX5_ticket_20 : decode cX5_ticket 20 = .ok (.aload_n 0, 1) := by decide +kernel
theorem dX5_ticket_21 : decode cX5_ticket 21 = .ok (.getfield 152, 3) := by decide +kernel
theorem dX5_ticket_24 : decode cX5_ticket 24 = .ok (.bipush 12, 2) := by decide +kernel
theorem dX5_ticket_26 : decode cX5_ticket 26 = .ok (.if_icmp .ne 6, 3) := by decide +kernel
theorem dX5_ticket_29 : decode cX5_ticket 29 = .ok (.bipush (-4), 2) := by decide +kernel
theorem dX5_ticket_31 : decode cX5_ticket 31 = .ok (.ireturn, 1) := by decide +kernel
theorem dX5_ticket_32 : decode cX5_ticket 32 = .ok (.aload_n 0, 1) := by decide +kernel
theorem dX5_ticket_33 : decode cX5_ticket 33 = .ok (.getfield 43, 3) := by decide +kernel
theorem dX5_ticket_36 : decode cX5_ticket 36 = .ok (.aload_n 0, 1) := by decide +kernel
theorem dX5_ticket_37 : decode cX5_ticket 37 = .ok (.getfield 152, 3) := by decide +kernel
theorem dX5_ticket_40 : decode cX5_ticket 40 = .ok (.iload_n 1, 1) := by decide +kernel
theorem dX5_ticket_41 : decode cX5_ticket 41 = .ok (.iastore, 1) := by decide +kernel
theorem dX5_ticket_42 : decode cX5_ticket 42 = .ok (.aload_n 0, 1) := by decide +kernel
theorem dX5_ticket_43 : decode cX5_ticket 43 = .ok (.getfield 46, 3) := by decide +kernel
theorem dX5_ticket_46 : decode cX5_ticket 46 = .ok (.aload_n 0, 1) := by decide +kernel
theorem dX5_ticket_47 : decode cX5_ticket 47 = .ok (.getfield 152, 3) := by decide +kernel
theorem dX5_ticket_50 : decode cX5_ticket 50 = .ok (.iload_n 2, 1) := by decide +kernel
theorem dX5_ticket_51 : decode cX5_ticket 51 = .ok (.iastore, 1) := by decide +kernel
theorem dX5_ticket_52 : decode cX5_ticket 52 = .ok (.aload_n 0, 1) := by decide +kernel
theorem dX5_ticket_53 : decode cX5_ticket 53 = .ok (.dup, 1) := by decide +kernel
theorem dX5_ticket_54 : decode cX5_ticket 54 = .ok (.getfield 152, 3) := by decide +kernel
theorem dX5_ticket_57 : decode cX5_ticket 57 = .ok (.iconst 1, 1) := by decide +kernel
theorem dX5_ticket_58 : decode cX5_ticket 58 = .ok (.iadd, 1) := by decide +kernel
theorem dX5_ticket_59 : decode cX5_ticket 59 = .ok (.putfield 152, 3) := by decide +kernel
theorem dX5_ticket_62 : decode cX5_ticket 62 = .ok (.aload_n 0, 1) := by decide +kernel
theorem dX5_ticket_63 : decode cX5_ticket 63 = .ok (.getfield 152, 3) := by decide +kernel
theorem dX5_ticket_66 : decode cX5_ticket 66 = .ok (.ireturn, 1) := by decide +kernel
theorem dX5_back_0 : decode cX5_back 0 = .ok (.iload_n 1, 1) := by decide +kernel
theorem dX5_back_1 : decode cX5_back 1 = .ok (.iconst 0, 1) := by decide +kernel
theorem dX5_back_2 : decode cX5_back 2 = .ok (.iconst 2, 1) := by decide +kernel
theorem dX5_back_3 : decode cX5_back 3 = .ok (.invokestatic 89, 3) := by decide +kernel
theorem dX5_back_6 : decode cX5_back 6 = .ok (.ifCond .ne 6, 3) := by decide +kernel
theorem dX5_back_9 : decode cX5_back 9 = .ok (.bipush (-2), 2) := by decide +kernel
theorem dX5_back_11 : decode cX5_back 11 = .ok (.ireturn, 1) := by decide +kernel
theorem dX5_back_12 : decode cX5_back 12 = .ok (.iload_n 1, 1) := by decide +kernel
theorem dX5_back_13 : decode cX5_back 13 = .ok (.ifCond .ne 10, 3) := by decide +kernel
theorem dX5_back_16 : decode cX5_back 16 = .ok (.aload_n 0, 1) := by decide +kernel
theorem dX5_back_17 : decode cX5_back 17 = .ok (.getfield 140, 3) := by decide +kernel
theorem dX5_back_20 : decode cX5_back 20 = .ok (.goto 19, 3) := by decide +kernel
theorem dX5_back_23 : decode cX5_back 23 = .ok (.iload_n 1, 1) := by decide +kernel
theorem dX5_back_24 : decode cX5_back 24 = .ok (.iconst 1, 1) := by decide +kernel
theorem dX5_back_25 : decode cX5_back 25 = .ok (.if_icmp .ne 10, 3) := by decide +kernel
theorem dX5_back_28 : decode cX5_back 28 = .ok (.aload_n 0, 1) := by decide +kernel
theorem dX5_back_29 : decode cX5_back 29 = .ok (.getfield 146, 3) := by decide +kernel
theorem dX5_back_32 : decode cX5_back 32 = .ok (.goto 7, 3) := by decide +kernel
theorem dX5_back_35 : decode cX5_back 35 = .ok (.aload_n 0, 1) := by decide +kernel
theorem dX5_back_36 : decode cX5_back 36 = .ok (.getfield 152, 3) := by decide +kernel
theorem dX5_back_39 : decode cX5_back 39 = .ok (.istore_n 2, 1) := by decide +kernel
theorem dX5_back_40 : decode cX5_back 40 = .ok (.iload_n 2, 1) := by decide +kernel
theorem dX5_back_41 : decode cX5_back 41 = .ok (.ifCond .ne 6, 3) := by decide +kernel
theorem dX5_back_44 : decode cX5_back 44 = .ok (.bipush (-3), 2) := by decide +kernel
theorem dX5_back_46 : decode cX5_back 46 = .ok (.ireturn, 1) := by decide +kernel
theorem dX5_back_47 : decode cX5_back 47 = .ok (.aload_n 0, 1) := by decide +kernel
theorem dX5_back_48 : decode cX5_back 48 = .ok (.dup, 1) := by decide +kernel
theorem dX5_back_49 : decode cX5_back 49 = .ok (.getfield 140, 3) := by decide +kernel
theorem dX5_back_52 : decode cX5_back 52 = .ok (.iload_n 1, 1) := by decide +kernel
theorem dX5_back_53 : decode cX5_back 53 = .ok (.ifCond .ne 7, 3) := by decide +kernel
theorem dX5_back_56 : decode cX5_back 56 = .ok (.iconst 1, 1) := by decide +kernel
theorem dX5_back_57 : decode cX5_back 57 = .ok (.goto 4, 3) := by decide +kernel
theorem dX5_back_60 : decode cX5_back 60 = .ok (.iconst 0, 1) := by decide +kernel
theorem dX5_back_61 : decode cX5_back 61 = .ok (.isub, 1) := by decide +kernel
theorem dX5_back_62 : decode cX5_back 62 = .ok (.putfield 140, 3) := by decide +kernel
theorem dX5_back_65 : decode cX5_back 65 = .ok (.aload_n 0, 1) := by decide +kernel
theorem dX5_back_66 : decode cX5_back 66 = .ok (.dup, 1) := by decide +kernel
theorem dX5_back_67 : decode cX5_back 67 = .ok (.getfield 146, 3) := by decide +kernel
theorem dX5_back_70 : decode cX5_back 70 = .ok (.iload_n 1, 1) := by decide +kernel
theorem dX5_back_71 : decode cX5_back 71 = .ok (.iconst 1, 1) := by decide +kernel
theorem dX5_back_72 : decode cX5_back 72 = .ok (.if_icmp .ne 7, 3) := by decide +kernel
theorem dX5_back_75 : decode cX5_back 75 = .ok (.iconst 1, 1) := by decide +kernel
theorem dX5_back_76 : decode cX5_back 76 = .ok (.goto 4, 3) := by decide +kernel
theorem dX5_back_79 : decode cX5_back 79 = .ok (.iconst 0, 1) := by decide +kernel
theorem dX5_back_80 : decode cX5_back 80 = .ok (.isub, 1) := by decide +kernel
theorem dX5_back_81 : decode cX5_back 81 = .ok (.putfield 146, 3) := by decide +kernel
theorem dX5_back_84 : decode cX5_back 84 = .ok (.aload_n 0, 1) := by decide +kernel
theorem dX5_back_85 : decode cX5_back 85 = .ok (.dup, 1) := by decide +kernel
theorem dX5_back_86 : decode cX5_back 86 = .ok (.getfield 152, 3) := by decide +kernel
theorem dX5_back_89 : decode cX5_back 89 = .ok (.iload_n 1, 1) := by decide +kernel
theorem dX5_back_90 : decode cX5_back 90 = .ok (.iconst 2, 1) := by decide +kernel
theorem dX5_back_91 : decode cX5_back 91 = .ok (.if_icmp .ne 7, 3) := by decide +kernel
theorem dX5_back_94 : decode cX5_back 94 = .ok (.iconst 1, 1) := by decide +kernel
theorem dX5_back_95 : decode cX5_back 95 = .ok (.goto 4, 3) := by decide +kernel
theorem dX5_back_98 : decode cX5_back 98 = .ok (.iconst 0, 1) := by decide +kernel
theorem dX5_back_99 : decode cX5_back 99 = .ok (.isub, 1) := by decide +kernel
theorem dX5_back_100 : decode cX5_back 100 = .ok (.putfield 152, 3) := by decide +kernel
theorem dX5_back_103 : decode cX5_back 103 = .ok (.iload_n 2, 1) := by decide +kernel
theorem dX5_back_104 : decode cX5_back 104 = .ok (.iconst 1, 1) := by decide +kernel
theorem dX5_back_105 : decode cX5_back 105 = .ok (.isub, 1) := by decide +kernel
theorem dX5_back_106 : decode cX5_back 106 = .ok (.ireturn, 1) := by decide +kernel
theorem dX5_read_0 : decode cX5_read 0 = .ok (.iload_n 1, 1) := by decide +kernel
theorem dX5_read_1 : decode cX5_read 1 = .ok (.invokestatic 155, 3) := by decide +kernel
theorem dX5_read_4 : decode cX5_read 4 = .ok (.ifCond .ne 6, 3) := by decide +kernel
theorem dX5_read_7 : decode cX5_read 7 = .ok (.bipush (-2), 2) := by decide +kernel
theorem dX5_read_9 : decode cX5_read 9 = .ok (.ireturn, 1) := by decide +kernel
theorem dX5_read_10 : decode cX5_read 10 = .ok (.aload_n 0, 1) := by decide +kernel
theorem dX5_read_11 : decode cX5_read 11 = .ok (.getfield 72, 3) := by decide +kernel
theorem dX5_read_14 : decode cX5_read 14 = .ok (.iload_n 1, 1) := by decide +kernel
theorem dX5_read_15 : decode cX5_read 15 = .ok (.baload, 1) := by decide +kernel
theorem dX5_read_16 : decode cX5_read 16 = .ok (.ifCond .ne 9, 3) := by decide +kernel
theorem dX5_read_19 : decode cX5_read 19 = .ok (.aload_n 0, 1) := by decide +kernel
theorem dX5_read_20 : decode cX5_read 20 = .ok (.iconst 1, 1) := by decide +kernel
theorem dX5_read_21 : decode cX5_read 21 = .ok (.invokevirtual 158, 3) := by decide +kernel
theorem dX5_read_24 : decode cX5_read 24 = .ok (.ireturn, 1) := by decide +kernel
theorem dX5_read_25 : decode cX5_read 25 = .ok (.iconst 0, 1) := by decide +kernel
theorem dX5_read_26 : decode cX5_read 26 = .ok (.istore_n 2, 1) := by decide +kernel
theorem dX5_read_27 : decode cX5_read 27 = .ok (.iconst 2, 1) := by decide +kernel
theorem dX5_read_28 : decode cX5_read 28 = .ok (.iload_n 2, 1) := by decide +kernel
theorem dX5_read_29 : decode cX5_read 29 = .ok (.imul, 1) := by decide +kernel
theorem dX5_read_30 : decode cX5_read 30 = .ok (.iconst 1, 1) := by decide +kernel
theorem dX5_read_31 : decode cX5_read 31 = .ok (.iadd, 1) := by decide +kernel
theorem dX5_read_32 : decode cX5_read 32 = .ok (.aload_n 0, 1) := by decide +kernel
theorem dX5_read_33 : decode cX5_read 33 = .ok (.getfield 78, 3) := by decide +kernel
theorem dX5_read_36 : decode cX5_read 36 = .ok (.iload_n 1, 1) := by decide +kernel
theorem dX5_read_37 : decode cX5_read 37 = .ok (.iaload, 1) := by decide +kernel
theorem dX5_read_38 : decode cX5_read 38 = .ok (.if_icmp .ge 44, 3) := by decide +kernel
theorem dX5_read_41 : decode cX5_read 41 = .ok (.aload_n 0, 1) := by decide +kernel
theorem dX5_read_42 : decode cX5_read 42 = .ok (.aload_n 0, 1) := by decide +kernel
theorem dX5_read_43 : decode cX5_read 43 = .ok (.getfield 81, 3) := by decide +kernel
theorem dX5_read_46 : decode cX5_read 46 = .ok (.bipush 48, 2) := by decide +kernel
theorem dX5_read_48 : decode cX5_read 48 = .ok (.iload_n 1, 1) := by decide +kernel
theorem dX5_read_49 : decode cX5_read 49 = .ok (.imul, 1) := by decide +kernel
theorem dX5_read_50 : decode cX5_read 50 = .ok (.iconst 2, 1) := by decide +kernel
theorem dX5_read_51 : decode cX5_read 51 = .ok (.iload_n 2, 1) := by decide +kernel
theorem dX5_read_52 : decode cX5_read 52 = .ok (.imul, 1) := by decide +kernel
theorem dX5_read_53 : decode cX5_read 53 = .ok (.iadd, 1) := by decide +kernel
theorem dX5_read_54 : decode cX5_read 54 = .ok (.iaload, 1) := by decide +kernel
theorem dX5_read_55 : decode cX5_read 55 = .ok (.aload_n 0, 1) := by decide +kernel
theorem dX5_read_56 : decode cX5_read 56 = .ok (.getfield 81, 3) := by decide +kernel
theorem dX5_read_59 : decode cX5_read 59 = .ok (.bipush 48, 2) := by decide +kernel
theorem dX5_read_61 : decode cX5_read 61 = .ok (.iload_n 1, 1) := by decide +kernel
theorem dX5_read_62 : decode cX5_read 62 = .ok (.imul, 1) := by decide +kernel
theorem dX5_read_63 : decode cX5_read 63 = .ok (.iconst 2, 1) := by decide +kernel
theorem dX5_read_64 : decode cX5_read 64 = .ok (.iload_n 2, 1) := by decide +kernel
theorem dX5_read_65 : decode cX5_read 65 = .ok (.imul, 1) := by decide +kernel
theorem dX5_read_66 : decode cX5_read 66 = .ok (.iadd, 1) := by decide +kernel
theorem dX5_read_67 : decode cX5_read 67 = .ok (.iconst 1, 1) := by decide +kernel
theorem dX5_read_68 : decode cX5_read 68 = .ok (.iadd, 1) := by decide +kernel
theorem dX5_read_69 : decode cX5_read 69 = .ok (.iaload, 1) := by decide +kernel
theorem dX5_read_70 : decode cX5_read 70 = .ok (.invokevirtual 161, 3) := by decide +kernel
theorem dX5_read_73 : decode cX5_read 73 = .ok (.ifCond .le 9, 3) := by decide +kernel
theorem dX5_read_76 : decode cX5_read 76 = .ok (.iinc 2 1, 3) := by decide +kernel
theorem dX5_read_79 : decode cX5_read 79 = .ok (.goto (-52), 3) := by decide +kernel
theorem dX5_read_82 : decode cX5_read 82 = .ok (.iload_n 2, 1) := by decide +kernel
theorem dX5_read_83 : decode cX5_read 83 = .ok (.ireturn, 1) := by decide +kernel
theorem dX5_asTold_0 : decode cX5_asTold 0 = .ok (.aload_n 0, 1) := by decide +kernel
theorem dX5_asTold_1 : decode cX5_asTold 1 = .ok (.aload_n 0, 1) := by decide +kernel
theorem dX5_asTold_2 : decode cX5_asTold 2 = .ok (.getfield 140, 3) := by decide +kernel
theorem dX5_asTold_5 : decode cX5_asTold 5 = .ok (.putfield 164, 3) := by decide +kernel
theorem dX5_asTold_8 : decode cX5_asTold 8 = .ok (.aload_n 0, 1) := by decide +kernel
theorem dX5_asTold_9 : decode cX5_asTold 9 = .ok (.aload_n 0, 1) := by decide +kernel
theorem dX5_asTold_10 : decode cX5_asTold 10 = .ok (.getfield 146, 3) := by decide +kernel
theorem dX5_asTold_13 : decode cX5_asTold 13 = .ok (.putfield 167, 3) := by decide +kernel
theorem dX5_asTold_16 : decode cX5_asTold 16 = .ok (.aload_n 0, 1) := by decide +kernel
theorem dX5_asTold_17 : decode cX5_asTold 17 = .ok (.aload_n 0, 1) := by decide +kernel
theorem dX5_asTold_18 : decode cX5_asTold 18 = .ok (.getfield 152, 3) := by decide +kernel
theorem dX5_asTold_21 : decode cX5_asTold 21 = .ok (.putfield 170, 3) := by decide +kernel
theorem dX5_asTold_24 : decode cX5_asTold 24 = .ok (.return_, 1) := by decide +kernel
theorem dX5_isWake_0 : decode cX5_isWake 0 = .ok (.iconst 0, 1) := by decide +kernel
theorem dX5_isWake_1 : decode cX5_isWake 1 = .ok (.istore_n 2, 1) := by decide +kernel
theorem dX5_isWake_2 : decode cX5_isWake 2 = .ok (.iconst 0, 1) := by decide +kernel
theorem dX5_isWake_3 : decode cX5_isWake 3 = .ok (.istore_n 3, 1) := by decide +kernel
theorem dX5_isWake_4 : decode cX5_isWake 4 = .ok (.iload_n 3, 1) := by decide +kernel
theorem dX5_isWake_5 : decode cX5_isWake 5 = .ok (.aload_n 0, 1) := by decide +kernel
theorem dX5_isWake_6 : decode cX5_isWake 6 = .ok (.getfield 167, 3) := by decide +kernel
theorem dX5_isWake_9 : decode cX5_isWake 9 = .ok (.if_icmp .ge 29, 3) := by decide +kernel
theorem dX5_isWake_12 : decode cX5_isWake 12 = .ok (.iload_n 2, 1) := by decide +kernel
theorem dX5_isWake_13 : decode cX5_isWake 13 = .ok (.ifCond .ne 13, 3) := by decide +kernel
theorem dX5_isWake_16 : decode cX5_isWake 16 = .ok (.aload_n 0, 1) := by decide +kernel
theorem dX5_isWake_17 : decode cX5_isWake 17 = .ok (.getfield 40, 3) := by decide +kernel
theorem dX5_isWake_20 : decode cX5_isWake 20 = .ok (.iload_n 3, 1) := by decide +kernel
theorem dX5_isWake_21 : decode cX5_isWake 21 = .ok (.iaload, 1) := by decide +kernel
theorem dX5_isWake_22 : decode cX5_isWake 22 = .ok (.iload_n 1, 1) := by decide +kernel
theorem dX5_isWake_23 : decode cX5_isWake 23 = .ok (.if_icmp .ne 7, 3) := by decide +kernel
theorem dX5_isWake_26 : decode cX5_isWake 26 = .ok (.iconst 1, 1) := by decide +kernel
theorem dX5_isWake_27 : decode cX5_isWake 27 = .ok (.goto 4, 3) := by decide +kernel
theorem dX5_isWake_30 : decode cX5_isWake 30 = .ok (.iconst 0, 1) := by decide +kernel
theorem dX5_isWake_31 : decode cX5_isWake 31 = .ok (.istore_n 2, 1) := by decide +kernel
theorem dX5_isWake_32 : decode cX5_isWake 32 = .ok (.iinc 3 1, 3) := by decide +kernel
theorem dX5_isWake_35 : decode cX5_isWake 35 = .ok (.goto (-31), 3) := by decide +kernel
theorem dX5_isWake_38 : decode cX5_isWake 38 = .ok (.iload_n 2, 1) := by decide +kernel
theorem dX5_isWake_39 : decode cX5_isWake 39 = .ok (.ireturn, 1) := by decide +kernel
theorem dX5_skips_0 : decode cX5_skips 0 = .ok (.iconst 0, 1) := by decide +kernel
theorem dX5_skips_1 : decode cX5_skips 1 = .ok (.istore_n 2, 1) := by decide +kernel
theorem dX5_skips_2 : decode cX5_skips 2 = .ok (.iconst 0, 1) := by decide +kernel
theorem dX5_skips_3 : decode cX5_skips 3 = .ok (.istore_n 3, 1) := by decide +kernel
theorem dX5_skips_4 : decode cX5_skips 4 = .ok (.iload_n 3, 1) := by decide +kernel
theorem dX5_skips_5 : decode cX5_skips 5 = .ok (.aload_n 0, 1) := by decide +kernel
theorem dX5_skips_6 : decode cX5_skips 6 = .ok (.getfield 164, 3) := by decide +kernel
theorem dX5_skips_9 : decode cX5_skips 9 = .ok (.if_icmp .ge 32, 3) := by decide +kernel
theorem dX5_skips_12 : decode cX5_skips 12 = .ok (.iload_n 2, 1) := by decide +kernel
theorem dX5_skips_13 : decode cX5_skips 13 = .ok (.aload_n 0, 1) := by decide +kernel
theorem dX5_skips_14 : decode cX5_skips 14 = .ok (.getfield 34, 3) := by decide +kernel
theorem dX5_skips_17 : decode cX5_skips 17 = .ok (.iload_n 3, 1) := by decide +kernel
theorem dX5_skips_18 : decode cX5_skips 18 = .ok (.iaload, 1) := by decide +kernel
theorem dX5_skips_19 : decode cX5_skips 19 = .ok (.iload_n 1, 1) := by decide +kernel
theorem dX5_skips_20 : decode cX5_skips 20 = .ok (.if_icmp .ne 12, 3) := by decide +kernel
theorem dX5_skips_23 : decode cX5_skips 23 = .ok (.aload_n 0, 1) := by decide +kernel
theorem dX5_skips_24 : decode cX5_skips 24 = .ok (.getfield 37, 3) := by decide +kernel
theorem dX5_skips_27 : decode cX5_skips 27 = .ok (.iload_n 3, 1) := by decide +kernel
theorem dX5_skips_28 : decode cX5_skips 28 = .ok (.iaload, 1) := by decide +kernel
theorem dX5_skips_29 : decode cX5_skips 29 = .ok (.goto 4, 3) := by decide +kernel
theorem dX5_skips_32 : decode cX5_skips 32 = .ok (.iconst 0, 1) := by decide +kernel
theorem dX5_skips_33 : decode cX5_skips 33 = .ok (.iadd, 1) := by decide +kernel
theorem dX5_skips_34 : decode cX5_skips 34 = .ok (.istore_n 2, 1) := by decide +kernel
theorem dX5_skips_35 : decode cX5_skips 35 = .ok (.iinc 3 1, 3) := by decide +kernel
theorem dX5_skips_38 : decode cX5_skips 38 = .ok (.goto (-34), 3) := by decide +kernel
theorem dX5_skips_41 : decode cX5_skips 41 = .ok (.iload_n 2, 1) := by decide +kernel
theorem dX5_skips_42 : decode cX5_skips 42 = .ok (.ireturn, 1) := by decide +kernel
theorem dX5_isCrest_0 : decode cX5_isCrest 0 = .ok (.iload_n 2, 1) := by decide +kernel
theorem dX5_isCrest_1 : decode cX5_isCrest 1 = .ok (.aload_n 0, 1) := by decide +kernel
theorem dX5_isCrest_2 : decode cX5_isCrest 2 = .ok (.getfield 22, 3) := by decide +kernel
theorem dX5_isCrest_5 : decode cX5_isCrest 5 = .ok (.iload_n 1, 1) := by decide +kernel
theorem dX5_isCrest_6 : decode cX5_isCrest 6 = .ok (.iaload, 1) := by decide +kernel
theorem dX5_isCrest_7 : decode cX5_isCrest 7 = .ok (.if_icmp .lt 25, 3) := by decide +kernel
theorem dX5_isCrest_10 : decode cX5_isCrest 10 = .ok (.iload_n 2, 1) := by decide +kernel
theorem dX5_isCrest_11 : decode cX5_isCrest 11 = .ok (.aload_n 0, 1) := by decide +kernel
theorem dX5_isCrest_12 : decode cX5_isCrest 12 = .ok (.getfield 22, 3) := by decide +kernel
theorem dX5_isCrest_15 : decode cX5_isCrest 15 = .ok (.iload_n 1, 1) := by decide +kernel
theorem dX5_isCrest_16 : decode cX5_isCrest 16 = .ok (.iaload, 1) := by decide +kernel
theorem dX5_isCrest_17 : decode cX5_isCrest 17 = .ok (.isub, 1) := by decide +kernel
theorem dX5_isCrest_18 : decode cX5_isCrest 18 = .ok (.aload_n 0, 1) := by decide +kernel
theorem dX5_isCrest_19 : decode cX5_isCrest 19 = .ok (.getfield 19, 3) := by decide +kernel
theorem dX5_isCrest_22 : decode cX5_isCrest 22 = .ok (.iload_n 1, 1) := by decide +kernel
theorem dX5_isCrest_23 : decode cX5_isCrest 23 = .ok (.iaload, 1) := by decide +kernel
theorem dX5_isCrest_24 : decode cX5_isCrest 24 = .ok (.irem, 1) := by decide +kernel
theorem dX5_isCrest_25 : decode cX5_isCrest 25 = .ok (.ifCond .ne 7, 3) := by decide +kernel
theorem dX5_isCrest_28 : decode cX5_isCrest 28 = .ok (.iconst 1, 1) := by decide +kernel
theorem dX5_isCrest_29 : decode cX5_isCrest 29 = .ok (.goto 4, 3) := by decide +kernel
theorem dX5_isCrest_32 : decode cX5_isCrest 32 = .ok (.iconst 0, 1) := by decide +kernel
theorem dX5_isCrest_33 : decode cX5_isCrest 33 = .ok (.ireturn, 1) := by decide +kernel
theorem dX5_breaks_0 : decode cX5_breaks 0 = .ok (.aload_n 0, 1) := by decide +kernel
theorem dX5_breaks_1 : decode cX5_breaks 1 = .ok (.getfield 49, 3) := by decide +kernel
theorem dX5_breaks_4 : decode cX5_breaks 4 = .ok (.iload_n 1, 1) := by decide +kernel
theorem dX5_breaks_5 : decode cX5_breaks 5 = .ok (.iaload, 1) := by decide +kernel
theorem dX5_breaks_6 : decode cX5_breaks 6 = .ok (.ifCond .le 20, 3) := by decide +kernel
theorem dX5_breaks_9 : decode cX5_breaks 9 = .ok (.aload_n 0, 1) := by decide +kernel
theorem dX5_breaks_10 : decode cX5_breaks 10 = .ok (.getfield 49, 3) := by decide +kernel
theorem dX5_breaks_13 : decode cX5_breaks 13 = .ok (.iload_n 1, 1) := by decide +kernel
theorem dX5_breaks_14 : decode cX5_breaks 14 = .ok (.iaload, 1) := by decide +kernel
theorem dX5_breaks_15 : decode cX5_breaks 15 = .ok (.aload_n 0, 1) := by decide +kernel
theorem dX5_breaks_16 : decode cX5_breaks 16 = .ok (.getfield 137, 3) := by decide +kernel
theorem dX5_breaks_19 : decode cX5_breaks 19 = .ok (.if_icmp .lt 7, 3) := by decide +kernel
theorem dX5_breaks_22 : decode cX5_breaks 22 = .ok (.iconst 1, 1) := by decide +kernel
theorem dX5_breaks_23 : decode cX5_breaks 23 = .ok (.goto 4, 3) := by decide +kernel
theorem dX5_breaks_26 : decode cX5_breaks 26 = .ok (.iconst 0, 1) := by decide +kernel
theorem dX5_breaks_27 : decode cX5_breaks 27 = .ok (.ireturn, 1) := by decide +kernel
theorem dX5_lays_0 : decode cX5_lays 0 = .ok (.aload_n 0, 1) := by decide +kernel
theorem dX5_lays_1 : decode cX5_lays 1 = .ok (.iconst 0, 1) := by decide +kernel
theorem dX5_lays_2 : decode cX5_lays 2 = .ok (.putfield 173, 3) := by decide +kernel
theorem dX5_lays_5 : decode cX5_lays 5 = .ok (.aload_n 0, 1) := by decide +kernel
theorem dX5_lays_6 : decode cX5_lays 6 = .ok (.iconst 0, 1) := by decide +kernel
theorem dX5_lays_7 : decode cX5_lays 7 = .ok (.putfield 176, 3) := by decide +kernel
theorem dX5_lays_10 : decode cX5_lays 10 = .ok (.iconst 0, 1) := by decide +kernel
theorem dX5_lays_11 : decode cX5_lays 11 = .ok (.istore_n 1, 1) := by decide +kernel
theorem dX5_lays_12 : decode cX5_lays 12 = .ok (.iload_n 1, 1) := by decide +kernel
theorem dX5_lays_13 : decode cX5_lays 13 = .ok (.sipush 240, 3) := by decide +kernel
theorem dX5_lays_16 : decode cX5_lays 16 = .ok (.if_icmp .ge 152, 3) := by decide +kernel
theorem dX5_lays_19 : decode cX5_lays 19 = .ok (.aload_n 0, 1) := by decide +kernel
theorem dX5_lays_20 : decode cX5_lays 20 = .ok (.getfield 49, 3) := by decide +kernel
theorem dX5_lays_23 : decode cX5_lays 23 = .ok (.iload_n 1, 1) := by decide +kernel
theorem dX5_lays_24 : decode cX5_lays 24 = .ok (.iconst 0, 1) := by decide +kernel
theorem dX5_lays_25 : decode cX5_lays 25 = .ok (.iastore, 1) := by decide +kernel
theorem dX5_lays_26 : decode cX5_lays 26 = .ok (.aload_n 0, 1) := by decide +kernel
theorem dX5_lays_27 : decode cX5_lays 27 = .ok (.getfield 52, 3) := by decide +kernel
theorem dX5_lays_30 : decode cX5_lays 30 = .ok (.iload_n 1, 1) := by decide +kernel
theorem dX5_lays_31 : decode cX5_lays 31 = .ok (.iconst 0, 1) := by decide +kernel
theorem dX5_lays_32 : decode cX5_lays 32 = .ok (.iastore, 1) := by decide +kernel
theorem dX5_lays_33 : decode cX5_lays 33 = .ok (.aload_n 0, 1) := by decide +kernel
theorem dX5_lays_34 : decode cX5_lays 34 = .ok (.getfield 55, 3) := by decide +kernel
theorem dX5_lays_37 : decode cX5_lays 37 = .ok (.iload_n 1, 1) := by decide +kernel
theorem dX5_lays_38 : decode cX5_lays 38 = .ok (.iconst 0, 1) := by decide +kernel
theorem dX5_lays_39 : decode cX5_lays 39 = .ok (.iastore, 1) := by decide +kernel
theorem dX5_lays_40 : decode cX5_lays 40 = .ok (.iconst 0, 1) := by decide +kernel
theorem dX5_lays_41 : decode cX5_lays 41 = .ok (.istore_n 2, 1) := by decide +kernel
theorem dX5_lays_42 : decode cX5_lays 42 = .ok (.iload_n 2, 1) := by decide +kernel
theorem dX5_lays_43 : decode cX5_lays 43 = .ok (.aload_n 0, 1) := by decide +kernel
theorem dX5_lays_44 : decode cX5_lays 44 = .ok (.getfield 104, 3) := by decide +kernel
theorem dX5_lays_47 : decode cX5_lays 47 = .ok (.if_icmp .ge 60, 3) := by decide +kernel
theorem dX5_lays_50 : decode cX5_lays 50 = .ok (.aload_n 0, 1) := by decide +kernel
theorem dX5_lays_51 : decode cX5_lays 51 = .ok (.getfield 49, 3) := by decide +kernel
theorem dX5_lays_54 : decode cX5_lays 54 = .ok (.iload_n 1, 1) := by decide +kernel
theorem dX5_lays_55 : decode cX5_lays 55 = .ok (.dup2, 1) := by decide +kernel
theorem dX5_lays_56 : decode cX5_lays 56 = .ok (.iaload, 1) := by decide +kernel
theorem dX5_lays_57 : decode cX5_lays 57 = .ok (.aload_n 0, 1) := by decide +kernel
theorem dX5_lays_58 : decode cX5_lays 58 = .ok (.iload_n 2, 1) := by decide +kernel
theorem dX5_lays_59 : decode cX5_lays 59 = .ok (.iload_n 1, 1) := by decide +kernel
theorem dX5_lays_60 : decode cX5_lays 60 = .ok (.invokevirtual 179, 3) := by decide +kernel
theorem dX5_lays_63 : decode cX5_lays 63 = .ok (.ifCond .eq 12, 3) := by decide +kernel
theorem dX5_lays_66 : decode cX5_lays 66 = .ok (.aload_n 0, 1) := by decide +kernel
theorem dX5_lays_67 : decode cX5_lays 67 = .ok (.getfield 16, 3) := by decide +kernel
theorem dX5_lays_70 : decode cX5_lays 70 = .ok (.iload_n 2, 1) := by decide +kernel
theorem dX5_lays_71 : decode cX5_lays 71 = .ok (.iaload, 1) := by decide +kernel
theorem dX5_lays_72 : decode cX5_lays 72 = .ok (.goto 4, 3) := by decide +kernel
theorem dX5_lays_75 : decode cX5_lays 75 = .ok (.iconst 0, 1) := by decide +kernel
theorem dX5_lays_76 : decode cX5_lays 76 = .ok (.iadd, 1) := by decide +kernel
theorem dX5_lays_77 : decode cX5_lays 77 = .ok (.iastore, 1) := by decide +kernel
theorem dX5_lays_78 : decode cX5_lays 78 = .ok (.aload_n 0, 1) := by decide +kernel
theorem dX5_lays_79 : decode cX5_lays 79 = .ok (.getfield 52, 3) := by decide +kernel
theorem dX5_lays_82 : decode cX5_lays 82 = .ok (.iload_n 1, 1) := by decide +kernel
theorem dX5_lays_83 : decode cX5_lays 83 = .ok (.dup2, 1) := by decide +kernel
theorem dX5_lays_84 : decode cX5_lays 84 = .ok (.iaload, 1) := by decide +kernel
theorem dX5_lays_85 : decode cX5_lays 85 = .ok (.aload_n 0, 1) := by decide +kernel
theorem dX5_lays_86 : decode cX5_lays 86 = .ok (.iload_n 2, 1) := by decide +kernel
theorem dX5_lays_87 : decode cX5_lays 87 = .ok (.iload_n 1, 1) := by decide +kernel
theorem dX5_lays_88 : decode cX5_lays 88 = .ok (.invokevirtual 179, 3) := by decide +kernel
theorem dX5_lays_91 : decode cX5_lays 91 = .ok (.ifCond .eq 7, 3) := by decide +kernel
theorem dX5_lays_94 : decode cX5_lays 94 = .ok (.iconst 1, 1) := by decide +kernel
theorem dX5_lays_95 : decode cX5_lays 95 = .ok (.goto 4, 3) := by decide +kernel
theorem dX5_lays_98 : decode cX5_lays 98 = .ok (.iconst 0, 1) := by decide +kernel
theorem dX5_lays_99 : decode cX5_lays 99 = .ok (.iadd, 1) := by decide +kernel
theorem dX5_lays_100 : decode cX5_lays 100 = .ok (.iastore, 1) := by decide +kernel
theorem dX5_lays_101 : decode cX5_lays 101 = .ok (.iinc 2 1, 3) := by decide +kernel
theorem dX5_lays_104 : decode cX5_lays 104 = .ok (.goto (-62), 3) := by decide +kernel
theorem dX5_lays_107 : decode cX5_lays 107 = .ok (.aload_n 0, 1) := by decide +kernel
theorem dX5_lays_108 : decode cX5_lays 108 = .ok (.iload_n 1, 1) := by decide +kernel
theorem dX5_lays_109 : decode cX5_lays 109 = .ok (.invokevirtual 183, 3) := by decide +kernel
theorem dX5_lays_112 : decode cX5_lays 112 = .ok (.ifCond .eq 50, 3) := by decide +kernel
theorem dX5_lays_115 : decode cX5_lays 115 = .ok (.aload_n 0, 1) := by decide +kernel
theorem dX5_lays_116 : decode cX5_lays 116 = .ok (.iload_n 1, 1) := by decide +kernel
theorem dX5_lays_117 : decode cX5_lays 117 = .ok (.invokevirtual 186, 3) := by decide +kernel
theorem dX5_lays_120 : decode cX5_lays 120 = .ok (.ifCond .ne 42, 3) := by decide +kernel
theorem dX5_lays_123 : decode cX5_lays 123 = .ok (.aload_n 0, 1) := by decide +kernel
theorem dX5_lays_124 : decode cX5_lays 124 = .ok (.dup, 1) := by decide +kernel
theorem dX5_lays_125 : decode cX5_lays 125 = .ok (.getfield 173, 3) := by decide +kernel
theorem dX5_lays_128 : decode cX5_lays 128 = .ok (.iconst 1, 1) := by decide +kernel
theorem dX5_lays_129 : decode cX5_lays 129 = .ok (.iadd, 1) := by decide +kernel
theorem dX5_lays_130 : decode cX5_lays 130 = .ok (.putfield 173, 3) := by decide +kernel
theorem dX5_lays_133 : decode cX5_lays 133 = .ok (.aload_n 0, 1) := by decide +kernel
theorem dX5_lays_134 : decode cX5_lays 134 = .ok (.dup, 1) := by decide +kernel
theorem dX5_lays_135 : decode cX5_lays 135 = .ok (.getfield 176, 3) := by decide +kernel
theorem dX5_lays_138 : decode cX5_lays 138 = .ok (.iconst 1, 1) := by decide +kernel
theorem dX5_lays_139 : decode cX5_lays 139 = .ok (.aload_n 0, 1) := by decide +kernel
theorem dX5_lays_140 : decode cX5_lays 140 = .ok (.aload_n 0, 1) := by decide +kernel
theorem dX5_lays_141 : decode cX5_lays 141 = .ok (.getfield 173, 3) := by decide +kernel
theorem dX5_lays_144 : decode cX5_lays 144 = .ok (.invokevirtual 189, 3) := by decide +kernel
theorem dX5_lays_147 : decode cX5_lays 147 = .ok (.iadd, 1) := by decide +kernel
theorem dX5_lays_148 : decode cX5_lays 148 = .ok (.iadd, 1) := by decide +kernel
theorem dX5_lays_149 : decode cX5_lays 149 = .ok (.putfield 176, 3) := by decide +kernel
theorem dX5_lays_152 : decode cX5_lays 152 = .ok (.aload_n 0, 1) := by decide +kernel
theorem dX5_lays_153 : decode cX5_lays 153 = .ok (.getfield 55, 3) := by decide +kernel
theorem dX5_lays_156 : decode cX5_lays 156 = .ok (.iload_n 1, 1) := by decide +kernel
theorem dX5_lays_157 : decode cX5_lays 157 = .ok (.aload_n 0, 1) := by decide +kernel
theorem dX5_lays_158 : decode cX5_lays 158 = .ok (.getfield 176, 3) := by decide +kernel
theorem dX5_lays_161 : decode cX5_lays 161 = .ok (.iastore, 1) := by decide +kernel
theorem dX5_lays_162 : decode cX5_lays 162 = .ok (.iinc 1 1, 3) := by decide +kernel
theorem dX5_lays_165 : decode cX5_lays 165 = .ok (.goto (-153), 3) := by decide +kernel
theorem dX5_lays_168 : decode cX5_lays 168 = .ok (.return_, 1) := by decide +kernel
theorem dX5_laysTold_0 : decode cX5_laysTold 0 = .ok (.aload_n 0, 1) := by decide +kernel
theorem dX5_laysTold_1 : decode cX5_laysTold 1 = .ok (.invokevirtual 122, 3) := by decide +kernel
theorem dX5_laysTold_4 : decode cX5_laysTold 4 = .ok (.aload_n 0, 1) := by decide +kernel
theorem dX5_laysTold_5 : decode cX5_laysTold 5 = .ok (.invokevirtual 192, 3) := by decide +kernel
theorem dX5_laysTold_8 : decode cX5_laysTold 8 = .ok (.aload_n 0, 1) := by decide +kernel
theorem dX5_laysTold_9 : decode cX5_laysTold 9 = .ok (.invokevirtual 195, 3) := by decide +kernel
theorem dX5_laysTold_12 : decode cX5_laysTold 12 = .ok (.return_, 1) := by decide +kernel
theorem dX5_highOf_0 : decode cX5_highOf 0 = .ok (.aload_n 0, 1) := by decide +kernel
theorem dX5_highOf_1 : decode cX5_highOf 1 = .ok (.invokevirtual 198, 3) := by decide +kernel
theorem dX5_highOf_4 : decode cX5_highOf 4 = .ok (.aload_n 0, 1) := by decide +kernel
theorem dX5_highOf_5 : decode cX5_highOf 5 = .ok (.getfield 49, 3) := by decide +kernel
theorem dX5_highOf_8 : decode cX5_highOf 8 = .ok (.iload_n 1, 1) := by decide +kernel
theorem dX5_highOf_9 : decode cX5_highOf 9 = .ok (.iaload, 1) := by decide +kernel
theorem dX5_highOf_10 : decode cX5_highOf 10 = .ok (.ireturn, 1) := by decide +kernel
theorem dX5_high_0 : decode cX5_high 0 = .ok (.iload_n 1, 1) := by decide +kernel
theorem dX5_high_1 : decode cX5_high 1 = .ok (.invokestatic 143, 3) := by decide +kernel
theorem dX5_high_4 : decode cX5_high 4 = .ok (.ifCond .eq 11, 3) := by decide +kernel
theorem dX5_high_7 : decode cX5_high 7 = .ok (.aload_n 0, 1) := by decide +kernel
theorem dX5_high_8 : decode cX5_high 8 = .ok (.iload_n 1, 1) := by decide +kernel
theorem dX5_high_9 : decode cX5_high 9 = .ok (.invokevirtual 201, 3) := by decide +kernel
theorem dX5_high_12 : decode cX5_high 12 = .ok (.goto 5, 3) := by decide +kernel
theorem dX5_high_15 : decode cX5_high 15 = .ok (.bipush (-2), 2) := by decide +kernel
theorem dX5_high_17 : decode cX5_high 17 = .ok (.ireturn, 1) := by decide +kernel
theorem dX5_waveOf_0 : decode cX5_waveOf 0 = .ok (.aload_n 0, 1) := by decide +kernel
theorem dX5_waveOf_1 : decode cX5_waveOf 1 = .ok (.invokevirtual 198, 3) := by decide +kernel
theorem dX5_waveOf_4 : decode cX5_waveOf 4 = .ok (.iload_n 2, 1) := by decide +kernel
theorem dX5_waveOf_5 : decode cX5_waveOf 5 = .ok (.ifCond .ne 19, 3) := by decide +kernel
theorem dX5_waveOf_8 : decode cX5_waveOf 8 = .ok (.aload_n 0, 1) := by decide +kernel
theorem dX5_waveOf_9 : decode cX5_waveOf 9 = .ok (.iload_n 1, 1) := by decide +kernel
theorem dX5_waveOf_10 : decode cX5_waveOf 10 = .ok (.invokevirtual 183, 3) := by decide +kernel
theorem dX5_waveOf_13 : decode cX5_waveOf 13 = .ok (.ifCond .eq 7, 3) := by decide +kernel
theorem dX5_waveOf_16 : decode cX5_waveOf 16 = .ok (.iconst 1, 1) := by decide +kernel
theorem dX5_waveOf_17 : decode cX5_waveOf 17 = .ok (.goto 36, 3) := by decide +kernel
theorem dX5_waveOf_20 : decode cX5_waveOf 20 = .ok (.iconst 0, 1) := by decide +kernel
theorem dX5_waveOf_21 : decode cX5_waveOf 21 = .ok (.goto 32, 3) := by decide +kernel
theorem dX5_waveOf_24 : decode cX5_waveOf 24 = .ok (.iload_n 2, 1) := by decide +kernel
theorem dX5_waveOf_25 : decode cX5_waveOf 25 = .ok (.iconst 1, 1) := by decide +kernel
theorem dX5_waveOf_26 : decode cX5_waveOf 26 = .ok (.if_icmp .ne 12, 3) := by decide +kernel
theorem dX5_waveOf_29 : decode cX5_waveOf 29 = .ok (.aload_n 0, 1) := by decide +kernel
theorem dX5_waveOf_30 : decode cX5_waveOf 30 = .ok (.getfield 55, 3) := by decide +kernel
theorem dX5_waveOf_33 : decode cX5_waveOf 33 = .ok (.iload_n 1, 1) := by decide +kernel
theorem dX5_waveOf_34 : decode cX5_waveOf 34 = .ok (.iaload, 1) := by decide +kernel
theorem dX5_waveOf_35 : decode cX5_waveOf 35 = .ok (.goto 18, 3) := by decide +kernel
theorem dX5_waveOf_38 : decode cX5_waveOf 38 = .ok (.aload_n 0, 1) := by decide +kernel
theorem dX5_waveOf_39 : decode cX5_waveOf 39 = .ok (.getfield 52, 3) := by decide +kernel
theorem dX5_waveOf_42 : decode cX5_waveOf 42 = .ok (.iload_n 1, 1) := by decide +kernel
theorem dX5_waveOf_43 : decode cX5_waveOf 43 = .ok (.iaload, 1) := by decide +kernel
theorem dX5_waveOf_44 : decode cX5_waveOf 44 = .ok (.iconst 1, 1) := by decide +kernel
theorem dX5_waveOf_45 : decode cX5_waveOf 45 = .ok (.if_icmp .le 7, 3) := by decide +kernel
theorem dX5_waveOf_48 : decode cX5_waveOf 48 = .ok (.iconst 1, 1) := by decide +kernel
theorem dX5_waveOf_49 : decode cX5_waveOf 49 = .ok (.goto 4, 3) := by decide +kernel
theorem dX5_waveOf_52 : decode cX5_waveOf 52 = .ok (.iconst 0, 1) := by decide +kernel
theorem dX5_waveOf_53 : decode cX5_waveOf 53 = .ok (.ireturn, 1) := by decide +kernel
theorem dX5_wave_0 : decode cX5_wave 0 = .ok (.iload_n 1, 1) := by decide +kernel
theorem dX5_wave_1 : decode cX5_wave 1 = .ok (.invokestatic 143, 3) := by decide +kernel
theorem dX5_wave_4 : decode cX5_wave 4 = .ok (.ifCond .eq 21, 3) := by decide +kernel
theorem dX5_wave_7 : decode cX5_wave 7 = .ok (.iload_n 2, 1) := by decide +kernel
theorem dX5_wave_8 : decode cX5_wave 8 = .ok (.iconst 0, 1) := by decide +kernel
theorem dX5_wave_9 : decode cX5_wave 9 = .ok (.iconst 2, 1) := by decide +kernel
theorem dX5_wave_10 : decode cX5_wave 10 = .ok (.invokestatic 89, 3) := by decide +kernel
theorem dX5_wave_13 : decode cX5_wave 13 = .ok (.ifCond .eq 12, 3) := by decide +kernel
theorem dX5_wave_16 : decode cX5_wave 16 = .ok (.aload_n 0, 1) := by decide +kernel
theorem dX5_wave_17 : decode cX5_wave 17 = .ok (.iload_n 1, 1) := by decide +kernel
theorem dX5_wave_18 : decode cX5_wave 18 = .ok (.iload_n 2, 1) := by decide +kernel
theorem dX5_wave_19 : decode cX5_wave 19 = .ok (.invokevirtual 204, 3) := by decide +kernel
theorem dX5_wave_22 : decode cX5_wave 22 = .ok (.goto 5, 3) := by decide +kernel
theorem dX5_wave_25 : decode cX5_wave 25 = .ok (.bipush (-2), 2) := by decide +kernel
theorem dX5_wave_27 : decode cX5_wave 27 = .ok (.ireturn, 1) := by decide +kernel
theorem dX5_timeOf_0 : decode cX5_timeOf 0 = .ok (.iconst 0, 1) := by decide +kernel
theorem dX5_timeOf_1 : decode cX5_timeOf 1 = .ok (.istore_n 2, 1) := by decide +kernel
theorem dX5_timeOf_2 : decode cX5_timeOf 2 = .ok (.iload_n 2, 1) := by decide +kernel
theorem dX5_timeOf_3 : decode cX5_timeOf 3 = .ok (.sipush 240, 3) := by decide +kernel
theorem dX5_timeOf_6 : decode cX5_timeOf 6 = .ok (.if_icmp .ge 21, 3) := by decide +kernel
theorem dX5_timeOf_9 : decode cX5_timeOf 9 = .ok (.aload_n 0, 1) := by decide +kernel
theorem dX5_timeOf_10 : decode cX5_timeOf 10 = .ok (.getfield 55, 3) := by decide +kernel
theorem dX5_timeOf_13 : decode cX5_timeOf 13 = .ok (.iload_n 2, 1) := by decide +kernel
theorem dX5_timeOf_14 : decode cX5_timeOf 14 = .ok (.iaload, 1) := by decide +kernel
theorem dX5_timeOf_15 : decode cX5_timeOf 15 = .ok (.iload_n 1, 1) := by decide +kernel
theorem dX5_timeOf_16 : decode cX5_timeOf 16 = .ok (.if_icmp .ne 5, 3) := by decide +kernel
theorem dX5_timeOf_19 : decode cX5_timeOf 19 = .ok (.iload_n 2, 1) := by decide +kernel
theorem dX5_timeOf_20 : decode cX5_timeOf 20 = .ok (.ireturn, 1) := by decide +kernel
theorem dX5_timeOf_21 : decode cX5_timeOf 21 = .ok (.iinc 2 1, 3) := by decide +kernel
theorem dX5_timeOf_24 : decode cX5_timeOf 24 = .ok (.goto (-22), 3) := by decide +kernel
theorem dX5_timeOf_27 : decode cX5_timeOf 27 = .ok (.iconst (-1), 1) := by decide +kernel
theorem dX5_timeOf_28 : decode cX5_timeOf 28 = .ok (.ireturn, 1) := by decide +kernel
theorem dX5_whenOf_0 : decode cX5_whenOf 0 = .ok (.aload_n 0, 1) := by decide +kernel
theorem dX5_whenOf_1 : decode cX5_whenOf 1 = .ok (.invokevirtual 198, 3) := by decide +kernel
theorem dX5_whenOf_4 : decode cX5_whenOf 4 = .ok (.aload_n 0, 1) := by decide +kernel
theorem dX5_whenOf_5 : decode cX5_whenOf 5 = .ok (.iload_n 1, 1) := by decide +kernel
theorem dX5_whenOf_6 : decode cX5_whenOf 6 = .ok (.invokevirtual 207, 3) := by decide +kernel
theorem dX5_whenOf_9 : decode cX5_whenOf 9 = .ok (.ireturn, 1) := by decide +kernel
theorem dX5_when_0 : decode cX5_when 0 = .ok (.iload_n 1, 1) := by decide +kernel
theorem dX5_when_1 : decode cX5_when 1 = .ok (.invokestatic 149, 3) := by decide +kernel
theorem dX5_when_4 : decode cX5_when 4 = .ok (.ifCond .eq 11, 3) := by decide +kernel
theorem dX5_when_7 : decode cX5_when 7 = .ok (.aload_n 0, 1) := by decide +kernel
theorem dX5_when_8 : decode cX5_when 8 = .ok (.iload_n 1, 1) := by decide +kernel
theorem dX5_when_9 : decode cX5_when 9 = .ok (.invokevirtual 210, 3) := by decide +kernel
theorem dX5_when_12 : decode cX5_when 12 = .ok (.goto 5, 3) := by decide +kernel
theorem dX5_when_15 : decode cX5_when 15 = .ok (.bipush (-2), 2) := by decide +kernel
theorem dX5_when_17 : decode cX5_when 17 = .ok (.ireturn, 1) := by decide +kernel
theorem dX5_calledOf_0 : decode cX5_calledOf 0 = .ok (.aload_n 0, 1) := by decide +kernel
theorem dX5_calledOf_1 : decode cX5_calledOf 1 = .ok (.invokevirtual 198, 3) := by decide +kernel
theorem dX5_calledOf_4 : decode cX5_calledOf 4 = .ok (.iconst 0, 1) := by decide +kernel
theorem dX5_calledOf_5 : decode cX5_calledOf 5 = .ok (.istore_n 3, 1) := by decide +kernel
theorem dX5_calledOf_6 : decode cX5_calledOf 6 = .ok (.iload_n 1, 1) := by decide +kernel
theorem dX5_calledOf_7 : decode cX5_calledOf 7 = .ok (.istore 4, 2) := by decide +kernel
theorem dX5_calledOf_9 : decode cX5_calledOf 9 = .ok (.iload 4, 2) := by decide +kernel
theorem dX5_calledOf_11 : decode cX5_calledOf 11 = .ok (.iload_n 2, 1) := by decide +kernel
theorem dX5_calledOf_12 : decode cX5_calledOf 12 = .ok (.if_icmp .gt 27, 3) := by decide +kernel
theorem dX5_calledOf_15 : decode cX5_calledOf 15 = .ok (.iload_n 3, 1) := by decide +kernel
theorem dX5_calledOf_16 : decode cX5_calledOf 16 = .ok (.aload_n 0, 1) := by decide +kernel
theorem dX5_calledOf_17 : decode cX5_calledOf 17 = .ok (.getfield 55, 3) := by decide +kernel
theorem dX5_calledOf_20 : decode cX5_calledOf 20 = .ok (.iload 4, 2) := by decide +kernel
theorem dX5_calledOf_22 : decode cX5_calledOf 22 = .ok (.iaload, 1) := by decide +kernel
theorem dX5_calledOf_23 : decode cX5_calledOf 23 = .ok (.ifCond .le 7, 3) := by decide +kernel
theorem dX5_calledOf_26 : decode cX5_calledOf 26 = .ok (.iconst 1, 1) := by decide +kernel
theorem dX5_calledOf_27 : decode cX5_calledOf 27 = .ok (.goto 4, 3) := by decide +kernel
theorem dX5_calledOf_30 : decode cX5_calledOf 30 = .ok (.iconst 0, 1) := by decide +kernel
theorem dX5_calledOf_31 : decode cX5_calledOf 31 = .ok (.iadd, 1) := by decide +kernel
theorem dX5_calledOf_32 : decode cX5_calledOf 32 = .ok (.istore_n 3, 1) := by decide +kernel
theorem dX5_calledOf_33 : decode cX5_calledOf 33 = .ok (.iinc 4 1, 3) := by decide +kernel
theorem dX5_calledOf_36 : decode cX5_calledOf 36 = .ok (.goto (-27), 3) := by decide +kernel
theorem dX5_calledOf_39 : decode cX5_calledOf 39 = .ok (.iload_n 3, 1) := by decide +kernel
theorem dX5_calledOf_40 : decode cX5_calledOf 40 = .ok (.ireturn, 1) := by decide +kernel
theorem dX5_called_0 : decode cX5_called 0 = .ok (.iload_n 1, 1) := by decide +kernel
theorem dX5_called_1 : decode cX5_called 1 = .ok (.invokestatic 143, 3) := by decide +kernel
theorem dX5_called_4 : decode cX5_called 4 = .ok (.ifCond .eq 19, 3) := by decide +kernel
theorem dX5_called_7 : decode cX5_called 7 = .ok (.iload_n 2, 1) := by decide +kernel
theorem dX5_called_8 : decode cX5_called 8 = .ok (.invokestatic 143, 3) := by decide +kernel
theorem dX5_called_11 : decode cX5_called 11 = .ok (.ifCond .eq 12, 3) := by decide +kernel
theorem dX5_called_14 : decode cX5_called 14 = .ok (.aload_n 0, 1) := by decide +kernel
theorem dX5_called_15 : decode cX5_called 15 = .ok (.iload_n 1, 1) := by decide +kernel
theorem dX5_called_16 : decode cX5_called 16 = .ok (.iload_n 2, 1) := by decide +kernel
theorem dX5_called_17 : decode cX5_called 17 = .ok (.invokevirtual 213, 3) := by decide +kernel
theorem dX5_called_20 : decode cX5_called 20 = .ok (.goto 5, 3) := by decide +kernel
theorem dX5_called_23 : decode cX5_called 23 = .ok (.bipush (-2), 2) := by decide +kernel
theorem dX5_called_25 : decode cX5_called 25 = .ok (.ireturn, 1) := by decide +kernel
theorem dX5_bringsNow_0 : decode cX5_bringsNow 0 = .ok (.iconst 0, 1) := by decide +kernel
theorem dX5_bringsNow_1 : decode cX5_bringsNow 1 = .ok (.istore_n 2, 1) := by decide +kernel
theorem dX5_bringsNow_2 : decode cX5_bringsNow 2 = .ok (.iconst 0, 1) := by decide +kernel
theorem dX5_bringsNow_3 : decode cX5_bringsNow 3 = .ok (.istore_n 3, 1) := by decide +kernel
theorem dX5_bringsNow_4 : decode cX5_bringsNow 4 = .ok (.iload_n 3, 1) := by decide +kernel
theorem dX5_bringsNow_5 : decode cX5_bringsNow 5 = .ok (.aload_n 0, 1) := by decide +kernel
theorem dX5_bringsNow_6 : decode cX5_bringsNow 6 = .ok (.getfield 108, 3) := by decide +kernel
theorem dX5_bringsNow_9 : decode cX5_bringsNow 9 = .ok (.if_icmp .ge 39, 3) := by decide +kernel
theorem dX5_bringsNow_12 : decode cX5_bringsNow 12 = .ok (.iload_n 2, 1) := by decide +kernel
theorem dX5_bringsNow_13 : decode cX5_bringsNow 13 = .ok (.iload_n 1, 1) := by decide +kernel
theorem dX5_bringsNow_14 : decode cX5_bringsNow 14 = .ok (.aload_n 0, 1) := by decide +kernel
theorem dX5_bringsNow_15 : decode cX5_bringsNow 15 = .ok (.getfield 25, 3) := by decide +kernel
theorem dX5_bringsNow_18 : decode cX5_bringsNow 18 = .ok (.iload_n 3, 1) := by decide +kernel
theorem dX5_bringsNow_19 : decode cX5_bringsNow 19 = .ok (.iaload, 1) := by decide +kernel
theorem dX5_bringsNow_20 : decode cX5_bringsNow 20 = .ok (.irem, 1) := by decide +kernel
theorem dX5_bringsNow_21 : decode cX5_bringsNow 21 = .ok (.aload_n 0, 1) := by decide +kernel
theorem dX5_bringsNow_22 : decode cX5_bringsNow 22 = .ok (.getfield 28, 3) := by decide +kernel
theorem dX5_bringsNow_25 : decode cX5_bringsNow 25 = .ok (.iload_n 3, 1) := by decide +kernel
theorem dX5_bringsNow_26 : decode cX5_bringsNow 26 = .ok (.iaload, 1) := by decide +kernel
theorem dX5_bringsNow_27 : decode cX5_bringsNow 27 = .ok (.if_icmp .ne 12, 3) := by decide +kernel
theorem dX5_bringsNow_30 : decode cX5_bringsNow 30 = .ok (.aload_n 0, 1) := by decide +kernel
theorem dX5_bringsNow_31 : decode cX5_bringsNow 31 = .ok (.getfield 31, 3) := by decide +kernel
theorem dX5_bringsNow_34 : decode cX5_bringsNow 34 = .ok (.iload_n 3, 1) := by decide +kernel
theorem dX5_bringsNow_35 : decode cX5_bringsNow 35 = .ok (.iaload, 1) := by decide +kernel
theorem dX5_bringsNow_36 : decode cX5_bringsNow 36 = .ok (.goto 4, 3) := by decide +kernel
theorem dX5_bringsNow_39 : decode cX5_bringsNow 39 = .ok (.iconst 0, 1) := by decide +kernel
theorem dX5_bringsNow_40 : decode cX5_bringsNow 40 = .ok (.iadd, 1) := by decide +kernel
theorem dX5_bringsNow_41 : decode cX5_bringsNow 41 = .ok (.istore_n 2, 1) := by decide +kernel
theorem dX5_bringsNow_42 : decode cX5_bringsNow 42 = .ok (.iinc 3 1, 3) := by decide +kernel
theorem dX5_bringsNow_45 : decode cX5_bringsNow 45 = .ok (.goto (-41), 3) := by decide +kernel
theorem dX5_bringsNow_48 : decode cX5_bringsNow 48 = .ok (.iload_n 2, 1) := by decide +kernel
theorem dX5_bringsNow_49 : decode cX5_bringsNow 49 = .ok (.ireturn, 1) := by decide +kernel
theorem dX5_bringsOf_0 : decode cX5_bringsOf 0 = .ok (.aload_n 0, 1) := by decide +kernel
theorem dX5_bringsOf_1 : decode cX5_bringsOf 1 = .ok (.invokevirtual 122, 3) := by decide +kernel
theorem dX5_bringsOf_4 : decode cX5_bringsOf 4 = .ok (.aload_n 0, 1) := by decide +kernel
theorem dX5_bringsOf_5 : decode cX5_bringsOf 5 = .ok (.iload_n 1, 1) := by decide +kernel
theorem dX5_bringsOf_6 : decode cX5_bringsOf 6 = .ok (.invokevirtual 216, 3) := by decide +kernel
theorem dX5_bringsOf_9 : decode cX5_bringsOf 9 = .ok (.ireturn, 1) := by decide +kernel
theorem dX5_brings_0 : decode cX5_brings 0 = .ok (.iload_n 1, 1) := by decide +kernel
theorem dX5_brings_1 : decode cX5_brings 1 = .ok (.invokestatic 149, 3) := by decide +kernel
theorem dX5_brings_4 : decode cX5_brings 4 = .ok (.ifCond .eq 11, 3) := by decide +kernel
theorem dX5_brings_7 : decode cX5_brings 7 = .ok (.aload_n 0, 1) := by decide +kernel
theorem dX5_brings_8 : decode cX5_brings 8 = .ok (.iload_n 1, 1) := by decide +kernel
theorem dX5_brings_9 : decode cX5_brings 9 = .ok (.invokevirtual 219, 3) := by decide +kernel
theorem dX5_brings_12 : decode cX5_brings 12 = .ok (.goto 5, 3) := by decide +kernel
theorem dX5_brings_15 : decode cX5_brings 15 = .ok (.bipush (-2), 2) := by decide +kernel
theorem dX5_brings_17 : decode cX5_brings 17 = .ok (.ireturn, 1) := by decide +kernel
theorem dX5_holderOf_0 : decode cX5_holderOf 0 = .ok (.iconst 0, 1) := by decide +kernel
theorem dX5_holderOf_1 : decode cX5_holderOf 1 = .ok (.istore_n 2, 1) := by decide +kernel
theorem dX5_holderOf_2 : decode cX5_holderOf 2 = .ok (.iload_n 2, 1) := by decide +kernel
theorem dX5_holderOf_3 : decode cX5_holderOf 3 = .ok (.aload_n 0, 1) := by decide +kernel
theorem dX5_holderOf_4 : decode cX5_holderOf 4 = .ok (.getfield 170, 3) := by decide +kernel
theorem dX5_holderOf_7 : decode cX5_holderOf 7 = .ok (.if_icmp .ge 26, 3) := by decide +kernel
theorem dX5_holderOf_10 : decode cX5_holderOf 10 = .ok (.aload_n 0, 1) := by decide +kernel
theorem dX5_holderOf_11 : decode cX5_holderOf 11 = .ok (.getfield 46, 3) := by decide +kernel
theorem dX5_holderOf_14 : decode cX5_holderOf 14 = .ok (.iload_n 2, 1) := by decide +kernel
theorem dX5_holderOf_15 : decode cX5_holderOf 15 = .ok (.iaload, 1) := by decide +kernel
theorem dX5_holderOf_16 : decode cX5_holderOf 16 = .ok (.iload_n 1, 1) := by decide +kernel
theorem dX5_holderOf_17 : decode cX5_holderOf 17 = .ok (.if_icmp .ne 10, 3) := by decide +kernel
theorem dX5_holderOf_20 : decode cX5_holderOf 20 = .ok (.aload_n 0, 1) := by decide +kernel
theorem dX5_holderOf_21 : decode cX5_holderOf 21 = .ok (.getfield 43, 3) := by decide +kernel
theorem dX5_holderOf_24 : decode cX5_holderOf 24 = .ok (.iload_n 2, 1) := by decide +kernel
theorem dX5_holderOf_25 : decode cX5_holderOf 25 = .ok (.iaload, 1) := by decide +kernel
theorem dX5_holderOf_26 : decode cX5_holderOf 26 = .ok (.ireturn, 1) := by decide +kernel
theorem dX5_holderOf_27 : decode cX5_holderOf 27 = .ok (.iinc 2 1, 3) := by decide +kernel
theorem dX5_holderOf_30 : decode cX5_holderOf 30 = .ok (.goto (-28), 3) := by decide +kernel
theorem dX5_holderOf_33 : decode cX5_holderOf 33 = .ok (.iconst (-1), 1) := by decide +kernel
theorem dX5_holderOf_34 : decode cX5_holderOf 34 = .ok (.ireturn, 1) := by decide +kernel
theorem dX5_claimsNow_0 : decode cX5_claimsNow 0 = .ok (.iconst 0, 1) := by decide +kernel
theorem dX5_claimsNow_1 : decode cX5_claimsNow 1 = .ok (.istore_n 2, 1) := by decide +kernel
theorem dX5_claimsNow_2 : decode cX5_claimsNow 2 = .ok (.iconst 0, 1) := by decide +kernel
theorem dX5_claimsNow_3 : decode cX5_claimsNow 3 = .ok (.istore_n 3, 1) := by decide +kernel
theorem dX5_claimsNow_4 : decode cX5_claimsNow 4 = .ok (.iload_n 3, 1) := by decide +kernel
theorem dX5_claimsNow_5 : decode cX5_claimsNow 5 = .ok (.sipush 240, 3) := by decide +kernel
theorem dX5_claimsNow_8 : decode cX5_claimsNow 8 = .ok (.if_icmp .ge 101, 3) := by decide +kernel
theorem dX5_claimsNow_11 : decode cX5_claimsNow 11 = .ok (.aload_n 0, 1) := by decide +kernel
theorem dX5_claimsNow_12 : decode cX5_claimsNow 12 = .ok (.getfield 55, 3) := by decide +kernel
theorem dX5_claimsNow_15 : decode cX5_claimsNow 15 = .ok (.iload_n 3, 1) := by decide +kernel
theorem dX5_claimsNow_16 : decode cX5_claimsNow 16 = .ok (.iaload, 1) := by decide +kernel
theorem dX5_claimsNow_17 : decode cX5_claimsNow 17 = .ok (.istore 4, 2) := by decide +kernel
theorem dX5_claimsNow_19 : decode cX5_claimsNow 19 = .ok (.iload 4, 2) := by decide +kernel
theorem dX5_claimsNow_21 : decode cX5_claimsNow 21 = .ok (.ifCond .le 82, 3) := by decide +kernel
theorem dX5_claimsNow_24 : decode cX5_claimsNow 24 = .ok (.aload_n 0, 1) := by decide +kernel
theorem dX5_claimsNow_25 : decode cX5_claimsNow 25 = .ok (.iload 4, 2) := by decide +kernel
theorem dX5_claimsNow_27 : decode cX5_claimsNow 27 = .ok (.invokevirtual 216, 3) := by decide +kernel
theorem dX5_claimsNow_30 : decode cX5_claimsNow 30 = .ok (.istore 5, 2) := by decide +kernel
theorem dX5_claimsNow_32 : decode cX5_claimsNow 32 = .ok (.aload_n 0, 1) := by decide +kernel
theorem dX5_claimsNow_33 : decode cX5_claimsNow 33 = .ok (.getfield 52, 3) := by decide +kernel
theorem dX5_claimsNow_36 : decode cX5_claimsNow 36 = .ok (.iload_n 3, 1) := by decide +kernel
theorem dX5_claimsNow_37 : decode cX5_claimsNow 37 = .ok (.iaload, 1) := by decide +kernel
theorem dX5_claimsNow_38 : decode cX5_claimsNow 38 = .ok (.iconst 1, 1) := by decide +kernel
theorem dX5_claimsNow_39 : decode cX5_claimsNow 39 = .ok (.if_icmp .le 10, 3) := by decide +kernel
theorem dX5_claimsNow_42 : decode cX5_claimsNow 42 = .ok (.iload 5, 2) := by decide +kernel
theorem dX5_claimsNow_44 : decode cX5_claimsNow 44 = .ok (.iconst 2, 1) := by decide +kernel
theorem dX5_claimsNow_45 : decode cX5_claimsNow 45 = .ok (.idiv, 1) := by decide +kernel
theorem dX5_claimsNow_46 : decode cX5_claimsNow 46 = .ok (.goto 5, 3) := by decide +kernel
theorem dX5_claimsNow_49 : decode cX5_claimsNow 49 = .ok (.iload 5, 2) := by decide +kernel
theorem dX5_claimsNow_51 : decode cX5_claimsNow 51 = .ok (.istore 5, 2) := by decide +kernel
theorem dX5_claimsNow_53 : decode cX5_claimsNow 53 = .ok (.iload_n 2, 1) := by decide +kernel
theorem dX5_claimsNow_54 : decode cX5_claimsNow 54 = .ok (.aload_n 0, 1) := by decide +kernel
theorem dX5_claimsNow_55 : decode cX5_claimsNow 55 = .ok (.iload 4, 2) := by decide +kernel
theorem dX5_claimsNow_57 : decode cX5_claimsNow 57 = .ok (.invokevirtual 222, 3) := by decide +kernel
theorem dX5_claimsNow_60 : decode cX5_claimsNow 60 = .ok (.iload_n 1, 1) := by decide +kernel
theorem dX5_claimsNow_61 : decode cX5_claimsNow 61 = .ok (.if_icmp .ne 8, 3) := by decide +kernel
theorem dX5_claimsNow_64 : decode cX5_claimsNow 64 = .ok (.iload 5, 2) := by decide +kernel
theorem dX5_claimsNow_66 : decode cX5_claimsNow 66 = .ok (.goto 4, 3) := by decide +kernel
theorem dX5_claimsNow_69 : decode cX5_claimsNow 69 = .ok (.iconst 0, 1) := by decide +kernel
theorem dX5_claimsNow_70 : decode cX5_claimsNow 70 = .ok (.iadd, 1) := by decide +kernel
theorem dX5_claimsNow_71 : decode cX5_claimsNow 71 = .ok (.istore_n 2, 1) := by decide +kernel
theorem dX5_claimsNow_72 : decode cX5_claimsNow 72 = .ok (.iload_n 2, 1) := by decide +kernel
theorem dX5_claimsNow_73 : decode cX5_claimsNow 73 = .ok (.aload_n 0, 1) := by decide +kernel
theorem dX5_claimsNow_74 : decode cX5_claimsNow 74 = .ok (.getfield 52, 3) := by decide +kernel
theorem dX5_claimsNow_77 : decode cX5_claimsNow 77 = .ok (.iload_n 3, 1) := by decide +kernel
theorem dX5_claimsNow_78 : decode cX5_claimsNow 78 = .ok (.iaload, 1) := by decide +kernel
theorem dX5_claimsNow_79 : decode cX5_claimsNow 79 = .ok (.iconst 1, 1) := by decide +kernel
theorem dX5_claimsNow_80 : decode cX5_claimsNow 80 = .ok (.if_icmp .le 20, 3) := by decide +kernel
theorem dX5_claimsNow_83 : decode cX5_claimsNow 83 = .ok (.aload_n 0, 1) := by decide +kernel
theorem dX5_claimsNow_84 : decode cX5_claimsNow 84 = .ok (.iload 4, 2) := by decide +kernel
theorem dX5_claimsNow_86 : decode cX5_claimsNow 86 = .ok (.iconst 1, 1) := by decide +kernel
theorem dX5_claimsNow_87 : decode cX5_claimsNow 87 = .ok (.iadd, 1) := by decide +kernel
theorem dX5_claimsNow_88 : decode cX5_claimsNow 88 = .ok (.invokevirtual 222, 3) := by decide +kernel
theorem dX5_claimsNow_91 : decode cX5_claimsNow 91 = .ok (.iload_n 1, 1) := by decide +kernel
theorem dX5_claimsNow_92 : decode cX5_claimsNow 92 = .ok (.if_icmp .ne 8, 3) := by decide +kernel
theorem dX5_claimsNow_95 : decode cX5_claimsNow 95 = .ok (.iload 5, 2) := by decide +kernel
theorem dX5_claimsNow_97 : decode cX5_claimsNow 97 = .ok (.goto 4, 3) := by decide +kernel
theorem dX5_claimsNow_100 : decode cX5_claimsNow 100 = .ok (.iconst 0, 1) := by decide +kernel
theorem dX5_claimsNow_101 : decode cX5_claimsNow 101 = .ok (.iadd, 1) := by decide +kernel
theorem dX5_claimsNow_102 : decode cX5_claimsNow 102 = .ok (.istore_n 2, 1) := by decide +kernel
theorem dX5_claimsNow_103 : decode cX5_claimsNow 103 = .ok (.iinc 3 1, 3) := by decide +kernel
theorem dX5_claimsNow_106 : decode cX5_claimsNow 106 = .ok (.goto (-102), 3) := by decide +kernel
theorem dX5_claimsNow_109 : decode cX5_claimsNow 109 = .ok (.iload_n 2, 1) := by decide +kernel
theorem dX5_claimsNow_110 : decode cX5_claimsNow 110 = .ok (.ireturn, 1) := by decide +kernel
theorem dX5_claimsOf_0 : decode cX5_claimsOf 0 = .ok (.aload_n 0, 1) := by decide +kernel
theorem dX5_claimsOf_1 : decode cX5_claimsOf 1 = .ok (.invokevirtual 198, 3) := by decide +kernel
theorem dX5_claimsOf_4 : decode cX5_claimsOf 4 = .ok (.aload_n 0, 1) := by decide +kernel
theorem dX5_claimsOf_5 : decode cX5_claimsOf 5 = .ok (.iload_n 1, 1) := by decide +kernel
theorem dX5_claimsOf_6 : decode cX5_claimsOf 6 = .ok (.invokevirtual 225, 3) := by decide +kernel
theorem dX5_claimsOf_9 : decode cX5_claimsOf 9 = .ok (.ireturn, 1) := by decide +kernel
theorem dX5_claims_0 : decode cX5_claims 0 = .ok (.iload_n 1, 1) := by decide +kernel
theorem dX5_claims_1 : decode cX5_claims 1 = .ok (.iconst 0, 1) := by decide +kernel
theorem dX5_claims_2 : decode cX5_claims 2 = .ok (.bipush 7, 2) := by decide +kernel
theorem dX5_claims_4 : decode cX5_claims 4 = .ok (.invokestatic 89, 3) := by decide +kernel
theorem dX5_claims_7 : decode cX5_claims 7 = .ok (.ifCond .eq 11, 3) := by decide +kernel
theorem dX5_claims_10 : decode cX5_claims 10 = .ok (.aload_n 0, 1) := by decide +kernel
theorem dX5_claims_11 : decode cX5_claims 11 = .ok (.iload_n 1, 1) := by decide +kernel
theorem dX5_claims_12 : decode cX5_claims 12 = .ok (.invokevirtual 228, 3) := by decide +kernel
theorem dX5_claims_15 : decode cX5_claims 15 = .ok (.goto 5, 3) := by decide +kernel
theorem dX5_claims_18 : decode cX5_claims 18 = .ok (.bipush (-2), 2) := by decide +kernel
theorem dX5_claims_20 : decode cX5_claims 20 = .ok (.ireturn, 1) := by decide +kernel
theorem dX5_goodOf_0 : decode cX5_goodOf 0 = .ok (.aload_n 0, 1) := by decide +kernel
theorem dX5_goodOf_1 : decode cX5_goodOf 1 = .ok (.invokevirtual 198, 3) := by decide +kernel
theorem dX5_goodOf_4 : decode cX5_goodOf 4 = .ok (.aload_n 0, 1) := by decide +kernel
theorem dX5_goodOf_5 : decode cX5_goodOf 5 = .ok (.aload_n 0, 1) := by decide +kernel
theorem dX5_goodOf_6 : decode cX5_goodOf 6 = .ok (.getfield 46, 3) := by decide +kernel
theorem dX5_goodOf_9 : decode cX5_goodOf 9 = .ok (.iload_n 1, 1) := by decide +kernel
theorem dX5_goodOf_10 : decode cX5_goodOf 10 = .ok (.iaload, 1) := by decide +kernel
theorem dX5_goodOf_11 : decode cX5_goodOf 11 = .ok (.invokevirtual 207, 3) := by decide +kernel
theorem dX5_goodOf_14 : decode cX5_goodOf 14 = .ok (.iconst (-1), 1) := by decide +kernel
theorem dX5_goodOf_15 : decode cX5_goodOf 15 = .ok (.if_icmp .eq 7, 3) := by decide +kernel
theorem dX5_goodOf_18 : decode cX5_goodOf 18 = .ok (.iconst 1, 1) := by decide +kernel
theorem dX5_goodOf_19 : decode cX5_goodOf 19 = .ok (.goto 4, 3) := by decide +kernel
theorem dX5_goodOf_22 : decode cX5_goodOf 22 = .ok (.iconst 0, 1) := by decide +kernel
theorem dX5_goodOf_23 : decode cX5_goodOf 23 = .ok (.istore_n 2, 1) := by decide +kernel
theorem dX5_goodOf_24 : decode cX5_goodOf 24 = .ok (.iconst 0, 1) := by decide +kernel
theorem dX5_goodOf_25 : decode cX5_goodOf 25 = .ok (.istore_n 3, 1) := by decide +kernel
theorem dX5_goodOf_26 : decode cX5_goodOf 26 = .ok (.iload_n 3, 1) := by decide +kernel
theorem dX5_goodOf_27 : decode cX5_goodOf 27 = .ok (.iload_n 1, 1) := by decide +kernel
theorem dX5_goodOf_28 : decode cX5_goodOf 28 = .ok (.if_icmp .ge 34, 3) := by decide +kernel
theorem dX5_goodOf_31 : decode cX5_goodOf 31 = .ok (.iload_n 2, 1) := by decide +kernel
theorem dX5_goodOf_32 : decode cX5_goodOf 32 = .ok (.ifCond .eq 22, 3) := by decide +kernel
theorem dX5_goodOf_35 : decode cX5_goodOf 35 = .ok (.aload_n 0, 1) := by decide +kernel
theorem dX5_goodOf_36 : decode cX5_goodOf 36 = .ok (.getfield 46, 3) := by decide +kernel
theorem dX5_goodOf_39 : decode cX5_goodOf 39 = .ok (.iload_n 3, 1) := by decide +kernel
theorem dX5_goodOf_40 : decode cX5_goodOf 40 = .ok (.iaload, 1) := by decide +kernel
theorem dX5_goodOf_41 : decode cX5_goodOf 41 = .ok (.aload_n 0, 1) := by decide +kernel
theorem dX5_goodOf_42 : decode cX5_goodOf 42 = .ok (.getfield 46, 3) := by decide +kernel
theorem dX5_goodOf_45 : decode cX5_goodOf 45 = .ok (.iload_n 1, 1) := by decide +kernel
theorem dX5_goodOf_46 : decode cX5_goodOf 46 = .ok (.iaload, 1) := by decide +kernel
theorem dX5_goodOf_47 : decode cX5_goodOf 47 = .ok (.if_icmp .eq 7, 3) := by decide +kernel
theorem dX5_goodOf_50 : decode cX5_goodOf 50 = .ok (.iconst 1, 1) := by decide +kernel
theorem dX5_goodOf_51 : decode cX5_goodOf 51 = .ok (.goto 4, 3) := by decide +kernel
theorem dX5_goodOf_54 : decode cX5_goodOf 54 = .ok (.iconst 0, 1) := by decide +kernel
theorem dX5_goodOf_55 : decode cX5_goodOf 55 = .ok (.istore_n 2, 1) := by decide +kernel
theorem dX5_goodOf_56 : decode cX5_goodOf 56 = .ok (.iinc 3 1, 3) := by decide +kernel
theorem dX5_goodOf_59 : decode cX5_goodOf 59 = .ok (.goto (-33), 3) := by decide +kernel
theorem dX5_goodOf_62 : decode cX5_goodOf 62 = .ok (.iload_n 2, 1) := by decide +kernel
theorem dX5_goodOf_63 : decode cX5_goodOf 63 = .ok (.ifCond .eq 7, 3) := by decide +kernel
theorem dX5_goodOf_66 : decode cX5_goodOf 66 = .ok (.iconst 1, 1) := by decide +kernel
theorem dX5_goodOf_67 : decode cX5_goodOf 67 = .ok (.goto 4, 3) := by decide +kernel
theorem dX5_goodOf_70 : decode cX5_goodOf 70 = .ok (.iconst 0, 1) := by decide +kernel
theorem dX5_goodOf_71 : decode cX5_goodOf 71 = .ok (.ireturn, 1) := by decide +kernel
theorem dX5_good_0 : decode cX5_good 0 = .ok (.iload_n 1, 1) := by decide +kernel
theorem dX5_good_1 : decode cX5_good 1 = .ok (.iconst 0, 1) := by decide +kernel
theorem dX5_good_2 : decode cX5_good 2 = .ok (.aload_n 0, 1) := by decide +kernel
theorem dX5_good_3 : decode cX5_good 3 = .ok (.getfield 152, 3) := by decide +kernel
theorem dX5_good_6 : decode cX5_good 6 = .ok (.iconst 1, 1) := by decide +kernel
theorem dX5_good_7 : decode cX5_good 7 = .ok (.isub, 1) := by decide +kernel
theorem dX5_good_8 : decode cX5_good 8 = .ok (.invokestatic 89, 3) := by decide +kernel
theorem dX5_good_11 : decode cX5_good 11 = .ok (.ifCond .eq 11, 3) := by decide +kernel
theorem dX5_good_14 : decode cX5_good 14 = .ok (.aload_n 0, 1) := by decide +kernel
theorem dX5_good_15 : decode cX5_good 15 = .ok (.iload_n 1, 1) := by decide +kernel
theorem dX5_good_16 : decode cX5_good 16 = .ok (.invokevirtual 231, 3) := by decide +kernel
theorem dX5_good_19 : decode cX5_good 19 = .ok (.goto 5, 3) := by decide +kernel
theorem dX5_good_22 : decode cX5_good 22 = .ok (.bipush (-2), 2) := by decide +kernel
theorem dX5_good_24 : decode cX5_good 24 = .ok (.ireturn, 1) := by decide +kernel
theorem dX5_agreeOf_0 : decode cX5_agreeOf 0 = .ok (.aload_n 0, 1) := by decide +kernel
theorem dX5_agreeOf_1 : decode cX5_agreeOf 1 = .ok (.getfield 19, 3) := by decide +kernel
theorem dX5_agreeOf_4 : decode cX5_agreeOf 4 = .ok (.iload_n 1, 1) := by decide +kernel
theorem dX5_agreeOf_5 : decode cX5_agreeOf 5 = .ok (.iaload, 1) := by decide +kernel
theorem dX5_agreeOf_6 : decode cX5_agreeOf 6 = .ok (.i2l, 1) := by decide +kernel
theorem dX5_agreeOf_7 : decode cX5_agreeOf 7 = .ok (.aload_n 0, 1) := by decide +kernel
theorem dX5_agreeOf_8 : decode cX5_agreeOf 8 = .ok (.getfield 19, 3) := by decide +kernel
theorem dX5_agreeOf_11 : decode cX5_agreeOf 11 = .ok (.iload_n 2, 1) := by decide +kernel
theorem dX5_agreeOf_12 : decode cX5_agreeOf 12 = .ok (.iaload, 1) := by decide +kernel
theorem dX5_agreeOf_13 : decode cX5_agreeOf 13 = .ok (.i2l, 1) := by decide +kernel
theorem dX5_agreeOf_14 : decode cX5_agreeOf 14 = .ok (.lmul, 1) := by decide +kernel
theorem dX5_agreeOf_15 : decode cX5_agreeOf 15 = .ok (.aload_n 0, 1) := by decide +kernel
theorem dX5_agreeOf_16 : decode cX5_agreeOf 16 = .ok (.getfield 19, 3) := by decide +kernel
theorem dX5_agreeOf_19 : decode cX5_agreeOf 19 = .ok (.iload_n 1, 1) := by decide +kernel
theorem dX5_agreeOf_20 : decode cX5_agreeOf 20 = .ok (.iaload, 1) := by decide +kernel
theorem dX5_agreeOf_21 : decode cX5_agreeOf 21 = .ok (.aload_n 0, 1) := by decide +kernel
theorem dX5_agreeOf_22 : decode cX5_agreeOf 22 = .ok (.getfield 19, 3) := by decide +kernel
theorem dX5_agreeOf_25 : decode cX5_agreeOf 25 = .ok (.iload_n 2, 1) := by decide +kernel
theorem dX5_agreeOf_26 : decode cX5_agreeOf 26 = .ok (.iaload, 1) := by decide +kernel
theorem dX5_agreeOf_27 : decode cX5_agreeOf 27 = .ok (.invokestatic 234, 3) := by decide +kernel
theorem dX5_agreeOf_30 : decode cX5_agreeOf 30 = .ok (.i2l, 1) := by decide +kernel
theorem dX5_agreeOf_31 : decode cX5_agreeOf 31 = .ok (.ldiv, 1) := by decide +kernel
theorem dX5_agreeOf_32 : decode cX5_agreeOf 32 = .ok (.l2i, 1) := by decide +kernel
theorem dX5_agreeOf_33 : decode cX5_agreeOf 33 = .ok (.istore 5, 2) := by decide +kernel
theorem dX5_agreeOf_35 : decode cX5_agreeOf 35 = .ok (.aload_n 0, 1) := by decide +kernel
theorem dX5_agreeOf_36 : decode cX5_agreeOf 36 = .ok (.getfield 22, 3) := by decide +kernel
theorem dX5_agreeOf_39 : decode cX5_agreeOf 39 = .ok (.iload_n 1, 1) := by decide +kernel
theorem dX5_agreeOf_40 : decode cX5_agreeOf 40 = .ok (.iaload, 1) := by decide +kernel
theorem dX5_agreeOf_41 : decode cX5_agreeOf 41 = .ok (.aload_n 0, 1) := by decide +kernel
theorem dX5_agreeOf_42 : decode cX5_agreeOf 42 = .ok (.getfield 22, 3) := by decide +kernel
theorem dX5_agreeOf_45 : decode cX5_agreeOf 45 = .ok (.iload_n 2, 1) := by decide +kernel
theorem dX5_agreeOf_46 : decode cX5_agreeOf 46 = .ok (.iaload, 1) := by decide +kernel
theorem dX5_agreeOf_47 : decode cX5_agreeOf 47 = .ok (.if_icmp .le 12, 3) := by decide +kernel
theorem dX5_agreeOf_50 : decode cX5_agreeOf 50 = .ok (.aload_n 0, 1) := by decide +kernel
theorem dX5_agreeOf_51 : decode cX5_agreeOf 51 = .ok (.getfield 22, 3) := by decide +kernel
theorem dX5_agreeOf_54 : decode cX5_agreeOf 54 = .ok (.iload_n 1, 1) := by decide +kernel
theorem dX5_agreeOf_55 : decode cX5_agreeOf 55 = .ok (.iaload, 1) := by decide +kernel
theorem dX5_agreeOf_56 : decode cX5_agreeOf 56 = .ok (.goto 9, 3) := by decide +kernel
theorem dX5_agreeOf_59 : decode cX5_agreeOf 59 = .ok (.aload_n 0, 1) := by decide +kernel
theorem dX5_agreeOf_60 : decode cX5_agreeOf 60 = .ok (.getfield 22, 3) := by decide +kernel
theorem dX5_agreeOf_63 : decode cX5_agreeOf 63 = .ok (.iload_n 2, 1) := by decide +kernel
theorem dX5_agreeOf_64 : decode cX5_agreeOf 64 = .ok (.iaload, 1) := by decide +kernel
theorem dX5_agreeOf_65 : decode cX5_agreeOf 65 = .ok (.istore 6, 2) := by decide +kernel
theorem dX5_agreeOf_67 : decode cX5_agreeOf 67 = .ok (.iload_n 3, 1) := by decide +kernel
theorem dX5_agreeOf_68 : decode cX5_agreeOf 68 = .ok (.iload 6, 2) := by decide +kernel
theorem dX5_agreeOf_70 : decode cX5_agreeOf 70 = .ok (.if_icmp .le 7, 3) := by decide +kernel
theorem dX5_agreeOf_73 : decode cX5_agreeOf 73 = .ok (.iload_n 3, 1) := by decide +kernel
theorem dX5_agreeOf_74 : decode cX5_agreeOf 74 = .ok (.goto 5, 3) := by decide +kernel
theorem dX5_agreeOf_77 : decode cX5_agreeOf 77 = .ok (.iload 6, 2) := by decide +kernel
theorem dX5_agreeOf_79 : decode cX5_agreeOf 79 = .ok (.istore 6, 2) := by decide +kernel
theorem dX5_agreeOf_81 : decode cX5_agreeOf 81 = .ok (.iload 6, 2) := by decide +kernel
theorem dX5_agreeOf_83 : decode cX5_agreeOf 83 = .ok (.istore 7, 2) := by decide +kernel
theorem dX5_agreeOf_85 : decode cX5_agreeOf 85 = .ok (.iload 7, 2) := by decide +kernel
theorem dX5_agreeOf_87 : decode cX5_agreeOf 87 = .ok (.iload 6, 2) := by decide +kernel
theorem dX5_agreeOf_89 : decode cX5_agreeOf 89 = .ok (.iload 5, 2) := by decide +kernel
theorem dX5_agreeOf_91 : decode cX5_agreeOf 91 = .ok (.iadd, 1) := by decide +kernel
theorem dX5_agreeOf_92 : decode cX5_agreeOf 92 = .ok (.if_icmp .ge 42, 3) := by decide +kernel
theorem dX5_agreeOf_95 : decode cX5_agreeOf 95 = .ok (.aload_n 0, 1) := by decide +kernel
theorem dX5_agreeOf_96 : decode cX5_agreeOf 96 = .ok (.iload_n 1, 1) := by decide +kernel
theorem dX5_agreeOf_97 : decode cX5_agreeOf 97 = .ok (.iload 7, 2) := by decide +kernel
theorem dX5_agreeOf_99 : decode cX5_agreeOf 99 = .ok (.invokevirtual 179, 3) := by decide +kernel
theorem dX5_agreeOf_102 : decode cX5_agreeOf 102 = .ok (.ifCond .eq 26, 3) := by decide +kernel
theorem dX5_agreeOf_105 : decode cX5_agreeOf 105 = .ok (.aload_n 0, 1) := by decide +kernel
theorem dX5_agreeOf_106 : decode cX5_agreeOf 106 = .ok (.iload_n 2, 1) := by decide +kernel
theorem dX5_agreeOf_107 : decode cX5_agreeOf 107 = .ok (.iload 7, 2) := by decide +kernel
theorem dX5_agreeOf_109 : decode cX5_agreeOf 109 = .ok (.invokevirtual 179, 3) := by decide +kernel
theorem dX5_agreeOf_112 : decode cX5_agreeOf 112 = .ok (.ifCond .eq 16, 3) := by decide +kernel
theorem dX5_agreeOf_115 : decode cX5_agreeOf 115 = .ok (.iload 4, 2) := by decide +kernel
theorem dX5_agreeOf_117 : decode cX5_agreeOf 117 = .ok (.ifCond .ne 8, 3) := by decide +kernel
theorem dX5_agreeOf_120 : decode cX5_agreeOf 120 = .ok (.iload 7, 2) := by decide +kernel
theorem dX5_agreeOf_122 : decode cX5_agreeOf 122 = .ok (.goto 5, 3) := by decide +kernel
theorem dX5_agreeOf_125 : decode cX5_agreeOf 125 = .ok (.iload 5, 2) := by decide +kernel
theorem dX5_agreeOf_127 : decode cX5_agreeOf 127 = .ok (.ireturn, 1) := by decide +kernel
theorem dX5_agreeOf_128 : decode cX5_agreeOf 128 = .ok (.iinc 7 1, 3) := by decide +kernel
theorem dX5_agreeOf_131 : decode cX5_agreeOf 131 = .ok (.goto (-46), 3) := by decide +kernel
theorem dX5_agreeOf_134 : decode cX5_agreeOf 134 = .ok (.iconst (-1), 1) := by decide +kernel
theorem dX5_agreeOf_135 : decode cX5_agreeOf 135 = .ok (.ireturn, 1) := by decide +kernel
theorem dX5_lowestBy_0 : decode cX5_lowestBy 0 = .ok (.iload_n 0, 1) := by decide +kernel
theorem dX5_lowestBy_1 : decode cX5_lowestBy 1 = .ok (.istore_n 2, 1) := by decide +kernel
theorem dX5_lowestBy_2 : decode cX5_lowestBy 2 = .ok (.iload_n 1, 1) := by decide +kernel
theorem dX5_lowestBy_3 : decode cX5_lowestBy 3 = .ok (.istore_n 3, 1) := by decide +kernel
theorem dX5_lowestBy_4 : decode cX5_lowestBy 4 = .ok (.iload_n 3, 1) := by decide +kernel
theorem dX5_lowestBy_5 : decode cX5_lowestBy 5 = .ok (.ifCond .eq 16, 3) := by decide +kernel
theorem dX5_lowestBy_8 : decode cX5_lowestBy 8 = .ok (.iload_n 2, 1) := by decide +kernel
theorem dX5_lowestBy_9 : decode cX5_lowestBy 9 = .ok (.iload_n 3, 1) := by decide +kernel
theorem dX5_lowestBy_10 : decode cX5_lowestBy 10 = .ok (.irem, 1) := by decide +kernel
theorem dX5_lowestBy_11 : decode cX5_lowestBy 11 = .ok (.istore 4, 2) := by decide +kernel
theorem dX5_lowestBy_13 : decode cX5_lowestBy 13 = .ok (.iload_n 3, 1) := by decide +kernel
theorem dX5_lowestBy_14 : decode cX5_lowestBy 14 = .ok (.istore_n 2, 1) := by decide +kernel
theorem dX5_lowestBy_15 : decode cX5_lowestBy 15 = .ok (.iload 4, 2) := by decide +kernel
theorem dX5_lowestBy_17 : decode cX5_lowestBy 17 = .ok (.istore_n 3, 1) := by decide +kernel
theorem dX5_lowestBy_18 : decode cX5_lowestBy 18 = .ok (.goto (-14), 3) := by decide +kernel
theorem dX5_lowestBy_21 : decode cX5_lowestBy 21 = .ok (.iload_n 2, 1) := by decide +kernel
theorem dX5_lowestBy_22 : decode cX5_lowestBy 22 = .ok (.ireturn, 1) := by decide +kernel
theorem dX5_agree_0 : decode cX5_agree 0 = .ok (.aload_n 0, 1) := by decide +kernel
theorem dX5_agree_1 : decode cX5_agree 1 = .ok (.iload_n 1, 1) := by decide +kernel
theorem dX5_agree_2 : decode cX5_agree 2 = .ok (.invokevirtual 125, 3) := by decide +kernel
theorem dX5_agree_5 : decode cX5_agree 5 = .ok (.ifCond .eq 45, 3) := by decide +kernel
theorem dX5_agree_8 : decode cX5_agree 8 = .ok (.aload_n 0, 1) := by decide +kernel
theorem dX5_agree_9 : decode cX5_agree 9 = .ok (.iload_n 2, 1) := by decide +kernel
theorem dX5_agree_10 : decode cX5_agree 10 = .ok (.invokevirtual 125, 3) := by decide +kernel
theorem dX5_agree_13 : decode cX5_agree 13 = .ok (.ifCond .eq 37, 3) := by decide +kernel
theorem dX5_agree_16 : decode cX5_agree 16 = .ok (.iload_n 1, 1) := by decide +kernel
theorem dX5_agree_17 : decode cX5_agree 17 = .ok (.iload_n 2, 1) := by decide +kernel
theorem dX5_agree_18 : decode cX5_agree 18 = .ok (.if_icmp .eq 32, 3) := by decide +kernel
theorem dX5_agree_21 : decode cX5_agree 21 = .ok (.iload_n 3, 1) := by decide +kernel
theorem dX5_agree_22 : decode cX5_agree 22 = .ok (.invokestatic 143, 3) := by decide +kernel
theorem dX5_agree_25 : decode cX5_agree 25 = .ok (.ifCond .eq 25, 3) := by decide +kernel
theorem dX5_agree_28 : decode cX5_agree 28 = .ok (.iload 4, 2) := by decide +kernel
theorem dX5_agree_30 : decode cX5_agree 30 = .ok (.iconst 0, 1) := by decide +kernel
theorem dX5_agree_31 : decode cX5_agree 31 = .ok (.iconst 1, 1) := by decide +kernel
theorem dX5_agree_32 : decode cX5_agree 32 = .ok (.invokestatic 89, 3) := by decide +kernel
theorem dX5_agree_35 : decode cX5_agree 35 = .ok (.ifCond .eq 15, 3) := by decide +kernel
theorem dX5_agree_38 : decode cX5_agree 38 = .ok (.aload_n 0, 1) := by decide +kernel
theorem dX5_agree_39 : decode cX5_agree 39 = .ok (.iload_n 1, 1) := by decide +kernel
theorem dX5_agree_40 : decode cX5_agree 40 = .ok (.iload_n 2, 1) := by decide +kernel
theorem dX5_agree_41 : decode cX5_agree 41 = .ok (.iload_n 3, 1) := by decide +kernel
theorem dX5_agree_42 : decode cX5_agree 42 = .ok (.iload 4, 2) := by decide +kernel
theorem dX5_agree_44 : decode cX5_agree 44 = .ok (.invokevirtual 237, 3) := by decide +kernel
theorem dX5_agree_47 : decode cX5_agree 47 = .ok (.goto 5, 3) := by decide +kernel
theorem dX5_agree_50 : decode cX5_agree 50 = .ok (.bipush (-2), 2) := by decide +kernel
theorem dX5_agree_52 : decode cX5_agree 52 = .ok (.ireturn, 1) := by decide +kernel
theorem dX5_runOf_0 : decode cX5_runOf 0 = .ok (.aload_n 0, 1) := by decide +kernel
theorem dX5_runOf_1 : decode cX5_runOf 1 = .ok (.invokevirtual 198, 3) := by decide +kernel
theorem dX5_runOf_4 : decode cX5_runOf 4 = .ok (.iconst 0, 1) := by decide +kernel
theorem dX5_runOf_5 : decode cX5_runOf 5 = .ok (.istore_n 3, 1) := by decide +kernel
theorem dX5_runOf_6 : decode cX5_runOf 6 = .ok (.iload_n 3, 1) := by decide +kernel
theorem dX5_runOf_7 : decode cX5_runOf 7 = .ok (.sipush 401, 3) := by decide +kernel
theorem dX5_runOf_10 : decode cX5_runOf 10 = .ok (.if_icmp .ge 16, 3) := by decide +kernel
theorem dX5_runOf_13 : decode cX5_runOf 13 = .ok (.aload_n 0, 1) := by decide +kernel
theorem dX5_runOf_14 : decode cX5_runOf 14 = .ok (.getfield 58, 3) := by decide +kernel
theorem dX5_runOf_17 : decode cX5_runOf 17 = .ok (.iload_n 3, 1) := by decide +kernel
theorem dX5_runOf_18 : decode cX5_runOf 18 = .ok (.iconst 0, 1) := by decide +kernel
theorem dX5_runOf_19 : decode cX5_runOf 19 = .ok (.bastore, 1) := by decide +kernel
theorem dX5_runOf_20 : decode cX5_runOf 20 = .ok (.iinc 3 1, 3) := by decide +kernel
theorem dX5_runOf_23 : decode cX5_runOf 23 = .ok (.goto (-17), 3) := by decide +kernel
theorem dX5_runOf_26 : decode cX5_runOf 26 = .ok (.iconst 0, 1) := by decide +kernel
theorem dX5_runOf_27 : decode cX5_runOf 27 = .ok (.istore_n 3, 1) := by decide +kernel
theorem dX5_runOf_28 : decode cX5_runOf 28 = .ok (.iload_n 3, 1) := by decide +kernel
theorem dX5_runOf_29 : decode cX5_runOf 29 = .ok (.sipush 240, 3) := by decide +kernel
theorem dX5_runOf_32 : decode cX5_runOf 32 = .ok (.if_icmp .ge 21, 3) := by decide +kernel
theorem dX5_runOf_35 : decode cX5_runOf 35 = .ok (.aload_n 0, 1) := by decide +kernel
theorem dX5_runOf_36 : decode cX5_runOf 36 = .ok (.getfield 58, 3) := by decide +kernel
theorem dX5_runOf_39 : decode cX5_runOf 39 = .ok (.aload_n 0, 1) := by decide +kernel
theorem dX5_runOf_40 : decode cX5_runOf 40 = .ok (.getfield 55, 3) := by decide +kernel
theorem dX5_runOf_43 : decode cX5_runOf 43 = .ok (.iload_n 3, 1) := by decide +kernel
theorem dX5_runOf_44 : decode cX5_runOf 44 = .ok (.iaload, 1) := by decide +kernel
theorem dX5_runOf_45 : decode cX5_runOf 45 = .ok (.iconst 1, 1) := by decide +kernel
theorem dX5_runOf_46 : decode cX5_runOf 46 = .ok (.bastore, 1) := by decide +kernel
theorem dX5_runOf_47 : decode cX5_runOf 47 = .ok (.iinc 3 1, 3) := by decide +kernel
theorem dX5_runOf_50 : decode cX5_runOf 50 = .ok (.goto (-22), 3) := by decide +kernel
theorem dX5_runOf_53 : decode cX5_runOf 53 = .ok (.iconst (-1), 1) := by decide +kernel
theorem dX5_runOf_54 : decode cX5_runOf 54 = .ok (.istore_n 3, 1) := by decide +kernel
theorem dX5_runOf_55 : decode cX5_runOf 55 = .ok (.iconst (-1), 1) := by decide +kernel
theorem dX5_runOf_56 : decode cX5_runOf 56 = .ok (.istore 4, 2) := by decide +kernel
theorem dX5_runOf_58 : decode cX5_runOf 58 = .ok (.iconst 1, 1) := by decide +kernel
theorem dX5_runOf_59 : decode cX5_runOf 59 = .ok (.istore 5, 2) := by decide +kernel
theorem dX5_runOf_61 : decode cX5_runOf 61 = .ok (.iload 5, 2) := by decide +kernel
theorem dX5_runOf_63 : decode cX5_runOf 63 = .ok (.iload_n 1, 1) := by decide +kernel
theorem dX5_runOf_64 : decode cX5_runOf 64 = .ok (.iadd, 1) := by decide +kernel
theorem dX5_runOf_65 : decode cX5_runOf 65 = .ok (.iconst 1, 1) := by decide +kernel
theorem dX5_runOf_66 : decode cX5_runOf 66 = .ok (.isub, 1) := by decide +kernel
theorem dX5_runOf_67 : decode cX5_runOf 67 = .ok (.aload_n 0, 1) := by decide +kernel
theorem dX5_runOf_68 : decode cX5_runOf 68 = .ok (.getfield 176, 3) := by decide +kernel
theorem dX5_runOf_71 : decode cX5_runOf 71 = .ok (.if_icmp .gt 86, 3) := by decide +kernel
theorem dX5_runOf_74 : decode cX5_runOf 74 = .ok (.iconst 0, 1) := by decide +kernel
theorem dX5_runOf_75 : decode cX5_runOf 75 = .ok (.istore 6, 2) := by decide +kernel
theorem dX5_runOf_77 : decode cX5_runOf 77 = .ok (.iload 5, 2) := by decide +kernel
theorem dX5_runOf_79 : decode cX5_runOf 79 = .ok (.istore 7, 2) := by decide +kernel
theorem dX5_runOf_81 : decode cX5_runOf 81 = .ok (.iload 7, 2) := by decide +kernel
theorem dX5_runOf_83 : decode cX5_runOf 83 = .ok (.iload 5, 2) := by decide +kernel
theorem dX5_runOf_85 : decode cX5_runOf 85 = .ok (.iload_n 1, 1) := by decide +kernel
theorem dX5_runOf_86 : decode cX5_runOf 86 = .ok (.iadd, 1) := by decide +kernel
theorem dX5_runOf_87 : decode cX5_runOf 87 = .ok (.if_icmp .ge 34, 3) := by decide +kernel
theorem dX5_runOf_90 : decode cX5_runOf 90 = .ok (.iload 6, 2) := by decide +kernel
theorem dX5_runOf_92 : decode cX5_runOf 92 = .ok (.aload_n 0, 1) := by decide +kernel
theorem dX5_runOf_93 : decode cX5_runOf 93 = .ok (.getfield 58, 3) := by decide +kernel
theorem dX5_runOf_96 : decode cX5_runOf 96 = .ok (.iload 7, 2) := by decide +kernel
theorem dX5_runOf_98 : decode cX5_runOf 98 = .ok (.baload, 1) := by decide +kernel
theorem dX5_runOf_99 : decode cX5_runOf 99 = .ok (.ifCond .eq 12, 3) := by decide +kernel
theorem dX5_runOf_102 : decode cX5_runOf 102 = .ok (.aload_n 0, 1) := by decide +kernel
theorem dX5_runOf_103 : decode cX5_runOf 103 = .ok (.iload 7, 2) := by decide +kernel
theorem dX5_runOf_105 : decode cX5_runOf 105 = .ok (.invokevirtual 216, 3) := by decide +kernel
theorem dX5_runOf_108 : decode cX5_runOf 108 = .ok (.goto 4, 3) := by decide +kernel
theorem dX5_runOf_111 : decode cX5_runOf 111 = .ok (.iconst 0, 1) := by decide +kernel
theorem dX5_runOf_112 : decode cX5_runOf 112 = .ok (.iadd, 1) := by decide +kernel
theorem dX5_runOf_113 : decode cX5_runOf 113 = .ok (.istore 6, 2) := by decide +kernel
theorem dX5_runOf_115 : decode cX5_runOf 115 = .ok (.iinc 7 1, 3) := by decide +kernel
theorem dX5_runOf_118 : decode cX5_runOf 118 = .ok (.goto (-37), 3) := by decide +kernel
theorem dX5_runOf_121 : decode cX5_runOf 121 = .ok (.iload 6, 2) := by decide +kernel
theorem dX5_runOf_123 : decode cX5_runOf 123 = .ok (.iload 4, 2) := by decide +kernel
theorem dX5_runOf_125 : decode cX5_runOf 125 = .ok (.if_icmp .le 8, 3) := by decide +kernel
theorem dX5_runOf_128 : decode cX5_runOf 128 = .ok (.iload 5, 2) := by decide +kernel
theorem dX5_runOf_130 : decode cX5_runOf 130 = .ok (.goto 4, 3) := by decide +kernel
theorem dX5_runOf_133 : decode cX5_runOf 133 = .ok (.iload_n 3, 1) := by decide +kernel
theorem dX5_runOf_134 : decode cX5_runOf 134 = .ok (.istore_n 3, 1) := by decide +kernel
theorem dX5_runOf_135 : decode cX5_runOf 135 = .ok (.iload 6, 2) := by decide +kernel
theorem dX5_runOf_137 : decode cX5_runOf 137 = .ok (.iload 4, 2) := by decide +kernel
theorem dX5_runOf_139 : decode cX5_runOf 139 = .ok (.if_icmp .le 8, 3) := by decide +kernel
theorem dX5_runOf_142 : decode cX5_runOf 142 = .ok (.iload 6, 2) := by decide +kernel
theorem dX5_runOf_144 : decode cX5_runOf 144 = .ok (.goto 5, 3) := by decide +kernel
theorem dX5_runOf_147 : decode cX5_runOf 147 = .ok (.iload 4, 2) := by decide +kernel
theorem dX5_runOf_149 : decode cX5_runOf 149 = .ok (.istore 4, 2) := by decide +kernel
theorem dX5_runOf_151 : decode cX5_runOf 151 = .ok (.iinc 5 1, 3) := by decide +kernel
theorem dX5_runOf_154 : decode cX5_runOf 154 = .ok (.goto (-93), 3) := by decide +kernel
theorem dX5_runOf_157 : decode cX5_runOf 157 = .ok (.iload_n 2, 1) := by decide +kernel
theorem dX5_runOf_158 : decode cX5_runOf 158 = .ok (.ifCond .ne 7, 3) := by decide +kernel
theorem dX5_runOf_161 : decode cX5_runOf 161 = .ok (.iload_n 3, 1) := by decide +kernel
theorem dX5_runOf_162 : decode cX5_runOf 162 = .ok (.goto 5, 3) := by decide +kernel
theorem dX5_runOf_165 : decode cX5_runOf 165 = .ok (.iload 4, 2) := by decide +kernel
theorem dX5_runOf_167 : decode cX5_runOf 167 = .ok (.ireturn, 1) := by decide +kernel
theorem dX5_run_0 : decode cX5_run 0 = .ok (.iload_n 1, 1) := by decide +kernel
theorem dX5_run_1 : decode cX5_run 1 = .ok (.iconst 1, 1) := by decide +kernel
theorem dX5_run_2 : decode cX5_run 2 = .ok (.bipush 9, 2) := by decide +kernel
theorem dX5_run_4 : decode cX5_run 4 = .ok (.invokestatic 89, 3) := by decide +kernel
theorem dX5_run_7 : decode cX5_run 7 = .ok (.ifCond .eq 21, 3) := by decide +kernel
theorem dX5_run_10 : decode cX5_run 10 = .ok (.iload_n 2, 1) := by decide +kernel
theorem dX5_run_11 : decode cX5_run 11 = .ok (.iconst 0, 1) := by decide +kernel
theorem dX5_run_12 : decode cX5_run 12 = .ok (.iconst 1, 1) := by decide +kernel
theorem dX5_run_13 : decode cX5_run 13 = .ok (.invokestatic 89, 3) := by decide +kernel
theorem dX5_run_16 : decode cX5_run 16 = .ok (.ifCond .eq 12, 3) := by decide +kernel
theorem dX5_run_19 : decode cX5_run 19 = .ok (.aload_n 0, 1) := by decide +kernel
theorem dX5_run_20 : decode cX5_run 20 = .ok (.iload_n 1, 1) := by decide +kernel
theorem dX5_run_21 : decode cX5_run 21 = .ok (.iload_n 2, 1) := by decide +kernel
theorem dX5_run_22 : decode cX5_run 22 = .ok (.invokevirtual 241, 3) := by decide +kernel
theorem dX5_run_25 : decode cX5_run 25 = .ok (.goto 5, 3) := by decide +kernel
theorem dX5_run_28 : decode cX5_run 28 = .ok (.bipush (-2), 2) := by decide +kernel
theorem dX5_run_30 : decode cX5_run 30 = .ok (.ireturn, 1) := by decide +kernel
theorem dX5_barOf_0 : decode cX5_barOf 0 = .ok (.aload_n 0, 1) := by decide +kernel
theorem dX5_barOf_1 : decode cX5_barOf 1 = .ok (.invokevirtual 198, 3) := by decide +kernel
theorem dX5_barOf_4 : decode cX5_barOf 4 = .ok (.iconst 0, 1) := by decide +kernel
theorem dX5_barOf_5 : decode cX5_barOf 5 = .ok (.istore_n 2, 1) := by decide +kernel
theorem dX5_barOf_6 : decode cX5_barOf 6 = .ok (.iload_n 2, 1) := by decide +kernel
theorem dX5_barOf_7 : decode cX5_barOf 7 = .ok (.bipush 55, 2) := by decide +kernel
theorem dX5_barOf_9 : decode cX5_barOf 9 = .ok (.if_icmp .ge 64, 3) := by decide +kernel
theorem dX5_barOf_12 : decode cX5_barOf 12 = .ok (.iconst 0, 1) := by decide +kernel
theorem dX5_barOf_13 : decode cX5_barOf 13 = .ok (.istore_n 3, 1) := by decide +kernel
theorem dX5_barOf_14 : decode cX5_barOf 14 = .ok (.iconst 0, 1) := by decide +kernel
theorem dX5_barOf_15 : decode cX5_barOf 15 = .ok (.istore 4, 2) := by decide +kernel
theorem dX5_barOf_17 : decode cX5_barOf 17 = .ok (.iload 4, 2) := by decide +kernel
theorem dX5_barOf_19 : decode cX5_barOf 19 = .ok (.sipush 240, 3) := by decide +kernel
theorem dX5_barOf_22 : decode cX5_barOf 22 = .ok (.if_icmp .ge 38, 3) := by decide +kernel
theorem dX5_barOf_25 : decode cX5_barOf 25 = .ok (.iload_n 3, 1) := by decide +kernel
theorem dX5_barOf_26 : decode cX5_barOf 26 = .ok (.aload_n 0, 1) := by decide +kernel
theorem dX5_barOf_27 : decode cX5_barOf 27 = .ok (.getfield 49, 3) := by decide +kernel
theorem dX5_barOf_30 : decode cX5_barOf 30 = .ok (.iload 4, 2) := by decide +kernel
theorem dX5_barOf_32 : decode cX5_barOf 32 = .ok (.iaload, 1) := by decide +kernel
theorem dX5_barOf_33 : decode cX5_barOf 33 = .ok (.ifCond .le 18, 3) := by decide +kernel
theorem dX5_barOf_36 : decode cX5_barOf 36 = .ok (.aload_n 0, 1) := by decide +kernel
theorem dX5_barOf_37 : decode cX5_barOf 37 = .ok (.getfield 49, 3) := by decide +kernel
theorem dX5_barOf_40 : decode cX5_barOf 40 = .ok (.iload 4, 2) := by decide +kernel
theorem dX5_barOf_42 : decode cX5_barOf 42 = .ok (.iaload, 1) := by decide +kernel
theorem dX5_barOf_43 : decode cX5_barOf 43 = .ok (.iload_n 2, 1) := by decide +kernel
theorem dX5_barOf_44 : decode cX5_barOf 44 = .ok (.if_icmp .lt 7, 3) := by decide +kernel
theorem dX5_barOf_47 : decode cX5_barOf 47 = .ok (.iconst 1, 1) := by decide +kernel
theorem dX5_barOf_48 : decode cX5_barOf 48 = .ok (.goto 4, 3) := by decide +kernel
theorem dX5_barOf_51 : decode cX5_barOf 51 = .ok (.iconst 0, 1) := by decide +kernel
theorem dX5_barOf_52 : decode cX5_barOf 52 = .ok (.iadd, 1) := by decide +kernel
theorem dX5_barOf_53 : decode cX5_barOf 53 = .ok (.istore_n 3, 1) := by decide +kernel
theorem dX5_barOf_54 : decode cX5_barOf 54 = .ok (.iinc 4 1, 3) := by decide +kernel
theorem dX5_barOf_57 : decode cX5_barOf 57 = .ok (.goto (-40), 3) := by decide +kernel
theorem dX5_barOf_60 : decode cX5_barOf 60 = .ok (.iload_n 3, 1) := by decide +kernel
theorem dX5_barOf_61 : decode cX5_barOf 61 = .ok (.iload_n 1, 1) := by decide +kernel
theorem dX5_barOf_62 : decode cX5_barOf 62 = .ok (.if_icmp .gt 5, 3) := by decide +kernel
theorem dX5_barOf_65 : decode cX5_barOf 65 = .ok (.iload_n 2, 1) := by decide +kernel
theorem dX5_barOf_66 : decode cX5_barOf 66 = .ok (.ireturn, 1) := by decide +kernel
theorem dX5_barOf_67 : decode cX5_barOf 67 = .ok (.iinc 2 1, 3) := by decide +kernel
theorem dX5_barOf_70 : decode cX5_barOf 70 = .ok (.goto (-64), 3) := by decide +kernel
theorem dX5_barOf_73 : decode cX5_barOf 73 = .ok (.bipush 55, 2) := by decide +kernel
theorem dX5_barOf_75 : decode cX5_barOf 75 = .ok (.ireturn, 1) := by decide +kernel
theorem dX5_bar_0 : decode cX5_bar 0 = .ok (.iload_n 1, 1) := by decide +kernel
theorem dX5_bar_1 : decode cX5_bar 1 = .ok (.iconst 0, 1) := by decide +kernel
theorem dX5_bar_2 : decode cX5_bar 2 = .ok (.sipush 240, 3) := by decide +kernel
theorem dX5_bar_5 : decode cX5_bar 5 = .ok (.invokestatic 89, 3) := by decide +kernel
theorem dX5_bar_8 : decode cX5_bar 8 = .ok (.ifCond .eq 11, 3) := by decide +kernel
theorem dX5_bar_11 : decode cX5_bar 11 = .ok (.aload_n 0, 1) := by decide +kernel
theorem dX5_bar_12 : decode cX5_bar 12 = .ok (.iload_n 1, 1) := by decide +kernel
theorem dX5_bar_13 : decode cX5_bar 13 = .ok (.invokevirtual 244, 3) := by decide +kernel
theorem dX5_bar_16 : decode cX5_bar 16 = .ok (.goto 5, 3) := by decide +kernel
theorem dX5_bar_19 : decode cX5_bar 19 = .ok (.bipush (-2), 2) := by decide +kernel
theorem dX5_bar_21 : decode cX5_bar 21 = .ok (.ireturn, 1) := by decide +kernel
theorem dX5_earnOf_0 : decode cX5_earnOf 0 = .ok (.aload_n 0, 1) := by decide +kernel
theorem dX5_earnOf_1 : decode cX5_earnOf 1 = .ok (.invokevirtual 198, 3) := by decide +kernel
theorem dX5_earnOf_4 : decode cX5_earnOf 4 = .ok (.iconst (-1), 1) := by decide +kernel
theorem dX5_earnOf_5 : decode cX5_earnOf 5 = .ok (.istore_n 3, 1) := by decide +kernel
theorem dX5_earnOf_6 : decode cX5_earnOf 6 = .ok (.aload_n 0, 1) := by decide +kernel
theorem dX5_earnOf_7 : decode cX5_earnOf 7 = .ok (.iload_n 1, 1) := by decide +kernel
theorem dX5_earnOf_8 : decode cX5_earnOf 8 = .ok (.invokevirtual 225, 3) := by decide +kernel
theorem dX5_earnOf_11 : decode cX5_earnOf 11 = .ok (.istore 4, 2) := by decide +kernel
theorem dX5_earnOf_13 : decode cX5_earnOf 13 = .ok (.aload_n 0, 1) := by decide +kernel
theorem dX5_earnOf_14 : decode cX5_earnOf 14 = .ok (.getfield 43, 3) := by decide +kernel
theorem dX5_earnOf_17 : decode cX5_earnOf 17 = .ok (.aload_n 0, 1) := by decide +kernel
theorem dX5_earnOf_18 : decode cX5_earnOf 18 = .ok (.getfield 152, 3) := by decide +kernel
theorem dX5_earnOf_21 : decode cX5_earnOf 21 = .ok (.iload_n 1, 1) := by decide +kernel
theorem dX5_earnOf_22 : decode cX5_earnOf 22 = .ok (.iastore, 1) := by decide +kernel
theorem dX5_earnOf_23 : decode cX5_earnOf 23 = .ok (.aload_n 0, 1) := by decide +kernel
theorem dX5_earnOf_24 : decode cX5_earnOf 24 = .ok (.aload_n 0, 1) := by decide +kernel
theorem dX5_earnOf_25 : decode cX5_earnOf 25 = .ok (.getfield 152, 3) := by decide +kernel
theorem dX5_earnOf_28 : decode cX5_earnOf 28 = .ok (.iconst 1, 1) := by decide +kernel
theorem dX5_earnOf_29 : decode cX5_earnOf 29 = .ok (.iadd, 1) := by decide +kernel
theorem dX5_earnOf_30 : decode cX5_earnOf 30 = .ok (.putfield 170, 3) := by decide +kernel
theorem dX5_earnOf_33 : decode cX5_earnOf 33 = .ok (.iconst 1, 1) := by decide +kernel
theorem dX5_earnOf_34 : decode cX5_earnOf 34 = .ok (.istore 5, 2) := by decide +kernel
theorem dX5_earnOf_36 : decode cX5_earnOf 36 = .ok (.iload 5, 2) := by decide +kernel
theorem dX5_earnOf_38 : decode cX5_earnOf 38 = .ok (.sipush 401, 3) := by decide +kernel
theorem dX5_earnOf_41 : decode cX5_earnOf 41 = .ok (.if_icmp .ge 57, 3) := by decide +kernel
theorem dX5_earnOf_44 : decode cX5_earnOf 44 = .ok (.aload_n 0, 1) := by decide +kernel
theorem dX5_earnOf_45 : decode cX5_earnOf 45 = .ok (.getfield 46, 3) := by decide +kernel
theorem dX5_earnOf_48 : decode cX5_earnOf 48 = .ok (.aload_n 0, 1) := by decide +kernel
theorem dX5_earnOf_49 : decode cX5_earnOf 49 = .ok (.getfield 152, 3) := by decide +kernel
theorem dX5_earnOf_52 : decode cX5_earnOf 52 = .ok (.iload 5, 2) := by decide +kernel
theorem dX5_earnOf_54 : decode cX5_earnOf 54 = .ok (.iastore, 1) := by decide +kernel
theorem dX5_earnOf_55 : decode cX5_earnOf 55 = .ok (.aload_n 0, 1) := by decide +kernel
theorem dX5_earnOf_56 : decode cX5_earnOf 56 = .ok (.iload_n 1, 1) := by decide +kernel
theorem dX5_earnOf_57 : decode cX5_earnOf 57 = .ok (.invokevirtual 225, 3) := by decide +kernel
theorem dX5_earnOf_60 : decode cX5_earnOf 60 = .ok (.istore 6, 2) := by decide +kernel
theorem dX5_earnOf_62 : decode cX5_earnOf 62 = .ok (.iload 6, 2) := by decide +kernel
theorem dX5_earnOf_64 : decode cX5_earnOf 64 = .ok (.iload 4, 2) := by decide +kernel
theorem dX5_earnOf_66 : decode cX5_earnOf 66 = .ok (.if_icmp .le 8, 3) := by decide +kernel
theorem dX5_earnOf_69 : decode cX5_earnOf 69 = .ok (.iload 5, 2) := by decide +kernel
theorem dX5_earnOf_71 : decode cX5_earnOf 71 = .ok (.goto 4, 3) := by decide +kernel
theorem dX5_earnOf_74 : decode cX5_earnOf 74 = .ok (.iload_n 3, 1) := by decide +kernel
theorem dX5_earnOf_75 : decode cX5_earnOf 75 = .ok (.istore_n 3, 1) := by decide +kernel
theorem dX5_earnOf_76 : decode cX5_earnOf 76 = .ok (.iload 6, 2) := by decide +kernel
theorem dX5_earnOf_78 : decode cX5_earnOf 78 = .ok (.iload 4, 2) := by decide +kernel
theorem dX5_earnOf_80 : decode cX5_earnOf 80 = .ok (.if_icmp .le 8, 3) := by decide +kernel
theorem dX5_earnOf_83 : decode cX5_earnOf 83 = .ok (.iload 6, 2) := by decide +kernel
theorem dX5_earnOf_85 : decode cX5_earnOf 85 = .ok (.goto 5, 3) := by decide +kernel
theorem dX5_earnOf_88 : decode cX5_earnOf 88 = .ok (.iload 4, 2) := by decide +kernel
theorem dX5_earnOf_90 : decode cX5_earnOf 90 = .ok (.istore 4, 2) := by decide +kernel
theorem dX5_earnOf_92 : decode cX5_earnOf 92 = .ok (.iinc 5 1, 3) := by decide +kernel
theorem dX5_earnOf_95 : decode cX5_earnOf 95 = .ok (.goto (-59), 3) := by decide +kernel
theorem dX5_earnOf_98 : decode cX5_earnOf 98 = .ok (.iload_n 3, 1) := by decide +kernel
theorem dX5_earnOf_99 : decode cX5_earnOf 99 = .ok (.iconst (-1), 1) := by decide +kernel
theorem dX5_earnOf_100 : decode cX5_earnOf 100 = .ok (.if_icmp .eq 7, 3) := by decide +kernel
theorem dX5_earnOf_103 : decode cX5_earnOf 103 = .ok (.iload_n 2, 1) := by decide +kernel
theorem dX5_earnOf_104 : decode cX5_earnOf 104 = .ok (.ifCond .ne 7, 3) := by decide +kernel
theorem dX5_earnOf_107 : decode cX5_earnOf 107 = .ok (.iload_n 3, 1) := by decide +kernel
theorem dX5_earnOf_108 : decode cX5_earnOf 108 = .ok (.goto 5, 3) := by decide +kernel
theorem dX5_earnOf_111 : decode cX5_earnOf 111 = .ok (.iload 4, 2) := by decide +kernel
theorem dX5_earnOf_113 : decode cX5_earnOf 113 = .ok (.ireturn, 1) := by decide +kernel
theorem dX5_earn_0 : decode cX5_earn 0 = .ok (.iload_n 1, 1) := by decide +kernel
theorem dX5_earn_1 : decode cX5_earn 1 = .ok (.iconst 0, 1) := by decide +kernel
theorem dX5_earn_2 : decode cX5_earn 2 = .ok (.bipush 7, 2) := by decide +kernel
theorem dX5_earn_4 : decode cX5_earn 4 = .ok (.invokestatic 89, 3) := by decide +kernel
theorem dX5_earn_7 : decode cX5_earn 7 = .ok (.ifCond .eq 21, 3) := by decide +kernel
theorem dX5_earn_10 : decode cX5_earn 10 = .ok (.iload_n 2, 1) := by decide +kernel
theorem dX5_earn_11 : decode cX5_earn 11 = .ok (.iconst 0, 1) := by decide +kernel
theorem dX5_earn_12 : decode cX5_earn 12 = .ok (.iconst 1, 1) := by decide +kernel
theorem dX5_earn_13 : decode cX5_earn 13 = .ok (.invokestatic 89, 3) := by decide +kernel
theorem dX5_earn_16 : decode cX5_earn 16 = .ok (.ifCond .eq 12, 3) := by decide +kernel
theorem dX5_earn_19 : decode cX5_earn 19 = .ok (.aload_n 0, 1) := by decide +kernel
theorem dX5_earn_20 : decode cX5_earn 20 = .ok (.iload_n 1, 1) := by decide +kernel
theorem dX5_earn_21 : decode cX5_earn 21 = .ok (.iload_n 2, 1) := by decide +kernel
theorem dX5_earn_22 : decode cX5_earn 22 = .ok (.invokevirtual 247, 3) := by decide +kernel
theorem dX5_earn_25 : decode cX5_earn 25 = .ok (.goto 5, 3) := by decide +kernel
theorem dX5_earn_28 : decode cX5_earn 28 = .ok (.bipush (-2), 2) := by decide +kernel
theorem dX5_earn_30 : decode cX5_earn 30 = .ok (.ireturn, 1) := by decide +kernel
theorem dX5_heard_0 : decode cX5_heard 0 = .ok (.iload_n 1, 1) := by decide +kernel
theorem dX5_heard_1 : decode cX5_heard 1 = .ok (.invokestatic 143, 3) := by decide +kernel
theorem dX5_heard_4 : decode cX5_heard 4 = .ok (.ifCond .eq 14, 3) := by decide +kernel
theorem dX5_heard_7 : decode cX5_heard 7 = .ok (.iload_n 2, 1) := by decide +kernel
theorem dX5_heard_8 : decode cX5_heard 8 = .ok (.iconst 0, 1) := by decide +kernel
theorem dX5_heard_9 : decode cX5_heard 9 = .ok (.sipush 400, 3) := by decide +kernel
theorem dX5_heard_12 : decode cX5_heard 12 = .ok (.invokestatic 89, 3) := by decide +kernel
theorem dX5_heard_15 : decode cX5_heard 15 = .ok (.ifCond .ne 6, 3) := by decide +kernel
theorem dX5_heard_18 : decode cX5_heard 18 = .ok (.bipush (-2), 2) := by decide +kernel
theorem dX5_heard_20 : decode cX5_heard 20 = .ok (.ireturn, 1) := by decide +kernel
theorem dX5_heard_21 : decode cX5_heard 21 = .ok (.aload_n 0, 1) := by decide +kernel
theorem dX5_heard_22 : decode cX5_heard 22 = .ok (.getfield 250, 3) := by decide +kernel
theorem dX5_heard_25 : decode cX5_heard 25 = .ok (.bipush 8, 2) := by decide +kernel
theorem dX5_heard_27 : decode cX5_heard 27 = .ok (.if_icmp .ne 6, 3) := by decide +kernel
theorem dX5_heard_30 : decode cX5_heard 30 = .ok (.bipush (-4), 2) := by decide +kernel
theorem dX5_heard_32 : decode cX5_heard 32 = .ok (.ireturn, 1) := by decide +kernel
theorem dX5_heard_33 : decode cX5_heard 33 = .ok (.aload_n 0, 1) := by decide +kernel
theorem dX5_heard_34 : decode cX5_heard 34 = .ok (.getfield 62, 3) := by decide +kernel
theorem dX5_heard_37 : decode cX5_heard 37 = .ok (.aload_n 0, 1) := by decide +kernel
theorem dX5_heard_38 : decode cX5_heard 38 = .ok (.getfield 250, 3) := by decide +kernel
theorem dX5_heard_41 : decode cX5_heard 41 = .ok (.iload_n 1, 1) := by decide +kernel
theorem dX5_heard_42 : decode cX5_heard 42 = .ok (.iastore, 1) := by decide +kernel
theorem dX5_heard_43 : decode cX5_heard 43 = .ok (.aload_n 0, 1) := by decide +kernel
theorem dX5_heard_44 : decode cX5_heard 44 = .ok (.getfield 65, 3) := by decide +kernel
theorem dX5_heard_47 : decode cX5_heard 47 = .ok (.aload_n 0, 1) := by decide +kernel
theorem dX5_heard_48 : decode cX5_heard 48 = .ok (.getfield 250, 3) := by decide +kernel
theorem dX5_heard_51 : decode cX5_heard 51 = .ok (.iload_n 2, 1) := by decide +kernel
theorem dX5_heard_52 : decode cX5_heard 52 = .ok (.iastore, 1) := by decide +kernel
theorem dX5_heard_53 : decode cX5_heard 53 = .ok (.aload_n 0, 1) := by decide +kernel
theorem dX5_heard_54 : decode cX5_heard 54 = .ok (.dup, 1) := by decide +kernel
theorem dX5_heard_55 : decode cX5_heard 55 = .ok (.getfield 250, 3) := by decide +kernel
theorem dX5_heard_58 : decode cX5_heard 58 = .ok (.iconst 1, 1) := by decide +kernel
theorem dX5_heard_59 : decode cX5_heard 59 = .ok (.iadd, 1) := by decide +kernel
theorem dX5_heard_60 : decode cX5_heard 60 = .ok (.putfield 250, 3) := by decide +kernel
theorem dX5_heard_63 : decode cX5_heard 63 = .ok (.aload_n 0, 1) := by decide +kernel
theorem dX5_heard_64 : decode cX5_heard 64 = .ok (.getfield 250, 3) := by decide +kernel
theorem dX5_heard_67 : decode cX5_heard 67 = .ok (.ireturn, 1) := by decide +kernel
theorem dX5_forget_0 : decode cX5_forget 0 = .ok (.aload_n 0, 1) := by decide +kernel
theorem dX5_forget_1 : decode cX5_forget 1 = .ok (.getfield 250, 3) := by decide +kernel
theorem dX5_forget_4 : decode cX5_forget 4 = .ok (.istore_n 1, 1) := by decide +kernel
theorem dX5_forget_5 : decode cX5_forget 5 = .ok (.aload_n 0, 1) := by decide +kernel
theorem dX5_forget_6 : decode cX5_forget 6 = .ok (.iconst 0, 1) := by decide +kernel
theorem dX5_forget_7 : decode cX5_forget 7 = .ok (.putfield 250, 3) := by decide +kernel
theorem dX5_forget_10 : decode cX5_forget 10 = .ok (.iload_n 1, 1) := by decide +kernel
theorem dX5_forget_11 : decode cX5_forget 11 = .ok (.ireturn, 1) := by decide +kernel
theorem dX5_isHeard_0 : decode cX5_isHeard 0 = .ok (.aload_n 0, 1) := by decide +kernel
theorem dX5_isHeard_1 : decode cX5_isHeard 1 = .ok (.invokevirtual 195, 3) := by decide +kernel
theorem dX5_isHeard_4 : decode cX5_isHeard 4 = .ok (.iconst 1, 1) := by decide +kernel
theorem dX5_isHeard_5 : decode cX5_isHeard 5 = .ok (.istore_n 1, 1) := by decide +kernel
theorem dX5_isHeard_6 : decode cX5_isHeard 6 = .ok (.iconst 0, 1) := by decide +kernel
theorem dX5_isHeard_7 : decode cX5_isHeard 7 = .ok (.istore_n 2, 1) := by decide +kernel
theorem dX5_isHeard_8 : decode cX5_isHeard 8 = .ok (.iload_n 2, 1) := by decide +kernel
theorem dX5_isHeard_9 : decode cX5_isHeard 9 = .ok (.aload_n 0, 1) := by decide +kernel
theorem dX5_isHeard_10 : decode cX5_isHeard 10 = .ok (.getfield 250, 3) := by decide +kernel
theorem dX5_isHeard_13 : decode cX5_isHeard 13 = .ok (.if_icmp .ge 39, 3) := by decide +kernel
theorem dX5_isHeard_16 : decode cX5_isHeard 16 = .ok (.iload_n 1, 1) := by decide +kernel
theorem dX5_isHeard_17 : decode cX5_isHeard 17 = .ok (.ifCond .eq 27, 3) := by decide +kernel
theorem dX5_isHeard_20 : decode cX5_isHeard 20 = .ok (.aload_n 0, 1) := by decide +kernel
theorem dX5_isHeard_21 : decode cX5_isHeard 21 = .ok (.getfield 55, 3) := by decide +kernel
theorem dX5_isHeard_24 : decode cX5_isHeard 24 = .ok (.aload_n 0, 1) := by decide +kernel
theorem dX5_isHeard_25 : decode cX5_isHeard 25 = .ok (.getfield 62, 3) := by decide +kernel
theorem dX5_isHeard_28 : decode cX5_isHeard 28 = .ok (.iload_n 2, 1) := by decide +kernel
theorem dX5_isHeard_29 : decode cX5_isHeard 29 = .ok (.iaload, 1) := by decide +kernel
theorem dX5_isHeard_30 : decode cX5_isHeard 30 = .ok (.iaload, 1) := by decide +kernel
theorem dX5_isHeard_31 : decode cX5_isHeard 31 = .ok (.aload_n 0, 1) := by decide +kernel
theorem dX5_isHeard_32 : decode cX5_isHeard 32 = .ok (.getfield 65, 3) := by decide +kernel
theorem dX5_isHeard_35 : decode cX5_isHeard 35 = .ok (.iload_n 2, 1) := by decide +kernel
theorem dX5_isHeard_36 : decode cX5_isHeard 36 = .ok (.iaload, 1) := by decide +kernel
theorem dX5_isHeard_37 : decode cX5_isHeard 37 = .ok (.if_icmp .ne 7, 3) := by decide +kernel
theorem dX5_isHeard_40 : decode cX5_isHeard 40 = .ok (.iconst 1, 1) := by decide +kernel
theorem dX5_isHeard_41 : decode cX5_isHeard 41 = .ok (.goto 4, 3) := by decide +kernel
theorem dX5_isHeard_44 : decode cX5_isHeard 44 = .ok (.iconst 0, 1) := by decide +kernel
theorem dX5_isHeard_45 : decode cX5_isHeard 45 = .ok (.istore_n 1, 1) := by decide +kernel
theorem dX5_isHeard_46 : decode cX5_isHeard 46 = .ok (.iinc 2 1, 3) := by decide +kernel
theorem dX5_isHeard_49 : decode cX5_isHeard 49 = .ok (.goto (-41), 3) := by decide +kernel
theorem dX5_isHeard_52 : decode cX5_isHeard 52 = .ok (.iload_n 1, 1) := by decide +kernel
theorem dX5_isHeard_53 : decode cX5_isHeard 53 = .ok (.ireturn, 1) := by decide +kernel
theorem dX5_skippedOf_0 : decode cX5_skippedOf 0 = .ok (.aload_n 0, 1) := by decide +kernel
theorem dX5_skippedOf_1 : decode cX5_skippedOf 1 = .ok (.invokevirtual 122, 3) := by decide +kernel
theorem dX5_skippedOf_4 : decode cX5_skippedOf 4 = .ok (.aload_n 0, 1) := by decide +kernel
theorem dX5_skippedOf_5 : decode cX5_skippedOf 5 = .ok (.invokevirtual 192, 3) := by decide +kernel
theorem dX5_skippedOf_8 : decode cX5_skippedOf 8 = .ok (.aload_n 0, 1) := by decide +kernel
theorem dX5_skippedOf_9 : decode cX5_skippedOf 9 = .ok (.aload_n 0, 1) := by decide +kernel
theorem dX5_skippedOf_10 : decode cX5_skippedOf 10 = .ok (.getfield 140, 3) := by decide +kernel
theorem dX5_skippedOf_13 : decode cX5_skippedOf 13 = .ok (.iconst 1, 1) := by decide +kernel
theorem dX5_skippedOf_14 : decode cX5_skippedOf 14 = .ok (.iadd, 1) := by decide +kernel
theorem dX5_skippedOf_15 : decode cX5_skippedOf 15 = .ok (.putfield 164, 3) := by decide +kernel
theorem dX5_skippedOf_18 : decode cX5_skippedOf 18 = .ok (.aload_n 0, 1) := by decide +kernel
theorem dX5_skippedOf_19 : decode cX5_skippedOf 19 = .ok (.getfield 37, 3) := by decide +kernel
theorem dX5_skippedOf_22 : decode cX5_skippedOf 22 = .ok (.aload_n 0, 1) := by decide +kernel
theorem dX5_skippedOf_23 : decode cX5_skippedOf 23 = .ok (.getfield 140, 3) := by decide +kernel
theorem dX5_skippedOf_26 : decode cX5_skippedOf 26 = .ok (.iload_n 1, 1) := by decide +kernel
theorem dX5_skippedOf_27 : decode cX5_skippedOf 27 = .ok (.iastore, 1) := by decide +kernel
theorem dX5_skippedOf_28 : decode cX5_skippedOf 28 = .ok (.iconst 0, 1) := by decide +kernel
theorem dX5_skippedOf_29 : decode cX5_skippedOf 29 = .ok (.istore_n 2, 1) := by decide +kernel
theorem dX5_skippedOf_30 : decode cX5_skippedOf 30 = .ok (.iconst 1, 1) := by decide +kernel
theorem dX5_skippedOf_31 : decode cX5_skippedOf 31 = .ok (.istore_n 3, 1) := by decide +kernel
theorem dX5_skippedOf_32 : decode cX5_skippedOf 32 = .ok (.iload_n 3, 1) := by decide +kernel
theorem dX5_skippedOf_33 : decode cX5_skippedOf 33 = .ok (.bipush 32, 2) := by decide +kernel
theorem dX5_skippedOf_35 : decode cX5_skippedOf 35 = .ok (.if_icmp .ge 38, 3) := by decide +kernel
theorem dX5_skippedOf_38 : decode cX5_skippedOf 38 = .ok (.aload_n 0, 1) := by decide +kernel
theorem dX5_skippedOf_39 : decode cX5_skippedOf 39 = .ok (.getfield 34, 3) := by decide +kernel
theorem dX5_skippedOf_42 : decode cX5_skippedOf 42 = .ok (.aload_n 0, 1) := by decide +kernel
theorem dX5_skippedOf_43 : decode cX5_skippedOf 43 = .ok (.getfield 140, 3) := by decide +kernel
theorem dX5_skippedOf_46 : decode cX5_skippedOf 46 = .ok (.iload_n 3, 1) := by decide +kernel
theorem dX5_skippedOf_47 : decode cX5_skippedOf 47 = .ok (.iastore, 1) := by decide +kernel
theorem dX5_skippedOf_48 : decode cX5_skippedOf 48 = .ok (.iload_n 2, 1) := by decide +kernel
theorem dX5_skippedOf_49 : decode cX5_skippedOf 49 = .ok (.aload_n 0, 1) := by decide +kernel
theorem dX5_skippedOf_50 : decode cX5_skippedOf 50 = .ok (.invokevirtual 253, 3) := by decide +kernel
theorem dX5_skippedOf_53 : decode cX5_skippedOf 53 = .ok (.ifCond .eq 11, 3) := by decide +kernel
theorem dX5_skippedOf_56 : decode cX5_skippedOf 56 = .ok (.iconst 1, 1) := by decide +kernel
theorem dX5_skippedOf_57 : decode cX5_skippedOf 57 = .ok (.iload_n 3, 1) := by decide +kernel
theorem dX5_skippedOf_58 : decode cX5_skippedOf 58 = .ok (.iconst 1, 1) := by decide +kernel
theorem dX5_skippedOf_59 : decode cX5_skippedOf 59 = .ok (.isub, 1) := by decide +kernel
theorem dX5_skippedOf_60 : decode cX5_skippedOf 60 = .ok (.ishl, 1) := by decide +kernel
theorem dX5_skippedOf_61 : decode cX5_skippedOf 61 = .ok (.goto 4, 3) := by decide +kernel
theorem dX5_skippedOf_64 : decode cX5_skippedOf 64 = .ok (.iconst 0, 1) := by decide +kernel
theorem dX5_skippedOf_65 : decode cX5_skippedOf 65 = .ok (.ior, 1) := by decide +kernel
theorem dX5_skippedOf_66 : decode cX5_skippedOf 66 = .ok (.istore_n 2, 1) := by decide +kernel
theorem dX5_skippedOf_67 : decode cX5_skippedOf 67 = .ok (.iinc 3 1, 3) := by decide +kernel
theorem dX5_skippedOf_70 : decode cX5_skippedOf 70 = .ok (.goto (-38), 3) := by decide +kernel
theorem dX5_skippedOf_73 : decode cX5_skippedOf 73 = .ok (.iload_n 2, 1) := by decide +kernel
theorem dX5_skippedOf_74 : decode cX5_skippedOf 74 = .ok (.ireturn, 1) := by decide +kernel
theorem dX5_skipped_0 : decode cX5_skipped 0 = .ok (.iload_n 1, 1) := by decide +kernel
theorem dX5_skipped_1 : decode cX5_skipped 1 = .ok (.iconst 1, 1) := by decide +kernel
theorem dX5_skipped_2 : decode cX5_skipped 2 = .ok (.bipush 11, 2) := by decide +kernel
theorem dX5_skipped_4 : decode cX5_skipped 4 = .ok (.invokestatic 89, 3) := by decide +kernel
theorem dX5_skipped_7 : decode cX5_skipped 7 = .ok (.ifCond .eq 11, 3) := by decide +kernel
theorem dX5_skipped_10 : decode cX5_skipped 10 = .ok (.aload_n 0, 1) := by decide +kernel
theorem dX5_skipped_11 : decode cX5_skipped 11 = .ok (.iload_n 1, 1) := by decide +kernel
theorem dX5_skipped_12 : decode cX5_skipped 12 = .ok (.invokevirtual 257, 3) := by decide +kernel
theorem dX5_skipped_15 : decode cX5_skipped 15 = .ok (.goto 5, 3) := by decide +kernel
theorem dX5_skipped_18 : decode cX5_skipped 18 = .ok (.bipush (-2), 2) := by decide +kernel
theorem dX5_skipped_20 : decode cX5_skipped 20 = .ok (.ireturn, 1) := by decide +kernel
theorem dX5_voidsOf_0 : decode cX5_voidsOf 0 = .ok (.aload_n 0, 1) := by decide +kernel
theorem dX5_voidsOf_1 : decode cX5_voidsOf 1 = .ok (.invokevirtual 122, 3) := by decide +kernel
theorem dX5_voidsOf_4 : decode cX5_voidsOf 4 = .ok (.aload_n 0, 1) := by decide +kernel
theorem dX5_voidsOf_5 : decode cX5_voidsOf 5 = .ok (.invokevirtual 192, 3) := by decide +kernel
theorem dX5_voidsOf_8 : decode cX5_voidsOf 8 = .ok (.aload_n 0, 1) := by decide +kernel
theorem dX5_voidsOf_9 : decode cX5_voidsOf 9 = .ok (.aload_n 0, 1) := by decide +kernel
theorem dX5_voidsOf_10 : decode cX5_voidsOf 10 = .ok (.getfield 146, 3) := by decide +kernel
theorem dX5_voidsOf_13 : decode cX5_voidsOf 13 = .ok (.iconst 1, 1) := by decide +kernel
theorem dX5_voidsOf_14 : decode cX5_voidsOf 14 = .ok (.iadd, 1) := by decide +kernel
theorem dX5_voidsOf_15 : decode cX5_voidsOf 15 = .ok (.putfield 167, 3) := by decide +kernel
theorem dX5_voidsOf_18 : decode cX5_voidsOf 18 = .ok (.iconst 0, 1) := by decide +kernel
theorem dX5_voidsOf_19 : decode cX5_voidsOf 19 = .ok (.istore_n 2, 1) := by decide +kernel
theorem dX5_voidsOf_20 : decode cX5_voidsOf 20 = .ok (.iconst (-1), 1) := by decide +kernel
theorem dX5_voidsOf_21 : decode cX5_voidsOf 21 = .ok (.istore_n 3, 1) := by decide +kernel
theorem dX5_voidsOf_22 : decode cX5_voidsOf 22 = .ok (.iconst 0, 1) := by decide +kernel
theorem dX5_voidsOf_23 : decode cX5_voidsOf 23 = .ok (.istore 4, 2) := by decide +kernel
theorem dX5_voidsOf_25 : decode cX5_voidsOf 25 = .ok (.iload 4, 2) := by decide +kernel
theorem dX5_voidsOf_27 : decode cX5_voidsOf 27 = .ok (.sipush 240, 3) := by decide +kernel
theorem dX5_voidsOf_30 : decode cX5_voidsOf 30 = .ok (.if_icmp .ge 56, 3) := by decide +kernel
theorem dX5_voidsOf_33 : decode cX5_voidsOf 33 = .ok (.aload_n 0, 1) := by decide +kernel
theorem dX5_voidsOf_34 : decode cX5_voidsOf 34 = .ok (.getfield 40, 3) := by decide +kernel
theorem dX5_voidsOf_37 : decode cX5_voidsOf 37 = .ok (.aload_n 0, 1) := by decide +kernel
theorem dX5_voidsOf_38 : decode cX5_voidsOf 38 = .ok (.getfield 146, 3) := by decide +kernel
theorem dX5_voidsOf_41 : decode cX5_voidsOf 41 = .ok (.iload 4, 2) := by decide +kernel
theorem dX5_voidsOf_43 : decode cX5_voidsOf 43 = .ok (.iastore, 1) := by decide +kernel
theorem dX5_voidsOf_44 : decode cX5_voidsOf 44 = .ok (.aload_n 0, 1) := by decide +kernel
theorem dX5_voidsOf_45 : decode cX5_voidsOf 45 = .ok (.invokevirtual 253, 3) := by decide +kernel
theorem dX5_voidsOf_48 : decode cX5_voidsOf 48 = .ok (.istore 5, 2) := by decide +kernel
theorem dX5_voidsOf_50 : decode cX5_voidsOf 50 = .ok (.iload 5, 2) := by decide +kernel
theorem dX5_voidsOf_52 : decode cX5_voidsOf 52 = .ok (.ifCond .eq 13, 3) := by decide +kernel
theorem dX5_voidsOf_55 : decode cX5_voidsOf 55 = .ok (.iload_n 2, 1) := by decide +kernel
theorem dX5_voidsOf_56 : decode cX5_voidsOf 56 = .ok (.iload_n 1, 1) := by decide +kernel
theorem dX5_voidsOf_57 : decode cX5_voidsOf 57 = .ok (.if_icmp .ne 8, 3) := by decide +kernel
theorem dX5_voidsOf_60 : decode cX5_voidsOf 60 = .ok (.iload 4, 2) := by decide +kernel
theorem dX5_voidsOf_62 : decode cX5_voidsOf 62 = .ok (.goto 4, 3) := by decide +kernel
theorem dX5_voidsOf_65 : decode cX5_voidsOf 65 = .ok (.iload_n 3, 1) := by decide +kernel
theorem dX5_voidsOf_66 : decode cX5_voidsOf 66 = .ok (.istore_n 3, 1) := by decide +kernel
theorem dX5_voidsOf_67 : decode cX5_voidsOf 67 = .ok (.iload_n 2, 1) := by decide +kernel
theorem dX5_voidsOf_68 : decode cX5_voidsOf 68 = .ok (.iload 5, 2) := by decide +kernel
theorem dX5_voidsOf_70 : decode cX5_voidsOf 70 = .ok (.ifCond .eq 7, 3) := by decide +kernel
theorem dX5_voidsOf_73 : decode cX5_voidsOf 73 = .ok (.iconst 1, 1) := by decide +kernel
theorem dX5_voidsOf_74 : decode cX5_voidsOf 74 = .ok (.goto 4, 3) := by decide +kernel
theorem dX5_voidsOf_77 : decode cX5_voidsOf 77 = .ok (.iconst 0, 1) := by decide +kernel
theorem dX5_voidsOf_78 : decode cX5_voidsOf 78 = .ok (.iadd, 1) := by decide +kernel
theorem dX5_voidsOf_79 : decode cX5_voidsOf 79 = .ok (.istore_n 2, 1) := by decide +kernel
theorem dX5_voidsOf_80 : decode cX5_voidsOf 80 = .ok (.iinc 4 1, 3) := by decide +kernel
theorem dX5_voidsOf_83 : decode cX5_voidsOf 83 = .ok (.goto (-58), 3) := by decide +kernel
theorem dX5_voidsOf_86 : decode cX5_voidsOf 86 = .ok (.iload_n 1, 1) := by decide +kernel
theorem dX5_voidsOf_87 : decode cX5_voidsOf 87 = .ok (.iconst (-1), 1) := by decide +kernel
theorem dX5_voidsOf_88 : decode cX5_voidsOf 88 = .ok (.if_icmp .ne 7, 3) := by decide +kernel
theorem dX5_voidsOf_91 : decode cX5_voidsOf 91 = .ok (.iload_n 2, 1) := by decide +kernel
theorem dX5_voidsOf_92 : decode cX5_voidsOf 92 = .ok (.goto 4, 3) := by decide +kernel
theorem dX5_voidsOf_95 : decode cX5_voidsOf 95 = .ok (.iload_n 3, 1) := by decide +kernel
theorem dX5_voidsOf_96 : decode cX5_voidsOf 96 = .ok (.ireturn, 1) := by decide +kernel
theorem dX5_voids_0 : decode cX5_voids 0 = .ok (.iload_n 1, 1) := by decide +kernel
theorem dX5_voids_1 : decode cX5_voids 1 = .ok (.iconst (-1), 1) := by decide +kernel
theorem dX5_voids_2 : decode cX5_voids 2 = .ok (.sipush 239, 3) := by decide +kernel
theorem dX5_voids_5 : decode cX5_voids 5 = .ok (.invokestatic 89, 3) := by decide +kernel
theorem dX5_voids_8 : decode cX5_voids 8 = .ok (.ifCond .eq 11, 3) := by decide +kernel
theorem dX5_voids_11 : decode cX5_voids 11 = .ok (.aload_n 0, 1) := by decide +kernel
theorem dX5_voids_12 : decode cX5_voids 12 = .ok (.iload_n 1, 1) := by decide +kernel
theorem dX5_voids_13 : decode cX5_voids 13 = .ok (.invokevirtual 260, 3) := by decide +kernel
theorem dX5_voids_16 : decode cX5_voids 16 = .ok (.goto 5, 3) := by decide +kernel
theorem dX5_voids_19 : decode cX5_voids 19 = .ok (.bipush (-2), 2) := by decide +kernel
theorem dX5_voids_21 : decode cX5_voids 21 = .ok (.ireturn, 1) := by decide +kernel
theorem dX5_oftenOf_0 : decode cX5_oftenOf 0 = .ok (.aload_n 0, 1) := by decide +kernel
theorem dX5_oftenOf_1 : decode cX5_oftenOf 1 = .ok (.invokevirtual 122, 3) := by decide +kernel
theorem dX5_oftenOf_4 : decode cX5_oftenOf 4 = .ok (.aload_n 0, 1) := by decide +kernel
theorem dX5_oftenOf_5 : decode cX5_oftenOf 5 = .ok (.invokevirtual 192, 3) := by decide +kernel
theorem dX5_oftenOf_8 : decode cX5_oftenOf 8 = .ok (.aload_n 0, 1) := by decide +kernel
theorem dX5_oftenOf_9 : decode cX5_oftenOf 9 = .ok (.getfield 19, 3) := by decide +kernel
theorem dX5_oftenOf_12 : decode cX5_oftenOf 12 = .ok (.iload_n 1, 1) := by decide +kernel
theorem dX5_oftenOf_13 : decode cX5_oftenOf 13 = .ok (.iaload, 1) := by decide +kernel
theorem dX5_oftenOf_14 : decode cX5_oftenOf 14 = .ok (.istore_n 3, 1) := by decide +kernel
theorem dX5_oftenOf_15 : decode cX5_oftenOf 15 = .ok (.iconst 0, 1) := by decide +kernel
theorem dX5_oftenOf_16 : decode cX5_oftenOf 16 = .ok (.istore 4, 2) := by decide +kernel
theorem dX5_oftenOf_18 : decode cX5_oftenOf 18 = .ok (.iconst (-1), 1) := by decide +kernel
theorem dX5_oftenOf_19 : decode cX5_oftenOf 19 = .ok (.istore 5, 2) := by decide +kernel
theorem dX5_oftenOf_21 : decode cX5_oftenOf 21 = .ok (.iconst 2, 1) := by decide +kernel
theorem dX5_oftenOf_22 : decode cX5_oftenOf 22 = .ok (.istore 6, 2) := by decide +kernel
theorem dX5_oftenOf_24 : decode cX5_oftenOf 24 = .ok (.iload 6, 2) := by decide +kernel
theorem dX5_oftenOf_26 : decode cX5_oftenOf 26 = .ok (.bipush 100, 2) := by decide +kernel
theorem dX5_oftenOf_28 : decode cX5_oftenOf 28 = .ok (.if_icmp .ge 58, 3) := by decide +kernel
theorem dX5_oftenOf_31 : decode cX5_oftenOf 31 = .ok (.aload_n 0, 1) := by decide +kernel
theorem dX5_oftenOf_32 : decode cX5_oftenOf 32 = .ok (.getfield 19, 3) := by decide +kernel
theorem dX5_oftenOf_35 : decode cX5_oftenOf 35 = .ok (.iload_n 1, 1) := by decide +kernel
theorem dX5_oftenOf_36 : decode cX5_oftenOf 36 = .ok (.iload 6, 2) := by decide +kernel
theorem dX5_oftenOf_38 : decode cX5_oftenOf 38 = .ok (.iastore, 1) := by decide +kernel
theorem dX5_oftenOf_39 : decode cX5_oftenOf 39 = .ok (.aload_n 0, 1) := by decide +kernel
theorem dX5_oftenOf_40 : decode cX5_oftenOf 40 = .ok (.invokevirtual 253, 3) := by decide +kernel
theorem dX5_oftenOf_43 : decode cX5_oftenOf 43 = .ok (.istore 7, 2) := by decide +kernel
theorem dX5_oftenOf_45 : decode cX5_oftenOf 45 = .ok (.iload 7, 2) := by decide +kernel
theorem dX5_oftenOf_47 : decode cX5_oftenOf 47 = .ok (.ifCond .eq 14, 3) := by decide +kernel
theorem dX5_oftenOf_50 : decode cX5_oftenOf 50 = .ok (.iload 4, 2) := by decide +kernel
theorem dX5_oftenOf_52 : decode cX5_oftenOf 52 = .ok (.iload_n 2, 1) := by decide +kernel
theorem dX5_oftenOf_53 : decode cX5_oftenOf 53 = .ok (.if_icmp .ne 8, 3) := by decide +kernel
theorem dX5_oftenOf_56 : decode cX5_oftenOf 56 = .ok (.iload 6, 2) := by decide +kernel
theorem dX5_oftenOf_58 : decode cX5_oftenOf 58 = .ok (.goto 5, 3) := by decide +kernel
theorem dX5_oftenOf_61 : decode cX5_oftenOf 61 = .ok (.iload 5, 2) := by decide +kernel
theorem dX5_oftenOf_63 : decode cX5_oftenOf 63 = .ok (.istore 5, 2) := by decide +kernel
theorem dX5_oftenOf_65 : decode cX5_oftenOf 65 = .ok (.iload 4, 2) := by decide +kernel
theorem dX5_oftenOf_67 : decode cX5_oftenOf 67 = .ok (.iload 7, 2) := by decide +kernel
theorem dX5_oftenOf_69 : decode cX5_oftenOf 69 = .ok (.ifCond .eq 7, 3) := by decide +kernel
theorem dX5_oftenOf_72 : decode cX5_oftenOf 72 = .ok (.iconst 1, 1) := by decide +kernel
theorem dX5_oftenOf_73 : decode cX5_oftenOf 73 = .ok (.goto 4, 3) := by decide +kernel
theorem dX5_oftenOf_76 : decode cX5_oftenOf 76 = .ok (.iconst 0, 1) := by decide +kernel
theorem dX5_oftenOf_77 : decode cX5_oftenOf 77 = .ok (.iadd, 1) := by decide +kernel
theorem dX5_oftenOf_78 : decode cX5_oftenOf 78 = .ok (.istore 4, 2) := by decide +kernel
theorem dX5_oftenOf_80 : decode cX5_oftenOf 80 = .ok (.iinc 6 1, 3) := by decide +kernel
theorem dX5_oftenOf_83 : decode cX5_oftenOf 83 = .ok (.goto (-59), 3) := by decide +kernel
theorem dX5_oftenOf_86 : decode cX5_oftenOf 86 = .ok (.aload_n 0, 1) := by decide +kernel
theorem dX5_oftenOf_87 : decode cX5_oftenOf 87 = .ok (.getfield 19, 3) := by decide +kernel
theorem dX5_oftenOf_90 : decode cX5_oftenOf 90 = .ok (.iload_n 1, 1) := by decide +kernel
theorem dX5_oftenOf_91 : decode cX5_oftenOf 91 = .ok (.iload_n 3, 1) := by decide +kernel
theorem dX5_oftenOf_92 : decode cX5_oftenOf 92 = .ok (.iastore, 1) := by decide +kernel
theorem dX5_oftenOf_93 : decode cX5_oftenOf 93 = .ok (.iload_n 2, 1) := by decide +kernel
theorem dX5_oftenOf_94 : decode cX5_oftenOf 94 = .ok (.iconst (-1), 1) := by decide +kernel
theorem dX5_oftenOf_95 : decode cX5_oftenOf 95 = .ok (.if_icmp .ne 8, 3) := by decide +kernel
theorem dX5_oftenOf_98 : decode cX5_oftenOf 98 = .ok (.iload 4, 2) := by decide +kernel
theorem dX5_oftenOf_100 : decode cX5_oftenOf 100 = .ok (.goto 5, 3) := by decide +kernel
theorem dX5_oftenOf_103 : decode cX5_oftenOf 103 = .ok (.iload 5, 2) := by decide +kernel
theorem dX5_oftenOf_105 : decode cX5_oftenOf 105 = .ok (.ireturn, 1) := by decide +kernel
theorem dX5_often_0 : decode cX5_often 0 = .ok (.aload_n 0, 1) := by decide +kernel
theorem dX5_often_1 : decode cX5_often 1 = .ok (.iload_n 1, 1) := by decide +kernel
theorem dX5_often_2 : decode cX5_often 2 = .ok (.invokevirtual 125, 3) := by decide +kernel
theorem dX5_often_5 : decode cX5_often 5 = .ok (.ifCond .eq 22, 3) := by decide +kernel
theorem dX5_often_8 : decode cX5_often 8 = .ok (.iload_n 2, 1) := by decide +kernel
theorem dX5_often_9 : decode cX5_often 9 = .ok (.iconst (-1), 1) := by decide +kernel
theorem dX5_often_10 : decode cX5_often 10 = .ok (.bipush 97, 2) := by decide +kernel
theorem dX5_often_12 : decode cX5_often 12 = .ok (.invokestatic 89, 3) := by decide +kernel
theorem dX5_often_15 : decode cX5_often 15 = .ok (.ifCond .eq 12, 3) := by decide +kernel
theorem dX5_often_18 : decode cX5_often 18 = .ok (.aload_n 0, 1) := by decide +kernel
theorem dX5_often_19 : decode cX5_often 19 = .ok (.iload_n 1, 1) := by decide +kernel
theorem dX5_often_20 : decode cX5_often 20 = .ok (.iload_n 2, 1) := by decide +kernel
theorem dX5_often_21 : decode cX5_often 21 = .ok (.invokevirtual 263, 3) := by decide +kernel
theorem dX5_often_24 : decode cX5_often 24 = .ok (.goto 5, 3) := by decide +kernel
theorem dX5_often_27 : decode cX5_often 27 = .ok (.bipush (-2), 2) := by decide +kernel
theorem dX5_often_29 : decode cX5_often 29 = .ok (.ireturn, 1) := by decide +kernel
theorem dX5_hoarseOf_0 : decode cX5_hoarseOf 0 = .ok (.aload_n 0, 1) := by decide +kernel
theorem dX5_hoarseOf_1 : decode cX5_hoarseOf 1 = .ok (.invokevirtual 198, 3) := by decide +kernel
theorem dX5_hoarseOf_4 : decode cX5_hoarseOf 4 = .ok (.lconst 0, 1) := by decide +kernel
theorem dX5_hoarseOf_5 : decode cX5_hoarseOf 5 = .ok (.lstore 4, 2) := by decide +kernel
theorem dX5_hoarseOf_7 : decode cX5_hoarseOf 7 = .ok (.ldc2_w 266, 3) := by decide +kernel
theorem dX5_hoarseOf_10 : decode cX5_hoarseOf 10 = .ok (.lstore 6, 2) := by decide +kernel
theorem dX5_hoarseOf_12 : decode cX5_hoarseOf 12 = .ok (.iconst 0, 1) := by decide +kernel
theorem dX5_hoarseOf_13 : decode cX5_hoarseOf 13 = .ok (.istore 8, 2) := by decide +kernel
theorem dX5_hoarseOf_15 : decode cX5_hoarseOf 15 = .ok (.iload 8, 2) := by decide +kernel
theorem dX5_hoarseOf_17 : decode cX5_hoarseOf 17 = .ok (.bipush 15, 2) := by decide +kernel
theorem dX5_hoarseOf_19 : decode cX5_hoarseOf 19 = .ok (.if_icmp .ge 26, 3) := by decide +kernel
theorem dX5_hoarseOf_22 : decode cX5_hoarseOf 22 = .ok (.aload_n 0, 1) := by decide +kernel
theorem dX5_hoarseOf_23 : decode cX5_hoarseOf 23 = .ok (.getfield 68, 3) := by decide +kernel
theorem dX5_hoarseOf_26 : decode cX5_hoarseOf 26 = .ok (.iload 8, 2) := by decide +kernel
theorem dX5_hoarseOf_28 : decode cX5_hoarseOf 28 = .ok (.iload 8, 2) := by decide +kernel
theorem dX5_hoarseOf_30 : decode cX5_hoarseOf 30 = .ok (.ifCond .ne 7, 3) := by decide +kernel
theorem dX5_hoarseOf_33 : decode cX5_hoarseOf 33 = .ok (.lconst 1, 1) := by decide +kernel
theorem dX5_hoarseOf_34 : decode cX5_hoarseOf 34 = .ok (.goto 4, 3) := by decide +kernel
theorem dX5_hoarseOf_37 : decode cX5_hoarseOf 37 = .ok (.lconst 0, 1) := by decide +kernel
theorem dX5_hoarseOf_38 : decode cX5_hoarseOf 38 = .ok (.lastore, 1) := by decide +kernel
theorem dX5_hoarseOf_39 : decode cX5_hoarseOf 39 = .ok (.iinc 8 1, 3) := by decide +kernel
theorem dX5_hoarseOf_42 : decode cX5_hoarseOf 42 = .ok (.goto (-27), 3) := by decide +kernel
theorem dX5_hoarseOf_45 : decode cX5_hoarseOf 45 = .ok (.iconst 0, 1) := by decide +kernel
theorem dX5_hoarseOf_46 : decode cX5_hoarseOf 46 = .ok (.istore 8, 2) := by decide +kernel
theorem dX5_hoarseOf_48 : decode cX5_hoarseOf 48 = .ok (.iload 8, 2) := by decide +kernel
theorem dX5_hoarseOf_50 : decode cX5_hoarseOf 50 = .ok (.aload_n 0, 1) := by decide +kernel
theorem dX5_hoarseOf_51 : decode cX5_hoarseOf 51 = .ok (.getfield 173, 3) := by decide +kernel
theorem dX5_hoarseOf_54 : decode cX5_hoarseOf 54 = .ok (.if_icmp .ge 107, 3) := by decide +kernel
theorem dX5_hoarseOf_57 : decode cX5_hoarseOf 57 = .ok (.iload 8, 2) := by decide +kernel
theorem dX5_hoarseOf_59 : decode cX5_hoarseOf 59 = .ok (.bipush 12, 2) := by decide +kernel
theorem dX5_hoarseOf_61 : decode cX5_hoarseOf 61 = .ok (.if_icmp .ge 100, 3) := by decide +kernel
theorem dX5_hoarseOf_64 : decode cX5_hoarseOf 64 = .ok (.lload 6, 2) := by decide +kernel
theorem dX5_hoarseOf_66 : decode cX5_hoarseOf 66 = .ok (.ldc2_w 268, 3) := by decide +kernel
theorem dX5_hoarseOf_69 : decode cX5_hoarseOf 69 = .ok (.ldiv, 1) := by decide +kernel
theorem dX5_hoarseOf_70 : decode cX5_hoarseOf 70 = .ok (.lstore 6, 2) := by decide +kernel
theorem dX5_hoarseOf_72 : decode cX5_hoarseOf 72 = .ok (.bipush 14, 2) := by decide +kernel
theorem dX5_hoarseOf_74 : decode cX5_hoarseOf 74 = .ok (.istore 9, 2) := by decide +kernel
theorem dX5_hoarseOf_76 : decode cX5_hoarseOf 76 = .ok (.iload 9, 2) := by decide +kernel
theorem dX5_hoarseOf_78 : decode cX5_hoarseOf 78 = .ok (.ifCond .lt 63, 3) := by decide +kernel
theorem dX5_hoarseOf_81 : decode cX5_hoarseOf 81 = .ok (.aload_n 0, 1) := by decide +kernel
theorem dX5_hoarseOf_82 : decode cX5_hoarseOf 82 = .ok (.getfield 68, 3) := by decide +kernel
theorem dX5_hoarseOf_85 : decode cX5_hoarseOf 85 = .ok (.iload 9, 2) := by decide +kernel
theorem dX5_hoarseOf_87 : decode cX5_hoarseOf 87 = .ok (.iload 9, 2) := by decide +kernel
theorem dX5_hoarseOf_89 : decode cX5_hoarseOf 89 = .ok (.ifCond .le 21, 3) := by decide +kernel
theorem dX5_hoarseOf_92 : decode cX5_hoarseOf 92 = .ok (.bipush 16, 2) := by decide +kernel
theorem dX5_hoarseOf_94 : decode cX5_hoarseOf 94 = .ok (.iload_n 1, 1) := by decide +kernel
theorem dX5_hoarseOf_95 : decode cX5_hoarseOf 95 = .ok (.isub, 1) := by decide +kernel
theorem dX5_hoarseOf_96 : decode cX5_hoarseOf 96 = .ok (.i2l, 1) := by decide +kernel
theorem dX5_hoarseOf_97 : decode cX5_hoarseOf 97 = .ok (.aload_n 0, 1) := by decide +kernel
theorem dX5_hoarseOf_98 : decode cX5_hoarseOf 98 = .ok (.getfield 68, 3) := by decide +kernel
theorem dX5_hoarseOf_101 : decode cX5_hoarseOf 101 = .ok (.iload 9, 2) := by decide +kernel
theorem dX5_hoarseOf_103 : decode cX5_hoarseOf 103 = .ok (.iconst 1, 1) := by decide +kernel
theorem dX5_hoarseOf_104 : decode cX5_hoarseOf 104 = .ok (.isub, 1) := by decide +kernel
theorem dX5_hoarseOf_105 : decode cX5_hoarseOf 105 = .ok (.laload, 1) := by decide +kernel
theorem dX5_hoarseOf_106 : decode cX5_hoarseOf 106 = .ok (.lmul, 1) := by decide +kernel
theorem dX5_hoarseOf_107 : decode cX5_hoarseOf 107 = .ok (.goto 4, 3) := by decide +kernel
theorem dX5_hoarseOf_110 : decode cX5_hoarseOf 110 = .ok (.lconst 0, 1) := by decide +kernel
theorem dX5_hoarseOf_111 : decode cX5_hoarseOf 111 = .ok (.iload 9, 2) := by decide +kernel
theorem dX5_hoarseOf_113 : decode cX5_hoarseOf 113 = .ok (.iconst 1, 1) := by decide +kernel
theorem dX5_hoarseOf_114 : decode cX5_hoarseOf 114 = .ok (.if_icmp .le 18, 3) := by decide +kernel
theorem dX5_hoarseOf_117 : decode cX5_hoarseOf 117 = .ok (.iload_n 1, 1) := by decide +kernel
theorem dX5_hoarseOf_118 : decode cX5_hoarseOf 118 = .ok (.i2l, 1) := by decide +kernel
theorem dX5_hoarseOf_119 : decode cX5_hoarseOf 119 = .ok (.aload_n 0, 1) := by decide +kernel
theorem dX5_hoarseOf_120 : decode cX5_hoarseOf 120 = .ok (.getfield 68, 3) := by decide +kernel
theorem dX5_hoarseOf_123 : decode cX5_hoarseOf 123 = .ok (.iload 9, 2) := by decide +kernel
theorem dX5_hoarseOf_125 : decode cX5_hoarseOf 125 = .ok (.iconst 2, 1) := by decide +kernel
theorem dX5_hoarseOf_126 : decode cX5_hoarseOf 126 = .ok (.isub, 1) := by decide +kernel
theorem dX5_hoarseOf_127 : decode cX5_hoarseOf 127 = .ok (.laload, 1) := by decide +kernel
theorem dX5_hoarseOf_128 : decode cX5_hoarseOf 128 = .ok (.lmul, 1) := by decide +kernel
theorem dX5_hoarseOf_129 : decode cX5_hoarseOf 129 = .ok (.goto 4, 3) := by decide +kernel
theorem dX5_hoarseOf_132 : decode cX5_hoarseOf 132 = .ok (.lconst 0, 1) := by decide +kernel
theorem dX5_hoarseOf_133 : decode cX5_hoarseOf 133 = .ok (.ladd, 1) := by decide +kernel
theorem dX5_hoarseOf_134 : decode cX5_hoarseOf 134 = .ok (.lastore, 1) := by decide +kernel
theorem dX5_hoarseOf_135 : decode cX5_hoarseOf 135 = .ok (.iinc 9 (-1), 3) := by decide +kernel
theorem dX5_hoarseOf_138 : decode cX5_hoarseOf 138 = .ok (.goto (-62), 3) := by decide +kernel
theorem dX5_hoarseOf_141 : decode cX5_hoarseOf 141 = .ok (.lload 4, 2) := by decide +kernel
theorem dX5_hoarseOf_143 : decode cX5_hoarseOf 143 = .ok (.aload_n 0, 1) := by decide +kernel
theorem dX5_hoarseOf_144 : decode cX5_hoarseOf 144 = .ok (.getfield 68, 3) := by decide +kernel
theorem dX5_hoarseOf_147 : decode cX5_hoarseOf 147 = .ok (.iload_n 2, 1) := by decide +kernel
theorem dX5_hoarseOf_148 : decode cX5_hoarseOf 148 = .ok (.laload, 1) := by decide +kernel
theorem dX5_hoarseOf_149 : decode cX5_hoarseOf 149 = .ok (.lload 6, 2) := by decide +kernel
theorem dX5_hoarseOf_151 : decode cX5_hoarseOf 151 = .ok (.lmul, 1) := by decide +kernel
theorem dX5_hoarseOf_152 : decode cX5_hoarseOf 152 = .ok (.ladd, 1) := by decide +kernel
theorem dX5_hoarseOf_153 : decode cX5_hoarseOf 153 = .ok (.lstore 4, 2) := by decide +kernel
theorem dX5_hoarseOf_155 : decode cX5_hoarseOf 155 = .ok (.iinc 8 1, 3) := by decide +kernel
theorem dX5_hoarseOf_158 : decode cX5_hoarseOf 158 = .ok (.goto (-110), 3) := by decide +kernel
theorem dX5_hoarseOf_161 : decode cX5_hoarseOf 161 = .ok (.lload 4, 2) := by decide +kernel
theorem dX5_hoarseOf_163 : decode cX5_hoarseOf 163 = .ok (.ldc2_w 266, 3) := by decide +kernel
theorem dX5_hoarseOf_166 : decode cX5_hoarseOf 166 = .ok (.iload_n 3, 1) := by decide +kernel
theorem dX5_hoarseOf_167 : decode cX5_hoarseOf 167 = .ok (.invokestatic 270, 3) := by decide +kernel
theorem dX5_hoarseOf_170 : decode cX5_hoarseOf 170 = .ok (.lreturn, 1) := by decide +kernel
theorem dX5_hoarse_0 : decode cX5_hoarse 0 = .ok (.iload_n 1, 1) := by decide +kernel
theorem dX5_hoarse_1 : decode cX5_hoarse 1 = .ok (.iconst 0, 1) := by decide +kernel
theorem dX5_hoarse_2 : decode cX5_hoarse 2 = .ok (.bipush 16, 2) := by decide +kernel
theorem dX5_hoarse_4 : decode cX5_hoarse 4 = .ok (.invokestatic 89, 3) := by decide +kernel
theorem dX5_hoarse_7 : decode cX5_hoarse 7 = .ok (.ifCond .eq 32, 3) := by decide +kernel
theorem dX5_hoarse_10 : decode cX5_hoarse 10 = .ok (.iload_n 2, 1) := by decide +kernel
theorem dX5_hoarse_11 : decode cX5_hoarse 11 = .ok (.iconst 1, 1) := by decide +kernel
theorem dX5_hoarse_12 : decode cX5_hoarse 12 = .ok (.bipush 12, 2) := by decide +kernel
theorem dX5_hoarse_14 : decode cX5_hoarse 14 = .ok (.invokestatic 89, 3) := by decide +kernel
theorem dX5_hoarse_17 : decode cX5_hoarse 17 = .ok (.ifCond .eq 22, 3) := by decide +kernel
theorem dX5_hoarse_20 : decode cX5_hoarse 20 = .ok (.iload_n 3, 1) := by decide +kernel
theorem dX5_hoarse_21 : decode cX5_hoarse 21 = .ok (.iconst 0, 1) := by decide +kernel
theorem dX5_hoarse_22 : decode cX5_hoarse 22 = .ok (.iconst 1, 1) := by decide +kernel
theorem dX5_hoarse_23 : decode cX5_hoarse 23 = .ok (.invokestatic 89, 3) := by decide +kernel
theorem dX5_hoarse_26 : decode cX5_hoarse 26 = .ok (.ifCond .eq 13, 3) := by decide +kernel
theorem dX5_hoarse_29 : decode cX5_hoarse 29 = .ok (.aload_n 0, 1) := by decide +kernel
theorem dX5_hoarse_30 : decode cX5_hoarse 30 = .ok (.iload_n 1, 1) := by decide +kernel
theorem dX5_hoarse_31 : decode cX5_hoarse 31 = .ok (.iload_n 2, 1) := by decide +kernel
theorem dX5_hoarse_32 : decode cX5_hoarse 32 = .ok (.iload_n 3, 1) := by decide +kernel
theorem dX5_hoarse_33 : decode cX5_hoarse 33 = .ok (.invokevirtual 274, 3) := by decide +kernel
theorem dX5_hoarse_36 : decode cX5_hoarse 36 = .ok (.goto 8, 3) := by decide +kernel
theorem dX5_hoarse_39 : decode cX5_hoarse 39 = .ok (.bipush (-2), 2) := by decide +kernel
theorem dX5_hoarse_41 : decode cX5_hoarse 41 = .ok (.invokestatic 278, 3) := by decide +kernel
theorem dX5_hoarse_44 : decode cX5_hoarse 44 = .ok (.lreturn, 1) := by decide +kernel
theorem dX5_stormOf_0 : decode cX5_stormOf 0 = .ok (.aload_n 0, 1) := by decide +kernel
theorem dX5_stormOf_1 : decode cX5_stormOf 1 = .ok (.invokevirtual 198, 3) := by decide +kernel
theorem dX5_stormOf_4 : decode cX5_stormOf 4 = .ok (.iload_n 1, 1) := by decide +kernel
theorem dX5_stormOf_5 : decode cX5_stormOf 5 = .ok (.istore 4, 2) := by decide +kernel
theorem dX5_stormOf_7 : decode cX5_stormOf 7 = .ok (.iconst 0, 1) := by decide +kernel
theorem dX5_stormOf_8 : decode cX5_stormOf 8 = .ok (.istore 5, 2) := by decide +kernel
theorem dX5_stormOf_10 : decode cX5_stormOf 10 = .ok (.iconst 0, 1) := by decide +kernel
theorem dX5_stormOf_11 : decode cX5_stormOf 11 = .ok (.istore 6, 2) := by decide +kernel
theorem dX5_stormOf_13 : decode cX5_stormOf 13 = .ok (.iconst 0, 1) := by decide +kernel
theorem dX5_stormOf_14 : decode cX5_stormOf 14 = .ok (.istore 7, 2) := by decide +kernel
theorem dX5_stormOf_16 : decode cX5_stormOf 16 = .ok (.iload 7, 2) := by decide +kernel
theorem dX5_stormOf_18 : decode cX5_stormOf 18 = .ok (.iload_n 2, 1) := by decide +kernel
theorem dX5_stormOf_19 : decode cX5_stormOf 19 = .ok (.if_icmp .ge 72, 3) := by decide +kernel
theorem dX5_stormOf_22 : decode cX5_stormOf 22 = .ok (.ldc_w 282, 3) := by decide +kernel
theorem dX5_stormOf_25 : decode cX5_stormOf 25 = .ok (.iload 4, 2) := by decide +kernel
theorem dX5_stormOf_27 : decode cX5_stormOf 27 = .ok (.imul, 1) := by decide +kernel
theorem dX5_stormOf_28 : decode cX5_stormOf 28 = .ok (.sipush 12345, 3) := by decide +kernel
theorem dX5_stormOf_31 : decode cX5_stormOf 31 = .ok (.iadd, 1) := by decide +kernel
theorem dX5_stormOf_32 : decode cX5_stormOf 32 = .ok (.istore 4, 2) := by decide +kernel
theorem dX5_stormOf_34 : decode cX5_stormOf 34 = .ok (.aload_n 0, 1) := by decide +kernel
theorem dX5_stormOf_35 : decode cX5_stormOf 35 = .ok (.getfield 55, 3) := by decide +kernel
theorem dX5_stormOf_38 : decode cX5_stormOf 38 = .ok (.iload 4, 2) := by decide +kernel
theorem dX5_stormOf_40 : decode cX5_stormOf 40 = .ok (.bipush 16, 2) := by decide +kernel
theorem dX5_stormOf_42 : decode cX5_stormOf 42 = .ok (.iushr, 1) := by decide +kernel
theorem dX5_stormOf_43 : decode cX5_stormOf 43 = .ok (.sipush 240, 3) := by decide +kernel
theorem dX5_stormOf_46 : decode cX5_stormOf 46 = .ok (.irem, 1) := by decide +kernel
theorem dX5_stormOf_47 : decode cX5_stormOf 47 = .ok (.iaload, 1) := by decide +kernel
theorem dX5_stormOf_48 : decode cX5_stormOf 48 = .ok (.istore 8, 2) := by decide +kernel
theorem dX5_stormOf_50 : decode cX5_stormOf 50 = .ok (.iload 5, 2) := by decide +kernel
theorem dX5_stormOf_52 : decode cX5_stormOf 52 = .ok (.iload 8, 2) := by decide +kernel
theorem dX5_stormOf_54 : decode cX5_stormOf 54 = .ok (.ifCond .le 12, 3) := by decide +kernel
theorem dX5_stormOf_57 : decode cX5_stormOf 57 = .ok (.aload_n 0, 1) := by decide +kernel
theorem dX5_stormOf_58 : decode cX5_stormOf 58 = .ok (.iload 8, 2) := by decide +kernel
theorem dX5_stormOf_60 : decode cX5_stormOf 60 = .ok (.invokevirtual 216, 3) := by decide +kernel
theorem dX5_stormOf_63 : decode cX5_stormOf 63 = .ok (.goto 4, 3) := by decide +kernel
theorem dX5_stormOf_66 : decode cX5_stormOf 66 = .ok (.iconst 0, 1) := by decide +kernel
theorem dX5_stormOf_67 : decode cX5_stormOf 67 = .ok (.iadd, 1) := by decide +kernel
theorem dX5_stormOf_68 : decode cX5_stormOf 68 = .ok (.istore 5, 2) := by decide +kernel
theorem dX5_stormOf_70 : decode cX5_stormOf 70 = .ok (.iload 6, 2) := by decide +kernel
theorem dX5_stormOf_72 : decode cX5_stormOf 72 = .ok (.iload 8, 2) := by decide +kernel
theorem dX5_stormOf_74 : decode cX5_stormOf 74 = .ok (.ifCond .le 7, 3) := by decide +kernel
theorem dX5_stormOf_77 : decode cX5_stormOf 77 = .ok (.iconst 1, 1) := by decide +kernel
theorem dX5_stormOf_78 : decode cX5_stormOf 78 = .ok (.goto 4, 3) := by decide +kernel
theorem dX5_stormOf_81 : decode cX5_stormOf 81 = .ok (.iconst 0, 1) := by decide +kernel
theorem dX5_stormOf_82 : decode cX5_stormOf 82 = .ok (.iadd, 1) := by decide +kernel
theorem dX5_stormOf_83 : decode cX5_stormOf 83 = .ok (.istore 6, 2) := by decide +kernel
theorem dX5_stormOf_85 : decode cX5_stormOf 85 = .ok (.iinc 7 1, 3) := by decide +kernel
theorem dX5_stormOf_88 : decode cX5_stormOf 88 = .ok (.goto (-72), 3) := by decide +kernel
theorem dX5_stormOf_91 : decode cX5_stormOf 91 = .ok (.iload_n 3, 1) := by decide +kernel
theorem dX5_stormOf_92 : decode cX5_stormOf 92 = .ok (.ifCond .ne 8, 3) := by decide +kernel
theorem dX5_stormOf_95 : decode cX5_stormOf 95 = .ok (.iload 5, 2) := by decide +kernel
theorem dX5_stormOf_97 : decode cX5_stormOf 97 = .ok (.goto 5, 3) := by decide +kernel
theorem dX5_stormOf_100 : decode cX5_stormOf 100 = .ok (.iload 6, 2) := by decide +kernel
theorem dX5_stormOf_102 : decode cX5_stormOf 102 = .ok (.ireturn, 1) := by decide +kernel
theorem dX5_storm_0 : decode cX5_storm 0 = .ok (.iload_n 2, 1) := by decide +kernel
theorem dX5_storm_1 : decode cX5_storm 1 = .ok (.iconst 1, 1) := by decide +kernel
theorem dX5_storm_2 : decode cX5_storm 2 = .ok (.bipush 99, 2) := by decide +kernel
theorem dX5_storm_4 : decode cX5_storm 4 = .ok (.invokestatic 89, 3) := by decide +kernel
theorem dX5_storm_7 : decode cX5_storm 7 = .ok (.ifCond .eq 22, 3) := by decide +kernel
theorem dX5_storm_10 : decode cX5_storm 10 = .ok (.iload_n 3, 1) := by decide +kernel
theorem dX5_storm_11 : decode cX5_storm 11 = .ok (.iconst 0, 1) := by decide +kernel
theorem dX5_storm_12 : decode cX5_storm 12 = .ok (.iconst 1, 1) := by decide +kernel
theorem dX5_storm_13 : decode cX5_storm 13 = .ok (.invokestatic 89, 3) := by decide +kernel
theorem dX5_storm_16 : decode cX5_storm 16 = .ok (.ifCond .eq 13, 3) := by decide +kernel
theorem dX5_storm_19 : decode cX5_storm 19 = .ok (.aload_n 0, 1) := by decide +kernel
theorem dX5_storm_20 : decode cX5_storm 20 = .ok (.iload_n 1, 1) := by decide +kernel
theorem dX5_storm_21 : decode cX5_storm 21 = .ok (.iload_n 2, 1) := by decide +kernel
theorem dX5_storm_22 : decode cX5_storm 22 = .ok (.iload_n 3, 1) := by decide +kernel
theorem dX5_storm_23 : decode cX5_storm 23 = .ok (.invokevirtual 283, 3) := by decide +kernel
theorem dX5_storm_26 : decode cX5_storm 26 = .ok (.goto 5, 3) := by decide +kernel
theorem dX5_storm_29 : decode cX5_storm 29 = .ok (.bipush (-2), 2) := by decide +kernel
theorem dX5_storm_31 : decode cX5_storm 31 = .ok (.ireturn, 1) := by decide +kernel
theorem dX5_meets_0 : decode cX5_meets 0 = .ok (.aload_n 0, 1) := by decide +kernel
theorem dX5_meets_1 : decode cX5_meets 1 = .ok (.iload_n 1, 1) := by decide +kernel
theorem dX5_meets_2 : decode cX5_meets 2 = .ok (.putfield 286, 3) := by decide +kernel
theorem dX5_meets_5 : decode cX5_meets 5 = .ok (.bipush (-10), 2) := by decide +kernel
theorem dX5_meets_7 : decode cX5_meets 7 = .ok (.iload_n 1, 1) := by decide +kernel
theorem dX5_meets_8 : decode cX5_meets 8 = .ok (.isub, 1) := by decide +kernel
theorem dX5_meets_9 : decode cX5_meets 9 = .ok (.ireturn, 1) := by decide +kernel
theorem dX5_isSheet_0 : decode cX5_isSheet 0 = .ok (.iload_n 0, 1) := by decide +kernel
theorem dX5_isSheet_1 : decode cX5_isSheet 1 = .ok (.iconst 0, 1) := by decide +kernel
theorem dX5_isSheet_2 : decode cX5_isSheet 2 = .ok (.iconst 3, 1) := by decide +kernel
theorem dX5_isSheet_3 : decode cX5_isSheet 3 = .ok (.invokestatic 89, 3) := by decide +kernel
theorem dX5_isSheet_6 : decode cX5_isSheet 6 = .ok (.ireturn, 1) := by decide +kernel
theorem dX5_sheet_0 : decode cX5_sheet 0 = .ok (.iload_n 1, 1) := by decide +kernel
theorem dX5_sheet_1 : decode cX5_sheet 1 = .ok (.invokestatic 155, 3) := by decide +kernel
theorem dX5_sheet_4 : decode cX5_sheet 4 = .ok (.ifCond .eq 18, 3) := by decide +kernel
theorem dX5_sheet_7 : decode cX5_sheet 7 = .ok (.iload_n 2, 1) := by decide +kernel
theorem dX5_sheet_8 : decode cX5_sheet 8 = .ok (.iconst 0, 1) := by decide +kernel
theorem dX5_sheet_9 : decode cX5_sheet 9 = .ok (.iconst 2, 1) := by decide +kernel
theorem dX5_sheet_10 : decode cX5_sheet 10 = .ok (.invokestatic 89, 3) := by decide +kernel
theorem dX5_sheet_13 : decode cX5_sheet 13 = .ok (.ifCond .eq 9, 3) := by decide +kernel
theorem dX5_sheet_16 : decode cX5_sheet 16 = .ok (.iload_n 3, 1) := by decide +kernel
theorem dX5_sheet_17 : decode cX5_sheet 17 = .ok (.bipush 48, 2) := by decide +kernel
theorem dX5_sheet_19 : decode cX5_sheet 19 = .ok (.if_icmp .le 6, 3) := by decide +kernel
theorem dX5_sheet_22 : decode cX5_sheet 22 = .ok (.bipush (-2), 2) := by decide +kernel
theorem dX5_sheet_24 : decode cX5_sheet 24 = .ok (.ireturn, 1) := by decide +kernel
theorem dX5_sheet_25 : decode cX5_sheet 25 = .ok (.iload_n 3, 1) := by decide +kernel
theorem dX5_sheet_26 : decode cX5_sheet 26 = .ok (.ifCond .ge 9, 3) := by decide +kernel
theorem dX5_sheet_29 : decode cX5_sheet 29 = .ok (.aload_n 0, 1) := by decide +kernel
theorem dX5_sheet_30 : decode cX5_sheet 30 = .ok (.iconst 5, 1) := by decide +kernel
theorem dX5_sheet_31 : decode cX5_sheet 31 = .ok (.invokevirtual 158, 3) := by decide +kernel
theorem dX5_sheet_34 : decode cX5_sheet 34 = .ok (.ireturn, 1) := by decide +kernel
theorem dX5_sheet_35 : decode cX5_sheet 35 = .ok (.aload_n 0, 1) := by decide +kernel
theorem dX5_sheet_36 : decode cX5_sheet 36 = .ok (.getfield 72, 3) := by decide +kernel
theorem dX5_sheet_39 : decode cX5_sheet 39 = .ok (.iload_n 1, 1) := by decide +kernel
theorem dX5_sheet_40 : decode cX5_sheet 40 = .ok (.iconst 1, 1) := by decide +kernel
theorem dX5_sheet_41 : decode cX5_sheet 41 = .ok (.bastore, 1) := by decide +kernel
theorem dX5_sheet_42 : decode cX5_sheet 42 = .ok (.aload_n 0, 1) := by decide +kernel
theorem dX5_sheet_43 : decode cX5_sheet 43 = .ok (.getfield 75, 3) := by decide +kernel
theorem dX5_sheet_46 : decode cX5_sheet 46 = .ok (.iload_n 1, 1) := by decide +kernel
theorem dX5_sheet_47 : decode cX5_sheet 47 = .ok (.iload_n 2, 1) := by decide +kernel
theorem dX5_sheet_48 : decode cX5_sheet 48 = .ok (.iastore, 1) := by decide +kernel
theorem dX5_sheet_49 : decode cX5_sheet 49 = .ok (.aload_n 0, 1) := by decide +kernel
theorem dX5_sheet_50 : decode cX5_sheet 50 = .ok (.getfield 78, 3) := by decide +kernel
theorem dX5_sheet_53 : decode cX5_sheet 53 = .ok (.iload_n 1, 1) := by decide +kernel
theorem dX5_sheet_54 : decode cX5_sheet 54 = .ok (.iload_n 3, 1) := by decide +kernel
theorem dX5_sheet_55 : decode cX5_sheet 55 = .ok (.iastore, 1) := by decide +kernel
theorem dX5_sheet_56 : decode cX5_sheet 56 = .ok (.iconst 0, 1) := by decide +kernel
theorem dX5_sheet_57 : decode cX5_sheet 57 = .ok (.istore 4, 2) := by decide +kernel
theorem dX5_sheet_59 : decode cX5_sheet 59 = .ok (.iload 4, 2) := by decide +kernel
theorem dX5_sheet_61 : decode cX5_sheet 61 = .ok (.bipush 48, 2) := by decide +kernel
theorem dX5_sheet_63 : decode cX5_sheet 63 = .ok (.if_icmp .ge 22, 3) := by decide +kernel
theorem dX5_sheet_66 : decode cX5_sheet 66 = .ok (.aload_n 0, 1) := by decide +kernel
theorem dX5_sheet_67 : decode cX5_sheet 67 = .ok (.getfield 81, 3) := by decide +kernel
theorem dX5_sheet_70 : decode cX5_sheet 70 = .ok (.bipush 48, 2) := by decide +kernel
theorem dX5_sheet_72 : decode cX5_sheet 72 = .ok (.iload_n 1, 1) := by decide +kernel
theorem dX5_sheet_73 : decode cX5_sheet 73 = .ok (.imul, 1) := by decide +kernel
theorem dX5_sheet_74 : decode cX5_sheet 74 = .ok (.iload 4, 2) := by decide +kernel
theorem dX5_sheet_76 : decode cX5_sheet 76 = .ok (.iadd, 1) := by decide +kernel
theorem dX5_sheet_77 : decode cX5_sheet 77 = .ok (.iconst 0, 1) := by decide +kernel
theorem dX5_sheet_78 : decode cX5_sheet 78 = .ok (.iastore, 1) := by decide +kernel
theorem dX5_sheet_79 : decode cX5_sheet 79 = .ok (.iinc 4 1, 3) := by decide +kernel
theorem dX5_sheet_82 : decode cX5_sheet 82 = .ok (.goto (-23), 3) := by decide +kernel
theorem dX5_sheet_85 : decode cX5_sheet 85 = .ok (.iload_n 3, 1) := by decide +kernel
theorem dX5_sheet_86 : decode cX5_sheet 86 = .ok (.ireturn, 1) := by decide +kernel
theorem dX5_lose_0 : decode cX5_lose 0 = .ok (.iload_n 1, 1) := by decide +kernel
theorem dX5_lose_1 : decode cX5_lose 1 = .ok (.invokestatic 155, 3) := by decide +kernel
theorem dX5_lose_4 : decode cX5_lose 4 = .ok (.ifCond .ne 6, 3) := by decide +kernel
theorem dX5_lose_7 : decode cX5_lose 7 = .ok (.bipush (-2), 2) := by decide +kernel
theorem dX5_lose_9 : decode cX5_lose 9 = .ok (.ireturn, 1) := by decide +kernel
theorem dX5_lose_10 : decode cX5_lose 10 = .ok (.aload_n 0, 1) := by decide +kernel
theorem dX5_lose_11 : decode cX5_lose 11 = .ok (.getfield 72, 3) := by decide +kernel
theorem dX5_lose_14 : decode cX5_lose 14 = .ok (.iload_n 1, 1) := by decide +kernel
theorem dX5_lose_15 : decode cX5_lose 15 = .ok (.baload, 1) := by decide +kernel
theorem dX5_lose_16 : decode cX5_lose 16 = .ok (.ifCond .ne 9, 3) := by decide +kernel
theorem dX5_lose_19 : decode cX5_lose 19 = .ok (.aload_n 0, 1) := by decide +kernel
theorem dX5_lose_20 : decode cX5_lose 20 = .ok (.iconst 1, 1) := by decide +kernel
theorem dX5_lose_21 : decode cX5_lose 21 = .ok (.invokevirtual 158, 3) := by decide +kernel
theorem dX5_lose_24 : decode cX5_lose 24 = .ok (.ireturn, 1) := by decide +kernel
theorem dX5_lose_25 : decode cX5_lose 25 = .ok (.aload_n 0, 1) := by decide +kernel
theorem dX5_lose_26 : decode cX5_lose 26 = .ok (.getfield 72, 3) := by decide +kernel
theorem dX5_lose_29 : decode cX5_lose 29 = .ok (.iload_n 1, 1) := by decide +kernel
theorem dX5_lose_30 : decode cX5_lose 30 = .ok (.iconst 0, 1) := by decide +kernel
theorem dX5_lose_31 : decode cX5_lose 31 = .ok (.bastore, 1) := by decide +kernel
theorem dX5_lose_32 : decode cX5_lose 32 = .ok (.aload_n 0, 1) := by decide +kernel
theorem dX5_lose_33 : decode cX5_lose 33 = .ok (.getfield 78, 3) := by decide +kernel
theorem dX5_lose_36 : decode cX5_lose 36 = .ok (.iload_n 1, 1) := by decide +kernel
theorem dX5_lose_37 : decode cX5_lose 37 = .ok (.iaload, 1) := by decide +kernel
theorem dX5_lose_38 : decode cX5_lose 38 = .ok (.ireturn, 1) := by decide +kernel
theorem dX5_lacks_0 : decode cX5_lacks 0 = .ok (.aload_n 0, 1) := by decide +kernel
theorem dX5_lacks_1 : decode cX5_lacks 1 = .ok (.getfield 72, 3) := by decide +kernel
theorem dX5_lacks_4 : decode cX5_lacks 4 = .ok (.iload_n 1, 1) := by decide +kernel
theorem dX5_lacks_5 : decode cX5_lacks 5 = .ok (.baload, 1) := by decide +kernel
theorem dX5_lacks_6 : decode cX5_lacks 6 = .ok (.ifCond .ne 7, 3) := by decide +kernel
theorem dX5_lacks_9 : decode cX5_lacks 9 = .ok (.iconst 1, 1) := by decide +kernel
theorem dX5_lacks_10 : decode cX5_lacks 10 = .ok (.goto 38, 3) := by decide +kernel
theorem dX5_lacks_13 : decode cX5_lacks 13 = .ok (.aload_n 0, 1) := by decide +kernel
theorem dX5_lacks_14 : decode cX5_lacks 14 = .ok (.getfield 75, 3) := by decide +kernel
theorem dX5_lacks_17 : decode cX5_lacks 17 = .ok (.iload_n 1, 1) := by decide +kernel
theorem dX5_lacks_18 : decode cX5_lacks 18 = .ok (.iaload, 1) := by decide +kernel
theorem dX5_lacks_19 : decode cX5_lacks 19 = .ok (.iload_n 2, 1) := by decide +kernel
theorem dX5_lacks_20 : decode cX5_lacks 20 = .ok (.if_icmp .eq 7, 3) := by decide +kernel
theorem dX5_lacks_23 : decode cX5_lacks 23 = .ok (.iconst 3, 1) := by decide +kernel
theorem dX5_lacks_24 : decode cX5_lacks 24 = .ok (.goto 24, 3) := by decide +kernel
theorem dX5_lacks_27 : decode cX5_lacks 27 = .ok (.iload_n 3, 1) := by decide +kernel
theorem dX5_lacks_28 : decode cX5_lacks 28 = .ok (.iconst 0, 1) := by decide +kernel
theorem dX5_lacks_29 : decode cX5_lacks 29 = .ok (.aload_n 0, 1) := by decide +kernel
theorem dX5_lacks_30 : decode cX5_lacks 30 = .ok (.getfield 78, 3) := by decide +kernel
theorem dX5_lacks_33 : decode cX5_lacks 33 = .ok (.iload_n 1, 1) := by decide +kernel
theorem dX5_lacks_34 : decode cX5_lacks 34 = .ok (.iaload, 1) := by decide +kernel
theorem dX5_lacks_35 : decode cX5_lacks 35 = .ok (.iconst 1, 1) := by decide +kernel
theorem dX5_lacks_36 : decode cX5_lacks 36 = .ok (.isub, 1) := by decide +kernel
theorem dX5_lacks_37 : decode cX5_lacks 37 = .ok (.invokestatic 89, 3) := by decide +kernel
theorem dX5_lacks_40 : decode cX5_lacks 40 = .ok (.ifCond .eq 7, 3) := by decide +kernel
theorem dX5_lacks_43 : decode cX5_lacks 43 = .ok (.iconst 0, 1) := by decide +kernel
theorem dX5_lacks_44 : decode cX5_lacks 44 = .ok (.goto 4, 3) := by decide +kernel
theorem dX5_lacks_47 : decode cX5_lacks 47 = .ok (.iconst 2, 1) := by decide +kernel
theorem dX5_lacks_48 : decode cX5_lacks 48 = .ok (.ireturn, 1) := by decide +kernel
theorem dX5_keep_0 : decode cX5_keep 0 = .ok (.aload_n 0, 1) := by decide +kernel
theorem dX5_keep_1 : decode cX5_keep 1 = .ok (.getfield 81, 3) := by decide +kernel
theorem dX5_keep_4 : decode cX5_keep 4 = .ok (.bipush 48, 2) := by decide +kernel
theorem dX5_keep_6 : decode cX5_keep 6 = .ok (.iload_n 1, 1) := by decide +kernel
theorem dX5_keep_7 : decode cX5_keep 7 = .ok (.imul, 1) := by decide +kernel
theorem dX5_keep_8 : decode cX5_keep 8 = .ok (.iload_n 2, 1) := by decide +kernel
theorem dX5_keep_9 : decode cX5_keep 9 = .ok (.iadd, 1) := by decide +kernel
theorem dX5_keep_10 : decode cX5_keep 10 = .ok (.aload_n 0, 1) := by decide +kernel
theorem dX5_keep_11 : decode cX5_keep 11 = .ok (.getfield 75, 3) := by decide +kernel
theorem dX5_keep_14 : decode cX5_keep 14 = .ok (.iload_n 1, 1) := by decide +kernel
theorem dX5_keep_15 : decode cX5_keep 15 = .ok (.iaload, 1) := by decide +kernel
theorem dX5_keep_16 : decode cX5_keep 16 = .ok (.ifCond .ne 8, 3) := by decide +kernel
theorem dX5_keep_19 : decode cX5_keep 19 = .ok (.iload_n 3, 1) := by decide +kernel
theorem dX5_keep_20 : decode cX5_keep 20 = .ok (.i2b, 1) := by decide +kernel
theorem dX5_keep_21 : decode cX5_keep 21 = .ok (.goto 19, 3) := by decide +kernel
theorem dX5_keep_24 : decode cX5_keep 24 = .ok (.aload_n 0, 1) := by decide +kernel
theorem dX5_keep_25 : decode cX5_keep 25 = .ok (.getfield 75, 3) := by decide +kernel
theorem dX5_keep_28 : decode cX5_keep 28 = .ok (.iload_n 1, 1) := by decide +kernel
theorem dX5_keep_29 : decode cX5_keep 29 = .ok (.iaload, 1) := by decide +kernel
theorem dX5_keep_30 : decode cX5_keep 30 = .ok (.iconst 1, 1) := by decide +kernel
theorem dX5_keep_31 : decode cX5_keep 31 = .ok (.if_icmp .ne 8, 3) := by decide +kernel
theorem dX5_keep_34 : decode cX5_keep 34 = .ok (.iload_n 3, 1) := by decide +kernel
theorem dX5_keep_35 : decode cX5_keep 35 = .ok (.i2s, 1) := by decide +kernel
theorem dX5_keep_36 : decode cX5_keep 36 = .ok (.goto 4, 3) := by decide +kernel
theorem dX5_keep_39 : decode cX5_keep 39 = .ok (.iload_n 3, 1) := by decide +kernel
theorem dX5_keep_40 : decode cX5_keep 40 = .ok (.iastore, 1) := by decide +kernel
theorem dX5_keep_41 : decode cX5_keep 41 = .ok (.return_, 1) := by decide +kernel
theorem dX5_put_0 : decode cX5_put 0 = .ok (.iload_n 1, 1) := by decide +kernel
theorem dX5_put_1 : decode cX5_put 1 = .ok (.invokestatic 155, 3) := by decide +kernel
theorem dX5_put_4 : decode cX5_put 4 = .ok (.ifCond .eq 12, 3) := by decide +kernel
theorem dX5_put_7 : decode cX5_put 7 = .ok (.iload_n 2, 1) := by decide +kernel
theorem dX5_put_8 : decode cX5_put 8 = .ok (.iconst 0, 1) := by decide +kernel
theorem dX5_put_9 : decode cX5_put 9 = .ok (.iconst 2, 1) := by decide +kernel
theorem dX5_put_10 : decode cX5_put 10 = .ok (.invokestatic 89, 3) := by decide +kernel
theorem dX5_put_13 : decode cX5_put 13 = .ok (.ifCond .ne 6, 3) := by decide +kernel
theorem dX5_put_16 : decode cX5_put 16 = .ok (.bipush (-2), 2) := by decide +kernel
theorem dX5_put_18 : decode cX5_put 18 = .ok (.ireturn, 1) := by decide +kernel
theorem dX5_put_19 : decode cX5_put 19 = .ok (.aload_n 0, 1) := by decide +kernel
theorem dX5_put_20 : decode cX5_put 20 = .ok (.iload_n 1, 1) := by decide +kernel
theorem dX5_put_21 : decode cX5_put 21 = .ok (.iload_n 2, 1) := by decide +kernel
theorem dX5_put_22 : decode cX5_put 22 = .ok (.iload_n 3, 1) := by decide +kernel
theorem dX5_put_23 : decode cX5_put 23 = .ok (.invokevirtual 289, 3) := by decide +kernel
theorem dX5_put_26 : decode cX5_put 26 = .ok (.istore 5, 2) := by decide +kernel
theorem dX5_put_28 : decode cX5_put 28 = .ok (.iload 5, 2) := by decide +kernel
theorem dX5_put_30 : decode cX5_put 30 = .ok (.ifCond .le 10, 3) := by decide +kernel
theorem dX5_put_33 : decode cX5_put 33 = .ok (.aload_n 0, 1) := by decide +kernel
theorem dX5_put_34 : decode cX5_put 34 = .ok (.iload 5, 2) := by decide +kernel
theorem dX5_put_36 : decode cX5_put 36 = .ok (.invokevirtual 158, 3) := by decide +kernel
theorem dX5_put_39 : decode cX5_put 39 = .ok (.ireturn, 1) := by decide +kernel
theorem dX5_put_40 : decode cX5_put 40 = .ok (.aload_n 0, 1) := by decide +kernel
theorem dX5_put_41 : decode cX5_put 41 = .ok (.iload_n 1, 1) := by decide +kernel
theorem dX5_put_42 : decode cX5_put 42 = .ok (.iload_n 3, 1) := by decide +kernel
theorem dX5_put_43 : decode cX5_put 43 = .ok (.iload 4, 2) := by decide +kernel
theorem dX5_put_45 : decode cX5_put 45 = .ok (.invokevirtual 292, 3) := by decide +kernel
theorem dX5_put_48 : decode cX5_put 48 = .ok (.iconst 1, 1) := by decide +kernel
theorem dX5_put_49 : decode cX5_put 49 = .ok (.ireturn, 1) := by decide +kernel
theorem dX5_get_0 : decode cX5_get 0 = .ok (.iload_n 1, 1) := by decide +kernel
theorem dX5_get_1 : decode cX5_get 1 = .ok (.invokestatic 155, 3) := by decide +kernel
theorem dX5_get_4 : decode cX5_get 4 = .ok (.ifCond .eq 12, 3) := by decide +kernel
theorem dX5_get_7 : decode cX5_get 7 = .ok (.iload_n 2, 1) := by decide +kernel
theorem dX5_get_8 : decode cX5_get 8 = .ok (.iconst 0, 1) := by decide +kernel
theorem dX5_get_9 : decode cX5_get 9 = .ok (.iconst 2, 1) := by decide +kernel
theorem dX5_get_10 : decode cX5_get 10 = .ok (.invokestatic 89, 3) := by decide +kernel
theorem dX5_get_13 : decode cX5_get 13 = .ok (.ifCond .ne 7, 3) := by decide +kernel
theorem dX5_get_16 : decode cX5_get 16 = .ok (.ldc_w 296, 3) := by decide +kernel
theorem dX5_get_19 : decode cX5_get 19 = .ok (.ireturn, 1) := by decide +kernel
theorem dX5_get_20 : decode cX5_get 20 = .ok (.aload_n 0, 1) := by decide +kernel
theorem dX5_get_21 : decode cX5_get 21 = .ok (.iload_n 1, 1) := by decide +kernel
theorem dX5_get_22 : decode cX5_get 22 = .ok (.iload_n 2, 1) := by decide +kernel
theorem dX5_get_23 : decode cX5_get 23 = .ok (.iload_n 3, 1) := by decide +kernel
theorem dX5_get_24 : decode cX5_get 24 = .ok (.invokevirtual 289, 3) := by decide +kernel
theorem dX5_get_27 : decode cX5_get 27 = .ok (.istore 4, 2) := by decide +kernel
theorem dX5_get_29 : decode cX5_get 29 = .ok (.iload 4, 2) := by decide +kernel
theorem dX5_get_31 : decode cX5_get 31 = .ok (.ifCond .le 13, 3) := by decide +kernel
theorem dX5_get_34 : decode cX5_get 34 = .ok (.aload_n 0, 1) := by decide +kernel
theorem dX5_get_35 : decode cX5_get 35 = .ok (.iload 4, 2) := by decide +kernel
theorem dX5_get_37 : decode cX5_get 37 = .ok (.putfield 286, 3) := by decide +kernel
theorem dX5_get_40 : decode cX5_get 40 = .ok (.ldc_w 296, 3) := by decide +kernel
theorem dX5_get_43 : decode cX5_get 43 = .ok (.ireturn, 1) := by decide +kernel
theorem dX5_get_44 : decode cX5_get 44 = .ok (.aload_n 0, 1) := by decide +kernel
theorem dX5_get_45 : decode cX5_get 45 = .ok (.getfield 81, 3) := by decide +kernel
theorem dX5_get_48 : decode cX5_get 48 = .ok (.bipush 48, 2) := by decide +kernel
theorem dX5_get_50 : decode cX5_get 50 = .ok (.iload_n 1, 1) := by decide +kernel
theorem dX5_get_51 : decode cX5_get 51 = .ok (.imul, 1) := by decide +kernel
theorem dX5_get_52 : decode cX5_get 52 = .ok (.iload_n 3, 1) := by decide +kernel
theorem dX5_get_53 : decode cX5_get 53 = .ok (.iadd, 1) := by decide +kernel
theorem dX5_get_54 : decode cX5_get 54 = .ok (.iaload, 1) := by decide +kernel
theorem dX5_get_55 : decode cX5_get 55 = .ok (.ireturn, 1) := by decide +kernel
theorem dX5_copy_0 : decode cX5_copy 0 = .ok (.iload_n 1, 1) := by decide +kernel
theorem dX5_copy_1 : decode cX5_copy 1 = .ok (.invokestatic 155, 3) := by decide +kernel
theorem dX5_copy_4 : decode cX5_copy 4 = .ok (.ifCond .eq 10, 3) := by decide +kernel
theorem dX5_copy_7 : decode cX5_copy 7 = .ok (.iload_n 3, 1) := by decide +kernel
theorem dX5_copy_8 : decode cX5_copy 8 = .ok (.invokestatic 155, 3) := by decide +kernel
theorem dX5_copy_11 : decode cX5_copy 11 = .ok (.ifCond .ne 6, 3) := by decide +kernel
theorem dX5_copy_14 : decode cX5_copy 14 = .ok (.bipush (-2), 2) := by decide +kernel
theorem dX5_copy_16 : decode cX5_copy 16 = .ok (.ireturn, 1) := by decide +kernel
theorem dX5_copy_17 : decode cX5_copy 17 = .ok (.aload_n 0, 1) := by decide +kernel
theorem dX5_copy_18 : decode cX5_copy 18 = .ok (.getfield 72, 3) := by decide +kernel
theorem dX5_copy_21 : decode cX5_copy 21 = .ok (.iload_n 1, 1) := by decide +kernel
theorem dX5_copy_22 : decode cX5_copy 22 = .ok (.baload, 1) := by decide +kernel
theorem dX5_copy_23 : decode cX5_copy 23 = .ok (.ifCond .eq 12, 3) := by decide +kernel
theorem dX5_copy_26 : decode cX5_copy 26 = .ok (.aload_n 0, 1) := by decide +kernel
theorem dX5_copy_27 : decode cX5_copy 27 = .ok (.getfield 72, 3) := by decide +kernel
theorem dX5_copy_30 : decode cX5_copy 30 = .ok (.iload_n 3, 1) := by decide +kernel
theorem dX5_copy_31 : decode cX5_copy 31 = .ok (.baload, 1) := by decide +kernel
theorem dX5_copy_32 : decode cX5_copy 32 = .ok (.ifCond .ne 9, 3) := by decide +kernel
theorem dX5_copy_35 : decode cX5_copy 35 = .ok (.aload_n 0, 1) := by decide +kernel
theorem dX5_copy_36 : decode cX5_copy 36 = .ok (.iconst 1, 1) := by decide +kernel
theorem dX5_copy_37 : decode cX5_copy 37 = .ok (.invokevirtual 158, 3) := by decide +kernel
theorem dX5_copy_40 : decode cX5_copy 40 = .ok (.ireturn, 1) := by decide +kernel
theorem dX5_copy_41 : decode cX5_copy 41 = .ok (.aload_n 0, 1) := by decide +kernel
theorem dX5_copy_42 : decode cX5_copy 42 = .ok (.getfield 75, 3) := by decide +kernel
theorem dX5_copy_45 : decode cX5_copy 45 = .ok (.iload_n 1, 1) := by decide +kernel
theorem dX5_copy_46 : decode cX5_copy 46 = .ok (.iaload, 1) := by decide +kernel
theorem dX5_copy_47 : decode cX5_copy 47 = .ok (.aload_n 0, 1) := by decide +kernel
theorem dX5_copy_48 : decode cX5_copy 48 = .ok (.getfield 75, 3) := by decide +kernel
theorem dX5_copy_51 : decode cX5_copy 51 = .ok (.iload_n 3, 1) := by decide +kernel
theorem dX5_copy_52 : decode cX5_copy 52 = .ok (.iaload, 1) := by decide +kernel
theorem dX5_copy_53 : decode cX5_copy 53 = .ok (.if_icmp .eq 9, 3) := by decide +kernel
theorem dX5_copy_56 : decode cX5_copy 56 = .ok (.aload_n 0, 1) := by decide +kernel
theorem dX5_copy_57 : decode cX5_copy 57 = .ok (.iconst 4, 1) := by decide +kernel
theorem dX5_copy_58 : decode cX5_copy 58 = .ok (.invokevirtual 158, 3) := by decide +kernel
theorem dX5_copy_61 : decode cX5_copy 61 = .ok (.ireturn, 1) := by decide +kernel
theorem dX5_copy_62 : decode cX5_copy 62 = .ok (.iload_n 2, 1) := by decide +kernel
theorem dX5_copy_63 : decode cX5_copy 63 = .ok (.ifCond .lt 48, 3) := by decide +kernel
theorem dX5_copy_66 : decode cX5_copy 66 = .ok (.iload 4, 2) := by decide +kernel
theorem dX5_copy_68 : decode cX5_copy 68 = .ok (.ifCond .lt 43, 3) := by decide +kernel
theorem dX5_copy_71 : decode cX5_copy 71 = .ok (.iload 5, 2) := by decide +kernel
theorem dX5_copy_73 : decode cX5_copy 73 = .ok (.ifCond .lt 38, 3) := by decide +kernel
theorem dX5_copy_76 : decode cX5_copy 76 = .ok (.iload_n 2, 1) := by decide +kernel
theorem dX5_copy_77 : decode cX5_copy 77 = .ok (.i2l, 1) := by decide +kernel
theorem dX5_copy_78 : decode cX5_copy 78 = .ok (.iload 5, 2) := by decide +kernel
theorem dX5_copy_80 : decode cX5_copy 80 = .ok (.i2l, 1) := by decide +kernel
theorem dX5_copy_81 : decode cX5_copy 81 = .ok (.ladd, 1) := by decide +kernel
theorem dX5_copy_82 : decode cX5_copy 82 = .ok (.aload_n 0, 1) := by decide +kernel
theorem dX5_copy_83 : decode cX5_copy 83 = .ok (.getfield 78, 3) := by decide +kernel
theorem dX5_copy_86 : decode cX5_copy 86 = .ok (.iload_n 1, 1) := by decide +kernel
theorem dX5_copy_87 : decode cX5_copy 87 = .ok (.iaload, 1) := by decide +kernel
theorem dX5_copy_88 : decode cX5_copy 88 = .ok (.i2l, 1) := by decide +kernel
theorem dX5_copy_89 : decode cX5_copy 89 = .ok (.lcmp, 1) := by decide +kernel
theorem dX5_copy_90 : decode cX5_copy 90 = .ok (.ifCond .gt 21, 3) := by decide +kernel
theorem dX5_copy_93 : decode cX5_copy 93 = .ok (.iload 4, 2) := by decide +kernel
theorem dX5_copy_95 : decode cX5_copy 95 = .ok (.i2l, 1) := by decide +kernel
theorem dX5_copy_96 : decode cX5_copy 96 = .ok (.iload 5, 2) := by decide +kernel
theorem dX5_copy_98 : decode cX5_copy 98 = .ok (.i2l, 1) := by decide +kernel
theorem dX5_copy_99 : decode cX5_copy 99 = .ok (.ladd, 1) := by decide +kernel
theorem dX5_copy_100 : decode cX5_copy 100 = .ok (.aload_n 0, 1) := by decide +kernel
theorem dX5_copy_101 : decode cX5_copy 101 = .ok (.getfield 78, 3) := by decide +kernel
theorem dX5_copy_104 : decode cX5_copy 104 = .ok (.iload_n 3, 1) := by decide +kernel
theorem dX5_copy_105 : decode cX5_copy 105 = .ok (.iaload, 1) := by decide +kernel
theorem dX5_copy_106 : decode cX5_copy 106 = .ok (.i2l, 1) := by decide +kernel
theorem dX5_copy_107 : decode cX5_copy 107 = .ok (.lcmp, 1) := by decide +kernel
theorem dX5_copy_108 : decode cX5_copy 108 = .ok (.ifCond .le 9, 3) := by decide +kernel
theorem dX5_copy_111 : decode cX5_copy 111 = .ok (.aload_n 0, 1) := by decide +kernel
theorem dX5_copy_112 : decode cX5_copy 112 = .ok (.iconst 2, 1) := by decide +kernel
theorem dX5_copy_113 : decode cX5_copy 113 = .ok (.invokevirtual 158, 3) := by decide +kernel
theorem dX5_copy_116 : decode cX5_copy 116 = .ok (.ireturn, 1) := by decide +kernel
theorem dX5_copy_117 : decode cX5_copy 117 = .ok (.iconst 0, 1) := by decide +kernel
theorem dX5_copy_118 : decode cX5_copy 118 = .ok (.istore 6, 2) := by decide +kernel
theorem dX5_copy_120 : decode cX5_copy 120 = .ok (.iload 6, 2) := by decide +kernel
theorem dX5_copy_122 : decode cX5_copy 122 = .ok (.iload 5, 2) := by decide +kernel
theorem dX5_copy_124 : decode cX5_copy 124 = .ok (.if_icmp .ge 30, 3) := by decide +kernel
theorem dX5_copy_127 : decode cX5_copy 127 = .ok (.aload_n 0, 1) := by decide +kernel
theorem dX5_copy_128 : decode cX5_copy 128 = .ok (.getfield 84, 3) := by decide +kernel
theorem dX5_copy_131 : decode cX5_copy 131 = .ok (.iload 6, 2) := by decide +kernel
theorem dX5_copy_133 : decode cX5_copy 133 = .ok (.aload_n 0, 1) := by decide +kernel
theorem dX5_copy_134 : decode cX5_copy 134 = .ok (.getfield 81, 3) := by decide +kernel
theorem dX5_copy_137 : decode cX5_copy 137 = .ok (.bipush 48, 2) := by decide +kernel
theorem dX5_copy_139 : decode cX5_copy 139 = .ok (.iload_n 1, 1) := by decide +kernel
theorem dX5_copy_140 : decode cX5_copy 140 = .ok (.imul, 1) := by decide +kernel
theorem dX5_copy_141 : decode cX5_copy 141 = .ok (.iload_n 2, 1) := by decide +kernel
theorem dX5_copy_142 : decode cX5_copy 142 = .ok (.iadd, 1) := by decide +kernel
theorem dX5_copy_143 : decode cX5_copy 143 = .ok (.iload 6, 2) := by decide +kernel
theorem dX5_copy_145 : decode cX5_copy 145 = .ok (.iadd, 1) := by decide +kernel
theorem dX5_copy_146 : decode cX5_copy 146 = .ok (.iaload, 1) := by decide +kernel
theorem dX5_copy_147 : decode cX5_copy 147 = .ok (.iastore, 1) := by decide +kernel
theorem dX5_copy_148 : decode cX5_copy 148 = .ok (.iinc 6 1, 3) := by decide +kernel
theorem dX5_copy_151 : decode cX5_copy 151 = .ok (.goto (-31), 3) := by decide +kernel
theorem dX5_copy_154 : decode cX5_copy 154 = .ok (.iconst 0, 1) := by decide +kernel
theorem dX5_copy_155 : decode cX5_copy 155 = .ok (.istore 6, 2) := by decide +kernel
theorem dX5_copy_157 : decode cX5_copy 157 = .ok (.iload 6, 2) := by decide +kernel
theorem dX5_copy_159 : decode cX5_copy 159 = .ok (.iload 5, 2) := by decide +kernel
theorem dX5_copy_161 : decode cX5_copy 161 = .ok (.if_icmp .ge 31, 3) := by decide +kernel
theorem dX5_copy_164 : decode cX5_copy 164 = .ok (.aload_n 0, 1) := by decide +kernel
theorem dX5_copy_165 : decode cX5_copy 165 = .ok (.getfield 81, 3) := by decide +kernel
theorem dX5_copy_168 : decode cX5_copy 168 = .ok (.bipush 48, 2) := by decide +kernel
theorem dX5_copy_170 : decode cX5_copy 170 = .ok (.iload_n 3, 1) := by decide +kernel
theorem dX5_copy_171 : decode cX5_copy 171 = .ok (.imul, 1) := by decide +kernel
theorem dX5_copy_172 : decode cX5_copy 172 = .ok (.iload 4, 2) := by decide +kernel
theorem dX5_copy_174 : decode cX5_copy 174 = .ok (.iadd, 1) := by decide +kernel
theorem dX5_copy_175 : decode cX5_copy 175 = .ok (.iload 6, 2) := by decide +kernel
theorem dX5_copy_177 : decode cX5_copy 177 = .ok (.iadd, 1) := by decide +kernel
theorem dX5_copy_178 : decode cX5_copy 178 = .ok (.aload_n 0, 1) := by decide +kernel
theorem dX5_copy_179 : decode cX5_copy 179 = .ok (.getfield 84, 3) := by decide +kernel
theorem dX5_copy_182 : decode cX5_copy 182 = .ok (.iload 6, 2) := by decide +kernel
theorem dX5_copy_184 : decode cX5_copy 184 = .ok (.iaload, 1) := by decide +kernel
theorem dX5_copy_185 : decode cX5_copy 185 = .ok (.iastore, 1) := by decide +kernel
theorem dX5_copy_186 : decode cX5_copy 186 = .ok (.iinc 6 1, 3) := by decide +kernel
theorem dX5_copy_189 : decode cX5_copy 189 = .ok (.goto (-32), 3) := by decide +kernel
theorem dX5_copy_192 : decode cX5_copy 192 = .ok (.iconst 1, 1) := by decide +kernel
theorem dX5_copy_193 : decode cX5_copy 193 = .ok (.ireturn, 1) := by decide +kernel
theorem dX5_write_0 : decode cX5_write 0 = .ok (.iload_n 1, 1) := by decide +kernel
theorem dX5_write_1 : decode cX5_write 1 = .ok (.invokestatic 143, 3) := by decide +kernel
theorem dX5_write_4 : decode cX5_write 4 = .ok (.ifCond .eq 10, 3) := by decide +kernel
theorem dX5_write_7 : decode cX5_write 7 = .ok (.iload_n 2, 1) := by decide +kernel
theorem dX5_write_8 : decode cX5_write 8 = .ok (.invokestatic 155, 3) := by decide +kernel
theorem dX5_write_11 : decode cX5_write 11 = .ok (.ifCond .ne 6, 3) := by decide +kernel
theorem dX5_write_14 : decode cX5_write 14 = .ok (.bipush (-2), 2) := by decide +kernel
theorem dX5_write_16 : decode cX5_write 16 = .ok (.ireturn, 1) := by decide +kernel
theorem dX5_write_17 : decode cX5_write 17 = .ok (.aload_n 0, 1) := by decide +kernel
theorem dX5_write_18 : decode cX5_write 18 = .ok (.getfield 72, 3) := by decide +kernel
theorem dX5_write_21 : decode cX5_write 21 = .ok (.iload_n 2, 1) := by decide +kernel
theorem dX5_write_22 : decode cX5_write 22 = .ok (.baload, 1) := by decide +kernel
theorem dX5_write_23 : decode cX5_write 23 = .ok (.ifCond .ne 9, 3) := by decide +kernel
theorem dX5_write_26 : decode cX5_write 26 = .ok (.aload_n 0, 1) := by decide +kernel
theorem dX5_write_27 : decode cX5_write 27 = .ok (.iconst 1, 1) := by decide +kernel
theorem dX5_write_28 : decode cX5_write 28 = .ok (.invokevirtual 158, 3) := by decide +kernel
theorem dX5_write_31 : decode cX5_write 31 = .ok (.ireturn, 1) := by decide +kernel
theorem dX5_write_32 : decode cX5_write 32 = .ok (.aload_n 0, 1) := by decide +kernel
theorem dX5_write_33 : decode cX5_write 33 = .ok (.invokevirtual 198, 3) := by decide +kernel
theorem dX5_write_36 : decode cX5_write 36 = .ok (.iconst 0, 1) := by decide +kernel
theorem dX5_write_37 : decode cX5_write 37 = .ok (.istore_n 3, 1) := by decide +kernel
theorem dX5_write_38 : decode cX5_write 38 = .ok (.iload_n 3, 1) := by decide +kernel
theorem dX5_write_39 : decode cX5_write 39 = .ok (.aload_n 0, 1) := by decide +kernel
theorem dX5_write_40 : decode cX5_write 40 = .ok (.getfield 78, 3) := by decide +kernel
theorem dX5_write_43 : decode cX5_write 43 = .ok (.iload_n 2, 1) := by decide +kernel
theorem dX5_write_44 : decode cX5_write 44 = .ok (.iaload, 1) := by decide +kernel
theorem dX5_write_45 : decode cX5_write 45 = .ok (.if_icmp .ge 32, 3) := by decide +kernel
theorem dX5_write_48 : decode cX5_write 48 = .ok (.iload_n 1, 1) := by decide +kernel
theorem dX5_write_49 : decode cX5_write 49 = .ok (.iload_n 3, 1) := by decide +kernel
theorem dX5_write_50 : decode cX5_write 50 = .ok (.iadd, 1) := by decide +kernel
theorem dX5_write_51 : decode cX5_write 51 = .ok (.sipush 240, 3) := by decide +kernel
theorem dX5_write_54 : decode cX5_write 54 = .ok (.if_icmp .ge 23, 3) := by decide +kernel
theorem dX5_write_57 : decode cX5_write 57 = .ok (.aload_n 0, 1) := by decide +kernel
theorem dX5_write_58 : decode cX5_write 58 = .ok (.iload_n 2, 1) := by decide +kernel
theorem dX5_write_59 : decode cX5_write 59 = .ok (.iload_n 3, 1) := by decide +kernel
theorem dX5_write_60 : decode cX5_write 60 = .ok (.aload_n 0, 1) := by decide +kernel
theorem dX5_write_61 : decode cX5_write 61 = .ok (.getfield 55, 3) := by decide +kernel
theorem dX5_write_64 : decode cX5_write 64 = .ok (.iload_n 1, 1) := by decide +kernel
theorem dX5_write_65 : decode cX5_write 65 = .ok (.iload_n 3, 1) := by decide +kernel
theorem dX5_write_66 : decode cX5_write 66 = .ok (.iadd, 1) := by decide +kernel
theorem dX5_write_67 : decode cX5_write 67 = .ok (.iaload, 1) := by decide +kernel
theorem dX5_write_68 : decode cX5_write 68 = .ok (.invokevirtual 292, 3) := by decide +kernel
theorem dX5_write_71 : decode cX5_write 71 = .ok (.iinc 3 1, 3) := by decide +kernel
theorem dX5_write_74 : decode cX5_write 74 = .ok (.goto (-36), 3) := by decide +kernel
theorem dX5_write_77 : decode cX5_write 77 = .ok (.iload_n 3, 1) := by decide +kernel
theorem dX5_write_78 : decode cX5_write 78 = .ok (.ireturn, 1) := by decide +kernel
theorem dX5_sumOf_0 : decode cX5_sumOf 0 = .ok (.aload_n 0, 1) := by decide +kernel
theorem dX5_sumOf_1 : decode cX5_sumOf 1 = .ok (.invokevirtual 198, 3) := by decide +kernel
theorem dX5_sumOf_4 : decode cX5_sumOf 4 = .ok (.iconst 0, 1) := by decide +kernel
theorem dX5_sumOf_5 : decode cX5_sumOf 5 = .ok (.istore_n 2, 1) := by decide +kernel
theorem dX5_sumOf_6 : decode cX5_sumOf 6 = .ok (.iconst 0, 1) := by decide +kernel
theorem dX5_sumOf_7 : decode cX5_sumOf 7 = .ok (.istore_n 3, 1) := by decide +kernel
theorem dX5_sumOf_8 : decode cX5_sumOf 8 = .ok (.iload_n 3, 1) := by decide +kernel
theorem dX5_sumOf_9 : decode cX5_sumOf 9 = .ok (.sipush 240, 3) := by decide +kernel
theorem dX5_sumOf_12 : decode cX5_sumOf 12 = .ok (.if_icmp .ge 25, 3) := by decide +kernel
theorem dX5_sumOf_15 : decode cX5_sumOf 15 = .ok (.iload_n 2, 1) := by decide +kernel
theorem dX5_sumOf_16 : decode cX5_sumOf 16 = .ok (.aload_n 0, 1) := by decide +kernel
theorem dX5_sumOf_17 : decode cX5_sumOf 17 = .ok (.iload_n 3, 1) := by decide +kernel
theorem dX5_sumOf_18 : decode cX5_sumOf 18 = .ok (.invokevirtual 183, 3) := by decide +kernel
theorem dX5_sumOf_21 : decode cX5_sumOf 21 = .ok (.ifCond .eq 7, 3) := by decide +kernel
theorem dX5_sumOf_24 : decode cX5_sumOf 24 = .ok (.iconst 1, 1) := by decide +kernel
theorem dX5_sumOf_25 : decode cX5_sumOf 25 = .ok (.goto 4, 3) := by decide +kernel
theorem dX5_sumOf_28 : decode cX5_sumOf 28 = .ok (.iconst 0, 1) := by decide +kernel
theorem dX5_sumOf_29 : decode cX5_sumOf 29 = .ok (.iadd, 1) := by decide +kernel
theorem dX5_sumOf_30 : decode cX5_sumOf 30 = .ok (.istore_n 2, 1) := by decide +kernel
theorem dX5_sumOf_31 : decode cX5_sumOf 31 = .ok (.iinc 3 1, 3) := by decide +kernel
theorem dX5_sumOf_34 : decode cX5_sumOf 34 = .ok (.goto (-26), 3) := by decide +kernel
theorem dX5_sumOf_37 : decode cX5_sumOf 37 = .ok (.iload_n 1, 1) := by decide +kernel
theorem dX5_sumOf_38 : decode cX5_sumOf 38 = .ok (.ifCond .ne 10, 3) := by decide +kernel
theorem dX5_sumOf_41 : decode cX5_sumOf 41 = .ok (.aload_n 0, 1) := by decide +kernel
theorem dX5_sumOf_42 : decode cX5_sumOf 42 = .ok (.getfield 104, 3) := by decide +kernel
theorem dX5_sumOf_45 : decode cX5_sumOf 45 = .ok (.goto 28, 3) := by decide +kernel
theorem dX5_sumOf_48 : decode cX5_sumOf 48 = .ok (.iload_n 1, 1) := by decide +kernel
theorem dX5_sumOf_49 : decode cX5_sumOf 49 = .ok (.iconst 1, 1) := by decide +kernel
theorem dX5_sumOf_50 : decode cX5_sumOf 50 = .ok (.if_icmp .ne 10, 3) := by decide +kernel
theorem dX5_sumOf_53 : decode cX5_sumOf 53 = .ok (.aload_n 0, 1) := by decide +kernel
theorem dX5_sumOf_54 : decode cX5_sumOf 54 = .ok (.getfield 108, 3) := by decide +kernel
theorem dX5_sumOf_57 : decode cX5_sumOf 57 = .ok (.goto 16, 3) := by decide +kernel
theorem dX5_sumOf_60 : decode cX5_sumOf 60 = .ok (.iload_n 1, 1) := by decide +kernel
theorem dX5_sumOf_61 : decode cX5_sumOf 61 = .ok (.iconst 4, 1) := by decide +kernel
theorem dX5_sumOf_62 : decode cX5_sumOf 62 = .ok (.if_icmp .ne 7, 3) := by decide +kernel
theorem dX5_sumOf_65 : decode cX5_sumOf 65 = .ok (.iload_n 2, 1) := by decide +kernel
theorem dX5_sumOf_66 : decode cX5_sumOf 66 = .ok (.goto 7, 3) := by decide +kernel
theorem dX5_sumOf_69 : decode cX5_sumOf 69 = .ok (.aload_n 0, 1) := by decide +kernel
theorem dX5_sumOf_70 : decode cX5_sumOf 70 = .ok (.getfield 176, 3) := by decide +kernel
theorem dX5_sumOf_73 : decode cX5_sumOf 73 = .ok (.ireturn, 1) := by decide +kernel
theorem dX5_count_0 : decode cX5_count 0 = .ok (.iload_n 1, 1) := by decide +kernel
theorem dX5_count_1 : decode cX5_count 1 = .ok (.tableswitch 81 0 8 #[51, 51, 57, 57, 51, 66, 51, 71, 76], 51) := by decide +kernel
theorem dX5_count_52 : decode cX5_count 52 = .ok (.aload_n 0, 1) := by decide +kernel
theorem dX5_count_53 : decode cX5_count 53 = .ok (.iload_n 1, 1) := by decide +kernel
theorem dX5_count_54 : decode cX5_count 54 = .ok (.invokevirtual 297, 3) := by decide +kernel
theorem dX5_count_57 : decode cX5_count 57 = .ok (.ireturn, 1) := by decide +kernel
theorem dX5_count_58 : decode cX5_count 58 = .ok (.aload_n 0, 1) := by decide +kernel
theorem dX5_count_59 : decode cX5_count 59 = .ok (.getfield 7, 3) := by decide +kernel
theorem dX5_count_62 : decode cX5_count 62 = .ok (.iload_n 1, 1) := by decide +kernel
theorem dX5_count_63 : decode cX5_count 63 = .ok (.iconst 2, 1) := by decide +kernel
theorem dX5_count_64 : decode cX5_count 64 = .ok (.isub, 1) := by decide +kernel
theorem dX5_count_65 : decode cX5_count 65 = .ok (.iaload, 1) := by decide +kernel
theorem dX5_count_66 : decode cX5_count 66 = .ok (.ireturn, 1) := by decide +kernel
theorem dX5_count_67 : decode cX5_count 67 = .ok (.aload_n 0, 1) := by decide +kernel
theorem dX5_count_68 : decode cX5_count 68 = .ok (.getfield 152, 3) := by decide +kernel
theorem dX5_count_71 : decode cX5_count 71 = .ok (.ireturn, 1) := by decide +kernel
theorem dX5_count_72 : decode cX5_count 72 = .ok (.aload_n 0, 1) := by decide +kernel
theorem dX5_count_73 : decode cX5_count 73 = .ok (.getfield 250, 3) := by decide +kernel
theorem dX5_count_76 : decode cX5_count 76 = .ok (.ireturn, 1) := by decide +kernel
theorem dX5_count_77 : decode cX5_count 77 = .ok (.aload_n 0, 1) := by decide +kernel
theorem dX5_count_78 : decode cX5_count 78 = .ok (.getfield 286, 3) := by decide +kernel
theorem dX5_count_81 : decode cX5_count 81 = .ok (.ireturn, 1) := by decide +kernel
theorem dX5_count_82 : decode cX5_count 82 = .ok (.bipush (-2), 2) := by decide +kernel
theorem dX5_count_84 : decode cX5_count 84 = .ok (.ireturn, 1) := by decide +kernel
theorem dX5_swellDigest_0 : decode cX5_swellDigest 0 = .ok (.lload_n 1, 1) := by decide +kernel
theorem dX5_swellDigest_1 : decode cX5_swellDigest 1 = .ok (.lstore 4, 2) := by decide +kernel
theorem dX5_swellDigest_3 : decode cX5_swellDigest 3 = .ok (.iconst 0, 1) := by decide +kernel
theorem dX5_swellDigest_4 : decode cX5_swellDigest 4 = .ok (.istore 6, 2) := by decide +kernel
theorem dX5_swellDigest_6 : decode cX5_swellDigest 6 = .ok (.iload 6, 2) := by decide +kernel
theorem dX5_swellDigest_8 : decode cX5_swellDigest 8 = .ok (.iconst 3, 1) := by decide +kernel
theorem dX5_swellDigest_9 : decode cX5_swellDigest 9 = .ok (.if_icmp .ge 26, 3) := by decide +kernel
theorem dX5_swellDigest_12 : decode cX5_swellDigest 12 = .ok (.ldc2_w 300, 3) := by decide +kernel
theorem dX5_swellDigest_15 : decode cX5_swellDigest 15 = .ok (.lload 4, 2) := by decide +kernel
theorem dX5_swellDigest_17 : decode cX5_swellDigest 17 = .ok (.lmul, 1) := by decide +kernel
theorem dX5_swellDigest_18 : decode cX5_swellDigest 18 = .ok (.aload_n 0, 1) := by decide +kernel
theorem dX5_swellDigest_19 : decode cX5_swellDigest 19 = .ok (.iload_n 3, 1) := by decide +kernel
theorem dX5_swellDigest_20 : decode cX5_swellDigest 20 = .ok (.iload 6, 2) := by decide +kernel
theorem dX5_swellDigest_22 : decode cX5_swellDigest 22 = .ok (.invokevirtual 128, 3) := by decide +kernel
theorem dX5_swellDigest_25 : decode cX5_swellDigest 25 = .ok (.i2l, 1) := by decide +kernel
theorem dX5_swellDigest_26 : decode cX5_swellDigest 26 = .ok (.ladd, 1) := by decide +kernel
theorem dX5_swellDigest_27 : decode cX5_swellDigest 27 = .ok (.lstore 4, 2) := by decide +kernel
theorem dX5_swellDigest_29 : decode cX5_swellDigest 29 = .ok (.iinc 6 1, 3) := by decide +kernel
theorem dX5_swellDigest_32 : decode cX5_swellDigest 32 = .ok (.goto (-26), 3) := by decide +kernel
theorem dX5_swellDigest_35 : decode cX5_swellDigest 35 = .ok (.ldc2_w 300, 3) := by decide +kernel
theorem dX5_swellDigest_38 : decode cX5_swellDigest 38 = .ok (.lload 4, 2) := by decide +kernel
theorem dX5_swellDigest_40 : decode cX5_swellDigest 40 = .ok (.lmul, 1) := by decide +kernel
theorem dX5_swellDigest_41 : decode cX5_swellDigest 41 = .ok (.aload_n 0, 1) := by decide +kernel
theorem dX5_swellDigest_42 : decode cX5_swellDigest 42 = .ok (.iconst 0, 1) := by decide +kernel
theorem dX5_swellDigest_43 : decode cX5_swellDigest 43 = .ok (.iload_n 3, 1) := by decide +kernel
theorem dX5_swellDigest_44 : decode cX5_swellDigest 44 = .ok (.iconst 5, 1) := by decide +kernel
theorem dX5_swellDigest_45 : decode cX5_swellDigest 45 = .ok (.iconst 0, 1) := by decide +kernel
theorem dX5_swellDigest_46 : decode cX5_swellDigest 46 = .ok (.invokevirtual 302, 3) := by decide +kernel
theorem dX5_swellDigest_49 : decode cX5_swellDigest 49 = .ok (.i2l, 1) := by decide +kernel
theorem dX5_swellDigest_50 : decode cX5_swellDigest 50 = .ok (.ladd, 1) := by decide +kernel
theorem dX5_swellDigest_51 : decode cX5_swellDigest 51 = .ok (.lstore 4, 2) := by decide +kernel
theorem dX5_swellDigest_53 : decode cX5_swellDigest 53 = .ok (.ldc2_w 300, 3) := by decide +kernel
theorem dX5_swellDigest_56 : decode cX5_swellDigest 56 = .ok (.lload 4, 2) := by decide +kernel
theorem dX5_swellDigest_58 : decode cX5_swellDigest 58 = .ok (.lmul, 1) := by decide +kernel
theorem dX5_swellDigest_59 : decode cX5_swellDigest 59 = .ok (.aload_n 0, 1) := by decide +kernel
theorem dX5_swellDigest_60 : decode cX5_swellDigest 60 = .ok (.iconst 0, 1) := by decide +kernel
theorem dX5_swellDigest_61 : decode cX5_swellDigest 61 = .ok (.iload_n 3, 1) := by decide +kernel
theorem dX5_swellDigest_62 : decode cX5_swellDigest 62 = .ok (.iconst 5, 1) := by decide +kernel
theorem dX5_swellDigest_63 : decode cX5_swellDigest 63 = .ok (.iconst 1, 1) := by decide +kernel
theorem dX5_swellDigest_64 : decode cX5_swellDigest 64 = .ok (.invokevirtual 302, 3) := by decide +kernel
theorem dX5_swellDigest_67 : decode cX5_swellDigest 67 = .ok (.i2l, 1) := by decide +kernel
theorem dX5_swellDigest_68 : decode cX5_swellDigest 68 = .ok (.ladd, 1) := by decide +kernel
theorem dX5_swellDigest_69 : decode cX5_swellDigest 69 = .ok (.lstore 4, 2) := by decide +kernel
theorem dX5_swellDigest_71 : decode cX5_swellDigest 71 = .ok (.ldc2_w 300, 3) := by decide +kernel
theorem dX5_swellDigest_74 : decode cX5_swellDigest 74 = .ok (.lload 4, 2) := by decide +kernel
theorem dX5_swellDigest_76 : decode cX5_swellDigest 76 = .ok (.lmul, 1) := by decide +kernel
theorem dX5_swellDigest_77 : decode cX5_swellDigest 77 = .ok (.aload_n 0, 1) := by decide +kernel
theorem dX5_swellDigest_78 : decode cX5_swellDigest 78 = .ok (.iload_n 3, 1) := by decide +kernel
theorem dX5_swellDigest_79 : decode cX5_swellDigest 79 = .ok (.iconst (-1), 1) := by decide +kernel
theorem dX5_swellDigest_80 : decode cX5_swellDigest 80 = .ok (.invokevirtual 263, 3) := by decide +kernel
theorem dX5_swellDigest_83 : decode cX5_swellDigest 83 = .ok (.i2l, 1) := by decide +kernel
theorem dX5_swellDigest_84 : decode cX5_swellDigest 84 = .ok (.ladd, 1) := by decide +kernel
theorem dX5_swellDigest_85 : decode cX5_swellDigest 85 = .ok (.lstore 4, 2) := by decide +kernel
theorem dX5_swellDigest_87 : decode cX5_swellDigest 87 = .ok (.ldc2_w 300, 3) := by decide +kernel
theorem dX5_swellDigest_90 : decode cX5_swellDigest 90 = .ok (.lload 4, 2) := by decide +kernel
theorem dX5_swellDigest_92 : decode cX5_swellDigest 92 = .ok (.lmul, 1) := by decide +kernel
theorem dX5_swellDigest_93 : decode cX5_swellDigest 93 = .ok (.aload_n 0, 1) := by decide +kernel
theorem dX5_swellDigest_94 : decode cX5_swellDigest 94 = .ok (.iload_n 3, 1) := by decide +kernel
theorem dX5_swellDigest_95 : decode cX5_swellDigest 95 = .ok (.iconst 0, 1) := by decide +kernel
theorem dX5_swellDigest_96 : decode cX5_swellDigest 96 = .ok (.invokevirtual 263, 3) := by decide +kernel
theorem dX5_swellDigest_99 : decode cX5_swellDigest 99 = .ok (.i2l, 1) := by decide +kernel
theorem dX5_swellDigest_100 : decode cX5_swellDigest 100 = .ok (.ladd, 1) := by decide +kernel
theorem dX5_swellDigest_101 : decode cX5_swellDigest 101 = .ok (.lreturn, 1) := by decide +kernel
theorem dX5_timeDigest_0 : decode cX5_timeDigest 0 = .ok (.ldc2_w 300, 3) := by decide +kernel
theorem dX5_timeDigest_3 : decode cX5_timeDigest 3 = .ok (.lload_n 1, 1) := by decide +kernel
theorem dX5_timeDigest_4 : decode cX5_timeDigest 4 = .ok (.lmul, 1) := by decide +kernel
theorem dX5_timeDigest_5 : decode cX5_timeDigest 5 = .ok (.aload_n 0, 1) := by decide +kernel
theorem dX5_timeDigest_6 : decode cX5_timeDigest 6 = .ok (.iload_n 3, 1) := by decide +kernel
theorem dX5_timeDigest_7 : decode cX5_timeDigest 7 = .ok (.invokevirtual 201, 3) := by decide +kernel
theorem dX5_timeDigest_10 : decode cX5_timeDigest 10 = .ok (.i2l, 1) := by decide +kernel
theorem dX5_timeDigest_11 : decode cX5_timeDigest 11 = .ok (.ladd, 1) := by decide +kernel
theorem dX5_timeDigest_12 : decode cX5_timeDigest 12 = .ok (.lstore 4, 2) := by decide +kernel
theorem dX5_timeDigest_14 : decode cX5_timeDigest 14 = .ok (.iconst 0, 1) := by decide +kernel
theorem dX5_timeDigest_15 : decode cX5_timeDigest 15 = .ok (.istore 6, 2) := by decide +kernel
theorem dX5_timeDigest_17 : decode cX5_timeDigest 17 = .ok (.iload 6, 2) := by decide +kernel
theorem dX5_timeDigest_19 : decode cX5_timeDigest 19 = .ok (.iconst 3, 1) := by decide +kernel
theorem dX5_timeDigest_20 : decode cX5_timeDigest 20 = .ok (.if_icmp .ge 26, 3) := by decide +kernel
theorem dX5_timeDigest_23 : decode cX5_timeDigest 23 = .ok (.ldc2_w 300, 3) := by decide +kernel
theorem dX5_timeDigest_26 : decode cX5_timeDigest 26 = .ok (.lload 4, 2) := by decide +kernel
theorem dX5_timeDigest_28 : decode cX5_timeDigest 28 = .ok (.lmul, 1) := by decide +kernel
theorem dX5_timeDigest_29 : decode cX5_timeDigest 29 = .ok (.aload_n 0, 1) := by decide +kernel
theorem dX5_timeDigest_30 : decode cX5_timeDigest 30 = .ok (.iload_n 3, 1) := by decide +kernel
theorem dX5_timeDigest_31 : decode cX5_timeDigest 31 = .ok (.iload 6, 2) := by decide +kernel
theorem dX5_timeDigest_33 : decode cX5_timeDigest 33 = .ok (.invokevirtual 204, 3) := by decide +kernel
theorem dX5_timeDigest_36 : decode cX5_timeDigest 36 = .ok (.i2l, 1) := by decide +kernel
theorem dX5_timeDigest_37 : decode cX5_timeDigest 37 = .ok (.ladd, 1) := by decide +kernel
theorem dX5_timeDigest_38 : decode cX5_timeDigest 38 = .ok (.lstore 4, 2) := by decide +kernel
theorem dX5_timeDigest_40 : decode cX5_timeDigest 40 = .ok (.iinc 6 1, 3) := by decide +kernel
theorem dX5_timeDigest_43 : decode cX5_timeDigest 43 = .ok (.goto (-26), 3) := by decide +kernel
theorem dX5_timeDigest_46 : decode cX5_timeDigest 46 = .ok (.ldc2_w 300, 3) := by decide +kernel
theorem dX5_timeDigest_49 : decode cX5_timeDigest 49 = .ok (.lload 4, 2) := by decide +kernel
theorem dX5_timeDigest_51 : decode cX5_timeDigest 51 = .ok (.lmul, 1) := by decide +kernel
theorem dX5_timeDigest_52 : decode cX5_timeDigest 52 = .ok (.aload_n 0, 1) := by decide +kernel
theorem dX5_timeDigest_53 : decode cX5_timeDigest 53 = .ok (.iconst 0, 1) := by decide +kernel
theorem dX5_timeDigest_54 : decode cX5_timeDigest 54 = .ok (.iload_n 3, 1) := by decide +kernel
theorem dX5_timeDigest_55 : decode cX5_timeDigest 55 = .ok (.invokevirtual 213, 3) := by decide +kernel
theorem dX5_timeDigest_58 : decode cX5_timeDigest 58 = .ok (.i2l, 1) := by decide +kernel
theorem dX5_timeDigest_59 : decode cX5_timeDigest 59 = .ok (.ladd, 1) := by decide +kernel
theorem dX5_timeDigest_60 : decode cX5_timeDigest 60 = .ok (.lreturn, 1) := by decide +kernel
theorem dX5_numberDigest_0 : decode cX5_numberDigest 0 = .ok (.ldc2_w 300, 3) := by decide +kernel
theorem dX5_numberDigest_3 : decode cX5_numberDigest 3 = .ok (.lload_n 1, 1) := by decide +kernel
theorem dX5_numberDigest_4 : decode cX5_numberDigest 4 = .ok (.lmul, 1) := by decide +kernel
theorem dX5_numberDigest_5 : decode cX5_numberDigest 5 = .ok (.aload_n 0, 1) := by decide +kernel
theorem dX5_numberDigest_6 : decode cX5_numberDigest 6 = .ok (.iload_n 3, 1) := by decide +kernel
theorem dX5_numberDigest_7 : decode cX5_numberDigest 7 = .ok (.invokevirtual 210, 3) := by decide +kernel
theorem dX5_numberDigest_10 : decode cX5_numberDigest 10 = .ok (.i2l, 1) := by decide +kernel
theorem dX5_numberDigest_11 : decode cX5_numberDigest 11 = .ok (.ladd, 1) := by decide +kernel
theorem dX5_numberDigest_12 : decode cX5_numberDigest 12 = .ok (.lstore 4, 2) := by decide +kernel
theorem dX5_numberDigest_14 : decode cX5_numberDigest 14 = .ok (.ldc2_w 300, 3) := by decide +kernel
theorem dX5_numberDigest_17 : decode cX5_numberDigest 17 = .ok (.lload 4, 2) := by decide +kernel
theorem dX5_numberDigest_19 : decode cX5_numberDigest 19 = .ok (.lmul, 1) := by decide +kernel
theorem dX5_numberDigest_20 : decode cX5_numberDigest 20 = .ok (.aload_n 0, 1) := by decide +kernel
theorem dX5_numberDigest_21 : decode cX5_numberDigest 21 = .ok (.iload_n 3, 1) := by decide +kernel
theorem dX5_numberDigest_22 : decode cX5_numberDigest 22 = .ok (.invokevirtual 219, 3) := by decide +kernel
theorem dX5_numberDigest_25 : decode cX5_numberDigest 25 = .ok (.i2l, 1) := by decide +kernel
theorem dX5_numberDigest_26 : decode cX5_numberDigest 26 = .ok (.ladd, 1) := by decide +kernel
theorem dX5_numberDigest_27 : decode cX5_numberDigest 27 = .ok (.lreturn, 1) := by decide +kernel
theorem dX5_digest_0 : decode cX5_digest 0 = .ok (.ldc2_w 305, 3) := by decide +kernel
theorem dX5_digest_3 : decode cX5_digest 3 = .ok (.lstore_n 1, 1) := by decide +kernel
theorem dX5_digest_4 : decode cX5_digest 4 = .ok (.iconst 0, 1) := by decide +kernel
theorem dX5_digest_5 : decode cX5_digest 5 = .ok (.istore_n 3, 1) := by decide +kernel
theorem dX5_digest_6 : decode cX5_digest 6 = .ok (.iload_n 3, 1) := by decide +kernel
theorem dX5_digest_7 : decode cX5_digest 7 = .ok (.bipush 8, 2) := by decide +kernel
theorem dX5_digest_9 : decode cX5_digest 9 = .ok (.if_icmp .ge 22, 3) := by decide +kernel
theorem dX5_digest_12 : decode cX5_digest 12 = .ok (.ldc2_w 300, 3) := by decide +kernel
theorem dX5_digest_15 : decode cX5_digest 15 = .ok (.lload_n 1, 1) := by decide +kernel
theorem dX5_digest_16 : decode cX5_digest 16 = .ok (.lmul, 1) := by decide +kernel
theorem dX5_digest_17 : decode cX5_digest 17 = .ok (.aload_n 0, 1) := by decide +kernel
theorem dX5_digest_18 : decode cX5_digest 18 = .ok (.iload_n 3, 1) := by decide +kernel
theorem dX5_digest_19 : decode cX5_digest 19 = .ok (.invokevirtual 307, 3) := by decide +kernel
theorem dX5_digest_22 : decode cX5_digest 22 = .ok (.i2l, 1) := by decide +kernel
theorem dX5_digest_23 : decode cX5_digest 23 = .ok (.ladd, 1) := by decide +kernel
theorem dX5_digest_24 : decode cX5_digest 24 = .ok (.lstore_n 1, 1) := by decide +kernel
theorem dX5_digest_25 : decode cX5_digest 25 = .ok (.iinc 3 1, 3) := by decide +kernel
theorem dX5_digest_28 : decode cX5_digest 28 = .ok (.goto (-22), 3) := by decide +kernel
theorem dX5_digest_31 : decode cX5_digest 31 = .ok (.ldc2_w 300, 3) := by decide +kernel
theorem dX5_digest_34 : decode cX5_digest 34 = .ok (.lload_n 1, 1) := by decide +kernel
theorem dX5_digest_35 : decode cX5_digest 35 = .ok (.lmul, 1) := by decide +kernel
theorem dX5_digest_36 : decode cX5_digest 36 = .ok (.aload_n 0, 1) := by decide +kernel
theorem dX5_digest_37 : decode cX5_digest 37 = .ok (.iconst 0, 1) := by decide +kernel
theorem dX5_digest_38 : decode cX5_digest 38 = .ok (.invokevirtual 119, 3) := by decide +kernel
theorem dX5_digest_41 : decode cX5_digest 41 = .ok (.i2l, 1) := by decide +kernel
theorem dX5_digest_42 : decode cX5_digest 42 = .ok (.ladd, 1) := by decide +kernel
theorem dX5_digest_43 : decode cX5_digest 43 = .ok (.lstore_n 1, 1) := by decide +kernel
theorem dX5_digest_44 : decode cX5_digest 44 = .ok (.ldc2_w 300, 3) := by decide +kernel
theorem dX5_digest_47 : decode cX5_digest 47 = .ok (.lload_n 1, 1) := by decide +kernel
theorem dX5_digest_48 : decode cX5_digest 48 = .ok (.lmul, 1) := by decide +kernel
theorem dX5_digest_49 : decode cX5_digest 49 = .ok (.aload_n 0, 1) := by decide +kernel
theorem dX5_digest_50 : decode cX5_digest 50 = .ok (.iconst 1, 1) := by decide +kernel
theorem dX5_digest_51 : decode cX5_digest 51 = .ok (.invokevirtual 119, 3) := by decide +kernel
theorem dX5_digest_54 : decode cX5_digest 54 = .ok (.i2l, 1) := by decide +kernel
theorem dX5_digest_55 : decode cX5_digest 55 = .ok (.ladd, 1) := by decide +kernel
theorem dX5_digest_56 : decode cX5_digest 56 = .ok (.lstore_n 1, 1) := by decide +kernel
theorem dX5_digest_57 : decode cX5_digest 57 = .ok (.iconst 0, 1) := by decide +kernel
theorem dX5_digest_58 : decode cX5_digest 58 = .ok (.istore_n 3, 1) := by decide +kernel
theorem dX5_digest_59 : decode cX5_digest 59 = .ok (.iload_n 3, 1) := by decide +kernel
theorem dX5_digest_60 : decode cX5_digest 60 = .ok (.aload_n 0, 1) := by decide +kernel
theorem dX5_digest_61 : decode cX5_digest 61 = .ok (.getfield 104, 3) := by decide +kernel
theorem dX5_digest_64 : decode cX5_digest 64 = .ok (.if_icmp .ge 16, 3) := by decide +kernel
theorem dX5_digest_67 : decode cX5_digest 67 = .ok (.aload_n 0, 1) := by decide +kernel
theorem dX5_digest_68 : decode cX5_digest 68 = .ok (.lload_n 1, 1) := by decide +kernel
theorem dX5_digest_69 : decode cX5_digest 69 = .ok (.iload_n 3, 1) := by decide +kernel
theorem dX5_digest_70 : decode cX5_digest 70 = .ok (.invokevirtual 310, 3) := by decide +kernel
theorem dX5_digest_73 : decode cX5_digest 73 = .ok (.lstore_n 1, 1) := by decide +kernel
theorem dX5_digest_74 : decode cX5_digest 74 = .ok (.iinc 3 1, 3) := by decide +kernel
theorem dX5_digest_77 : decode cX5_digest 77 = .ok (.goto (-18), 3) := by decide +kernel
theorem dX5_digest_80 : decode cX5_digest 80 = .ok (.iconst 0, 1) := by decide +kernel
theorem dX5_digest_81 : decode cX5_digest 81 = .ok (.istore_n 3, 1) := by decide +kernel
theorem dX5_digest_82 : decode cX5_digest 82 = .ok (.iload_n 3, 1) := by decide +kernel
theorem dX5_digest_83 : decode cX5_digest 83 = .ok (.aload_n 0, 1) := by decide +kernel
theorem dX5_digest_84 : decode cX5_digest 84 = .ok (.getfield 108, 3) := by decide +kernel
theorem dX5_digest_87 : decode cX5_digest 87 = .ok (.if_icmp .ge 39, 3) := by decide +kernel
theorem dX5_digest_90 : decode cX5_digest 90 = .ok (.iconst 0, 1) := by decide +kernel
theorem dX5_digest_91 : decode cX5_digest 91 = .ok (.istore 4, 2) := by decide +kernel
theorem dX5_digest_93 : decode cX5_digest 93 = .ok (.iload 4, 2) := by decide +kernel
theorem dX5_digest_95 : decode cX5_digest 95 = .ok (.iconst 3, 1) := by decide +kernel
theorem dX5_digest_96 : decode cX5_digest 96 = .ok (.if_icmp .ge 24, 3) := by decide +kernel
theorem dX5_digest_99 : decode cX5_digest 99 = .ok (.ldc2_w 300, 3) := by decide +kernel
theorem dX5_digest_102 : decode cX5_digest 102 = .ok (.lload_n 1, 1) := by decide +kernel
theorem dX5_digest_103 : decode cX5_digest 103 = .ok (.lmul, 1) := by decide +kernel
theorem dX5_digest_104 : decode cX5_digest 104 = .ok (.aload_n 0, 1) := by decide +kernel
theorem dX5_digest_105 : decode cX5_digest 105 = .ok (.iload_n 3, 1) := by decide +kernel
theorem dX5_digest_106 : decode cX5_digest 106 = .ok (.iload 4, 2) := by decide +kernel
theorem dX5_digest_108 : decode cX5_digest 108 = .ok (.invokevirtual 134, 3) := by decide +kernel
theorem dX5_digest_111 : decode cX5_digest 111 = .ok (.i2l, 1) := by decide +kernel
theorem dX5_digest_112 : decode cX5_digest 112 = .ok (.ladd, 1) := by decide +kernel
theorem dX5_digest_113 : decode cX5_digest 113 = .ok (.lstore_n 1, 1) := by decide +kernel
theorem dX5_digest_114 : decode cX5_digest 114 = .ok (.iinc 4 1, 3) := by decide +kernel
theorem dX5_digest_117 : decode cX5_digest 117 = .ok (.goto (-24), 3) := by decide +kernel
theorem dX5_digest_120 : decode cX5_digest 120 = .ok (.iinc 3 1, 3) := by decide +kernel
theorem dX5_digest_123 : decode cX5_digest 123 = .ok (.goto (-41), 3) := by decide +kernel
theorem dX5_digest_126 : decode cX5_digest 126 = .ok (.aload_n 0, 1) := by decide +kernel
theorem dX5_digest_127 : decode cX5_digest 127 = .ok (.lload_n 1, 1) := by decide +kernel
theorem dX5_digest_128 : decode cX5_digest 128 = .ok (.iconst 0, 1) := by decide +kernel
theorem dX5_digest_129 : decode cX5_digest 129 = .ok (.invokevirtual 314, 3) := by decide +kernel
theorem dX5_digest_132 : decode cX5_digest 132 = .ok (.lstore_n 1, 1) := by decide +kernel
theorem dX5_digest_133 : decode cX5_digest 133 = .ok (.aload_n 0, 1) := by decide +kernel
theorem dX5_digest_134 : decode cX5_digest 134 = .ok (.lload_n 1, 1) := by decide +kernel
theorem dX5_digest_135 : decode cX5_digest 135 = .ok (.iconst 1, 1) := by decide +kernel
theorem dX5_digest_136 : decode cX5_digest 136 = .ok (.invokevirtual 314, 3) := by decide +kernel
theorem dX5_digest_139 : decode cX5_digest 139 = .ok (.lstore_n 1, 1) := by decide +kernel
theorem dX5_digest_140 : decode cX5_digest 140 = .ok (.aload_n 0, 1) := by decide +kernel
theorem dX5_digest_141 : decode cX5_digest 141 = .ok (.lload_n 1, 1) := by decide +kernel
theorem dX5_digest_142 : decode cX5_digest 142 = .ok (.bipush 60, 2) := by decide +kernel
theorem dX5_digest_144 : decode cX5_digest 144 = .ok (.invokevirtual 314, 3) := by decide +kernel
theorem dX5_digest_147 : decode cX5_digest 147 = .ok (.lstore_n 1, 1) := by decide +kernel
theorem dX5_digest_148 : decode cX5_digest 148 = .ok (.aload_n 0, 1) := by decide +kernel
theorem dX5_digest_149 : decode cX5_digest 149 = .ok (.lload_n 1, 1) := by decide +kernel
theorem dX5_digest_150 : decode cX5_digest 150 = .ok (.sipush 239, 3) := by decide +kernel
theorem dX5_digest_153 : decode cX5_digest 153 = .ok (.invokevirtual 314, 3) := by decide +kernel
theorem dX5_digest_156 : decode cX5_digest 156 = .ok (.lstore_n 1, 1) := by decide +kernel
theorem dX5_digest_157 : decode cX5_digest 157 = .ok (.aload_n 0, 1) := by decide +kernel
theorem dX5_digest_158 : decode cX5_digest 158 = .ok (.lload_n 1, 1) := by decide +kernel
theorem dX5_digest_159 : decode cX5_digest 159 = .ok (.iconst 1, 1) := by decide +kernel
theorem dX5_digest_160 : decode cX5_digest 160 = .ok (.invokevirtual 317, 3) := by decide +kernel
theorem dX5_digest_163 : decode cX5_digest 163 = .ok (.lstore_n 1, 1) := by decide +kernel
theorem dX5_digest_164 : decode cX5_digest 164 = .ok (.aload_n 0, 1) := by decide +kernel
theorem dX5_digest_165 : decode cX5_digest 165 = .ok (.lload_n 1, 1) := by decide +kernel
theorem dX5_digest_166 : decode cX5_digest 166 = .ok (.bipush 7, 2) := by decide +kernel
theorem dX5_digest_168 : decode cX5_digest 168 = .ok (.invokevirtual 317, 3) := by decide +kernel
theorem dX5_digest_171 : decode cX5_digest 171 = .ok (.lstore_n 1, 1) := by decide +kernel
theorem dX5_digest_172 : decode cX5_digest 172 = .ok (.aload_n 0, 1) := by decide +kernel
theorem dX5_digest_173 : decode cX5_digest 173 = .ok (.lload_n 1, 1) := by decide +kernel
theorem dX5_digest_174 : decode cX5_digest 174 = .ok (.bipush 40, 2) := by decide +kernel
theorem dX5_digest_176 : decode cX5_digest 176 = .ok (.invokevirtual 317, 3) := by decide +kernel
theorem dX5_digest_179 : decode cX5_digest 179 = .ok (.lstore_n 1, 1) := by decide +kernel
theorem dX5_digest_180 : decode cX5_digest 180 = .ok (.iconst 0, 1) := by decide +kernel
theorem dX5_digest_181 : decode cX5_digest 181 = .ok (.istore_n 3, 1) := by decide +kernel
theorem dX5_digest_182 : decode cX5_digest 182 = .ok (.iload_n 3, 1) := by decide +kernel
theorem dX5_digest_183 : decode cX5_digest 183 = .ok (.bipush 8, 2) := by decide +kernel
theorem dX5_digest_185 : decode cX5_digest 185 = .ok (.if_icmp .ge 50, 3) := by decide +kernel
theorem dX5_digest_188 : decode cX5_digest 188 = .ok (.ldc2_w 300, 3) := by decide +kernel
theorem dX5_digest_191 : decode cX5_digest 191 = .ok (.lload_n 1, 1) := by decide +kernel
theorem dX5_digest_192 : decode cX5_digest 192 = .ok (.lmul, 1) := by decide +kernel
theorem dX5_digest_193 : decode cX5_digest 193 = .ok (.aload_n 0, 1) := by decide +kernel
theorem dX5_digest_194 : decode cX5_digest 194 = .ok (.iload_n 3, 1) := by decide +kernel
theorem dX5_digest_195 : decode cX5_digest 195 = .ok (.invokevirtual 228, 3) := by decide +kernel
theorem dX5_digest_198 : decode cX5_digest 198 = .ok (.i2l, 1) := by decide +kernel
theorem dX5_digest_199 : decode cX5_digest 199 = .ok (.ladd, 1) := by decide +kernel
theorem dX5_digest_200 : decode cX5_digest 200 = .ok (.lstore_n 1, 1) := by decide +kernel
theorem dX5_digest_201 : decode cX5_digest 201 = .ok (.ldc2_w 300, 3) := by decide +kernel
theorem dX5_digest_204 : decode cX5_digest 204 = .ok (.lload_n 1, 1) := by decide +kernel
theorem dX5_digest_205 : decode cX5_digest 205 = .ok (.lmul, 1) := by decide +kernel
theorem dX5_digest_206 : decode cX5_digest 206 = .ok (.aload_n 0, 1) := by decide +kernel
theorem dX5_digest_207 : decode cX5_digest 207 = .ok (.iload_n 3, 1) := by decide +kernel
theorem dX5_digest_208 : decode cX5_digest 208 = .ok (.iconst 0, 1) := by decide +kernel
theorem dX5_digest_209 : decode cX5_digest 209 = .ok (.invokevirtual 247, 3) := by decide +kernel
theorem dX5_digest_212 : decode cX5_digest 212 = .ok (.i2l, 1) := by decide +kernel
theorem dX5_digest_213 : decode cX5_digest 213 = .ok (.ladd, 1) := by decide +kernel
theorem dX5_digest_214 : decode cX5_digest 214 = .ok (.lstore_n 1, 1) := by decide +kernel
theorem dX5_digest_215 : decode cX5_digest 215 = .ok (.ldc2_w 300, 3) := by decide +kernel
theorem dX5_digest_218 : decode cX5_digest 218 = .ok (.lload_n 1, 1) := by decide +kernel
theorem dX5_digest_219 : decode cX5_digest 219 = .ok (.lmul, 1) := by decide +kernel
theorem dX5_digest_220 : decode cX5_digest 220 = .ok (.aload_n 0, 1) := by decide +kernel
theorem dX5_digest_221 : decode cX5_digest 221 = .ok (.iload_n 3, 1) := by decide +kernel
theorem dX5_digest_222 : decode cX5_digest 222 = .ok (.iconst 1, 1) := by decide +kernel
theorem dX5_digest_223 : decode cX5_digest 223 = .ok (.invokevirtual 247, 3) := by decide +kernel
theorem dX5_digest_226 : decode cX5_digest 226 = .ok (.i2l, 1) := by decide +kernel
theorem dX5_digest_227 : decode cX5_digest 227 = .ok (.ladd, 1) := by decide +kernel
theorem dX5_digest_228 : decode cX5_digest 228 = .ok (.lstore_n 1, 1) := by decide +kernel
theorem dX5_digest_229 : decode cX5_digest 229 = .ok (.iinc 3 1, 3) := by decide +kernel
theorem dX5_digest_232 : decode cX5_digest 232 = .ok (.goto (-50), 3) := by decide +kernel
theorem dX5_digest_235 : decode cX5_digest 235 = .ok (.iconst 0, 1) := by decide +kernel
theorem dX5_digest_236 : decode cX5_digest 236 = .ok (.istore_n 3, 1) := by decide +kernel
theorem dX5_digest_237 : decode cX5_digest 237 = .ok (.iload_n 3, 1) := by decide +kernel
theorem dX5_digest_238 : decode cX5_digest 238 = .ok (.aload_n 0, 1) := by decide +kernel
theorem dX5_digest_239 : decode cX5_digest 239 = .ok (.getfield 152, 3) := by decide +kernel
theorem dX5_digest_242 : decode cX5_digest 242 = .ok (.if_icmp .ge 22, 3) := by decide +kernel
theorem dX5_digest_245 : decode cX5_digest 245 = .ok (.ldc2_w 300, 3) := by decide +kernel
theorem dX5_digest_248 : decode cX5_digest 248 = .ok (.lload_n 1, 1) := by decide +kernel
theorem dX5_digest_249 : decode cX5_digest 249 = .ok (.lmul, 1) := by decide +kernel
theorem dX5_digest_250 : decode cX5_digest 250 = .ok (.aload_n 0, 1) := by decide +kernel
theorem dX5_digest_251 : decode cX5_digest 251 = .ok (.iload_n 3, 1) := by decide +kernel
theorem dX5_digest_252 : decode cX5_digest 252 = .ok (.invokevirtual 231, 3) := by decide +kernel
theorem dX5_digest_255 : decode cX5_digest 255 = .ok (.i2l, 1) := by decide +kernel
theorem dX5_digest_256 : decode cX5_digest 256 = .ok (.ladd, 1) := by decide +kernel
theorem dX5_digest_257 : decode cX5_digest 257 = .ok (.lstore_n 1, 1) := by decide +kernel
theorem dX5_digest_258 : decode cX5_digest 258 = .ok (.iinc 3 1, 3) := by decide +kernel
theorem dX5_digest_261 : decode cX5_digest 261 = .ok (.goto (-24), 3) := by decide +kernel
theorem dX5_digest_264 : decode cX5_digest 264 = .ok (.ldc2_w 300, 3) := by decide +kernel
theorem dX5_digest_267 : decode cX5_digest 267 = .ok (.lload_n 1, 1) := by decide +kernel
theorem dX5_digest_268 : decode cX5_digest 268 = .ok (.lmul, 1) := by decide +kernel
theorem dX5_digest_269 : decode cX5_digest 269 = .ok (.aload_n 0, 1) := by decide +kernel
theorem dX5_digest_270 : decode cX5_digest 270 = .ok (.iconst 3, 1) := by decide +kernel
theorem dX5_digest_271 : decode cX5_digest 271 = .ok (.iconst 0, 1) := by decide +kernel
theorem dX5_digest_272 : decode cX5_digest 272 = .ok (.invokevirtual 241, 3) := by decide +kernel
theorem dX5_digest_275 : decode cX5_digest 275 = .ok (.i2l, 1) := by decide +kernel
theorem dX5_digest_276 : decode cX5_digest 276 = .ok (.ladd, 1) := by decide +kernel
theorem dX5_digest_277 : decode cX5_digest 277 = .ok (.lstore_n 1, 1) := by decide +kernel
theorem dX5_digest_278 : decode cX5_digest 278 = .ok (.ldc2_w 300, 3) := by decide +kernel
theorem dX5_digest_281 : decode cX5_digest 281 = .ok (.lload_n 1, 1) := by decide +kernel
theorem dX5_digest_282 : decode cX5_digest 282 = .ok (.lmul, 1) := by decide +kernel
theorem dX5_digest_283 : decode cX5_digest 283 = .ok (.aload_n 0, 1) := by decide +kernel
theorem dX5_digest_284 : decode cX5_digest 284 = .ok (.iconst 3, 1) := by decide +kernel
theorem dX5_digest_285 : decode cX5_digest 285 = .ok (.iconst 1, 1) := by decide +kernel
theorem dX5_digest_286 : decode cX5_digest 286 = .ok (.invokevirtual 241, 3) := by decide +kernel
theorem dX5_digest_289 : decode cX5_digest 289 = .ok (.i2l, 1) := by decide +kernel
theorem dX5_digest_290 : decode cX5_digest 290 = .ok (.ladd, 1) := by decide +kernel
theorem dX5_digest_291 : decode cX5_digest 291 = .ok (.lstore_n 1, 1) := by decide +kernel
theorem dX5_digest_292 : decode cX5_digest 292 = .ok (.ldc2_w 300, 3) := by decide +kernel
theorem dX5_digest_295 : decode cX5_digest 295 = .ok (.lload_n 1, 1) := by decide +kernel
theorem dX5_digest_296 : decode cX5_digest 296 = .ok (.lmul, 1) := by decide +kernel
theorem dX5_digest_297 : decode cX5_digest 297 = .ok (.aload_n 0, 1) := by decide +kernel
theorem dX5_digest_298 : decode cX5_digest 298 = .ok (.bipush 9, 2) := by decide +kernel
theorem dX5_digest_300 : decode cX5_digest 300 = .ok (.invokevirtual 244, 3) := by decide +kernel
theorem dX5_digest_303 : decode cX5_digest 303 = .ok (.i2l, 1) := by decide +kernel
theorem dX5_digest_304 : decode cX5_digest 304 = .ok (.ladd, 1) := by decide +kernel
theorem dX5_digest_305 : decode cX5_digest 305 = .ok (.lstore_n 1, 1) := by decide +kernel
theorem dX5_digest_306 : decode cX5_digest 306 = .ok (.ldc2_w 300, 3) := by decide +kernel
theorem dX5_digest_309 : decode cX5_digest 309 = .ok (.lload_n 1, 1) := by decide +kernel
theorem dX5_digest_310 : decode cX5_digest 310 = .ok (.lmul, 1) := by decide +kernel
theorem dX5_digest_311 : decode cX5_digest 311 = .ok (.aload_n 0, 1) := by decide +kernel
theorem dX5_digest_312 : decode cX5_digest 312 = .ok (.iconst 1, 1) := by decide +kernel
theorem dX5_digest_313 : decode cX5_digest 313 = .ok (.invokevirtual 257, 3) := by decide +kernel
theorem dX5_digest_316 : decode cX5_digest 316 = .ok (.i2l, 1) := by decide +kernel
theorem dX5_digest_317 : decode cX5_digest 317 = .ok (.ladd, 1) := by decide +kernel
theorem dX5_digest_318 : decode cX5_digest 318 = .ok (.lstore_n 1, 1) := by decide +kernel
theorem dX5_digest_319 : decode cX5_digest 319 = .ok (.ldc2_w 300, 3) := by decide +kernel
theorem dX5_digest_322 : decode cX5_digest 322 = .ok (.lload_n 1, 1) := by decide +kernel
theorem dX5_digest_323 : decode cX5_digest 323 = .ok (.lmul, 1) := by decide +kernel
theorem dX5_digest_324 : decode cX5_digest 324 = .ok (.aload_n 0, 1) := by decide +kernel
theorem dX5_digest_325 : decode cX5_digest 325 = .ok (.iconst (-1), 1) := by decide +kernel
theorem dX5_digest_326 : decode cX5_digest 326 = .ok (.invokevirtual 260, 3) := by decide +kernel
theorem dX5_digest_329 : decode cX5_digest 329 = .ok (.i2l, 1) := by decide +kernel
theorem dX5_digest_330 : decode cX5_digest 330 = .ok (.ladd, 1) := by decide +kernel
theorem dX5_digest_331 : decode cX5_digest 331 = .ok (.lstore_n 1, 1) := by decide +kernel
theorem dX5_digest_332 : decode cX5_digest 332 = .ok (.ldc2_w 300, 3) := by decide +kernel
theorem dX5_digest_335 : decode cX5_digest 335 = .ok (.lload_n 1, 1) := by decide +kernel
theorem dX5_digest_336 : decode cX5_digest 336 = .ok (.lmul, 1) := by decide +kernel
theorem dX5_digest_337 : decode cX5_digest 337 = .ok (.aload_n 0, 1) := by decide +kernel
theorem dX5_digest_338 : decode cX5_digest 338 = .ok (.iconst 0, 1) := by decide +kernel
theorem dX5_digest_339 : decode cX5_digest 339 = .ok (.invokevirtual 260, 3) := by decide +kernel
theorem dX5_digest_342 : decode cX5_digest 342 = .ok (.i2l, 1) := by decide +kernel
theorem dX5_digest_343 : decode cX5_digest 343 = .ok (.ladd, 1) := by decide +kernel
theorem dX5_digest_344 : decode cX5_digest 344 = .ok (.lstore_n 1, 1) := by decide +kernel
theorem dX5_digest_345 : decode cX5_digest 345 = .ok (.ldc2_w 300, 3) := by decide +kernel
theorem dX5_digest_348 : decode cX5_digest 348 = .ok (.lload_n 1, 1) := by decide +kernel
theorem dX5_digest_349 : decode cX5_digest 349 = .ok (.lmul, 1) := by decide +kernel
theorem dX5_digest_350 : decode cX5_digest 350 = .ok (.aload_n 0, 1) := by decide +kernel
theorem dX5_digest_351 : decode cX5_digest 351 = .ok (.iconst 5, 1) := by decide +kernel
theorem dX5_digest_352 : decode cX5_digest 352 = .ok (.iconst 4, 1) := by decide +kernel
theorem dX5_digest_353 : decode cX5_digest 353 = .ok (.iconst 0, 1) := by decide +kernel
theorem dX5_digest_354 : decode cX5_digest 354 = .ok (.invokevirtual 274, 3) := by decide +kernel
theorem dX5_digest_357 : decode cX5_digest 357 = .ok (.ladd, 1) := by decide +kernel
theorem dX5_digest_358 : decode cX5_digest 358 = .ok (.lstore_n 1, 1) := by decide +kernel
theorem dX5_digest_359 : decode cX5_digest 359 = .ok (.ldc2_w 300, 3) := by decide +kernel
theorem dX5_digest_362 : decode cX5_digest 362 = .ok (.lload_n 1, 1) := by decide +kernel
theorem dX5_digest_363 : decode cX5_digest 363 = .ok (.lmul, 1) := by decide +kernel
theorem dX5_digest_364 : decode cX5_digest 364 = .ok (.aload_n 0, 1) := by decide +kernel
theorem dX5_digest_365 : decode cX5_digest 365 = .ok (.iconst 5, 1) := by decide +kernel
theorem dX5_digest_366 : decode cX5_digest 366 = .ok (.iconst 4, 1) := by decide +kernel
theorem dX5_digest_367 : decode cX5_digest 367 = .ok (.iconst 1, 1) := by decide +kernel
theorem dX5_digest_368 : decode cX5_digest 368 = .ok (.invokevirtual 274, 3) := by decide +kernel
theorem dX5_digest_371 : decode cX5_digest 371 = .ok (.ladd, 1) := by decide +kernel
theorem dX5_digest_372 : decode cX5_digest 372 = .ok (.lstore_n 1, 1) := by decide +kernel
theorem dX5_digest_373 : decode cX5_digest 373 = .ok (.ldc2_w 300, 3) := by decide +kernel
theorem dX5_digest_376 : decode cX5_digest 376 = .ok (.lload_n 1, 1) := by decide +kernel
theorem dX5_digest_377 : decode cX5_digest 377 = .ok (.lmul, 1) := by decide +kernel
theorem dX5_digest_378 : decode cX5_digest 378 = .ok (.aload_n 0, 1) := by decide +kernel
theorem dX5_digest_379 : decode cX5_digest 379 = .ok (.bipush 7, 2) := by decide +kernel
theorem dX5_digest_381 : decode cX5_digest 381 = .ok (.bipush 30, 2) := by decide +kernel
theorem dX5_digest_383 : decode cX5_digest 383 = .ok (.iconst 0, 1) := by decide +kernel
theorem dX5_digest_384 : decode cX5_digest 384 = .ok (.invokevirtual 283, 3) := by decide +kernel
theorem dX5_digest_387 : decode cX5_digest 387 = .ok (.i2l, 1) := by decide +kernel
theorem dX5_digest_388 : decode cX5_digest 388 = .ok (.ladd, 1) := by decide +kernel
theorem dX5_digest_389 : decode cX5_digest 389 = .ok (.lstore_n 1, 1) := by decide +kernel
theorem dX5_digest_390 : decode cX5_digest 390 = .ok (.ldc2_w 300, 3) := by decide +kernel
theorem dX5_digest_393 : decode cX5_digest 393 = .ok (.lload_n 1, 1) := by decide +kernel
theorem dX5_digest_394 : decode cX5_digest 394 = .ok (.lmul, 1) := by decide +kernel
theorem dX5_digest_395 : decode cX5_digest 395 = .ok (.aload_n 0, 1) := by decide +kernel
theorem dX5_digest_396 : decode cX5_digest 396 = .ok (.bipush 7, 2) := by decide +kernel
theorem dX5_digest_398 : decode cX5_digest 398 = .ok (.bipush 30, 2) := by decide +kernel
theorem dX5_digest_400 : decode cX5_digest 400 = .ok (.iconst 1, 1) := by decide +kernel
theorem dX5_digest_401 : decode cX5_digest 401 = .ok (.invokevirtual 283, 3) := by decide +kernel
theorem dX5_digest_404 : decode cX5_digest 404 = .ok (.i2l, 1) := by decide +kernel
theorem dX5_digest_405 : decode cX5_digest 405 = .ok (.ladd, 1) := by decide +kernel
theorem dX5_digest_406 : decode cX5_digest 406 = .ok (.lreturn, 1) := by decide +kernel
