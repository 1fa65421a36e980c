/-! Decode rows (by program). -/
theorem dL_put_0 : decode cL_put 0 = .ok (.aload 4, 2) := by decide +kernel
theorem dL_put_2 : decode cL_put 2 = .ok (.iconst 0, 1) := by decide +kernel
theorem dL_put_3 : decode cL_put 3 = .ok (.aload_n 0, 1) := by decide +kernel
theorem dL_put_4 : decode cL_put 4 = .ok (.iload_n 1, 1) := by decide +kernel
theorem dL_put_5 : decode cL_put 5 = .ok (.lload_n 2, 1) := by decide +kernel
theorem dL_put_6 : decode cL_put 6 = .ok (.invokevirtual 7, 3) := by decide +kernel
theorem dL_put_9 : decode cL_put 9 = .ok (.lastore, 1) := by decide +kernel
theorem dL_put_10 : decode cL_put 10 = .ok (.goto 7, 3) := by decide +kernel
theorem dL_put_13 : decode cL_put 13 = .ok (.astore 5, 2) := by decide +kernel
theorem dL_put_15 : decode cL_put 15 = .ok (.iconst 1, 1) := by decide +kernel
theorem dL_put_16 : decode cL_put 16 = .ok (.ireturn, 1) := by decide +kernel
theorem dL_put_17 : decode cL_put 17 = .ok (.iconst 0, 1) := by decide +kernel
theorem dL_put_18 : decode cL_put 18 = .ok (.ireturn, 1) := by decide +kernel
theorem dL_bits_0 : decode cL_bits 0 = .ok (.aload_n 2, 1) := by decide +kernel
theorem dL_bits_1 : decode cL_bits 1 = .ok (.iconst 0, 1) := by decide +kernel
theorem dL_bits_2 : decode cL_bits 2 = .ok (.aload_n 0, 1) := by decide +kernel
theorem dL_bits_3 : decode cL_bits 3 = .ok (.iload_n 1, 1) := by decide +kernel
theorem dL_bits_4 : decode cL_bits 4 = .ok (.invokevirtual 15, 3) := by decide +kernel
theorem dL_bits_7 : decode cL_bits 7 = .ok (.lastore, 1) := by decide +kernel
theorem dL_bits_8 : decode cL_bits 8 = .ok (.goto 6, 3) := by decide +kernel
theorem dL_bits_11 : decode cL_bits 11 = .ok (.astore_n 3, 1) := by decide +kernel
theorem dL_bits_12 : decode cL_bits 12 = .ok (.iconst 1, 1) := by decide +kernel
theorem dL_bits_13 : decode cL_bits 13 = .ok (.ireturn, 1) := by decide +kernel
theorem dL_bits_14 : decode cL_bits 14 = .ok (.iconst 0, 1) := by decide +kernel
theorem dL_bits_15 : decode cL_bits 15 = .ok (.ireturn, 1) := by decide +kernel
theorem dL_mode_0 : decode cL_mode 0 = .ok (.aload_n 2, 1) := by decide +kernel
theorem dL_mode_1 : decode cL_mode 1 = .ok (.iconst 0, 1) := by decide +kernel
theorem dL_mode_2 : decode cL_mode 2 = .ok (.aload_n 0, 1) := by decide +kernel
theorem dL_mode_3 : decode cL_mode 3 = .ok (.iload_n 1, 1) := by decide +kernel
theorem dL_mode_4 : decode cL_mode 4 = .ok (.invokevirtual 19, 3) := by decide +kernel
theorem dL_mode_7 : decode cL_mode 7 = .ok (.i2l, 1) := by decide +kernel
theorem dL_mode_8 : decode cL_mode 8 = .ok (.lastore, 1) := by decide +kernel
theorem dL_mode_9 : decode cL_mode 9 = .ok (.goto 6, 3) := by decide +kernel
theorem dL_mode_12 : decode cL_mode 12 = .ok (.astore_n 3, 1) := by decide +kernel
theorem dL_mode_13 : decode cL_mode 13 = .ok (.iconst 1, 1) := by decide +kernel
theorem dL_mode_14 : decode cL_mode 14 = .ok (.ireturn, 1) := by decide +kernel
theorem dL_mode_15 : decode cL_mode 15 = .ok (.iconst 0, 1) := by decide +kernel
theorem dL_mode_16 : decode cL_mode 16 = .ok (.ireturn, 1) := by decide +kernel
theorem dL_work_0 : decode cL_work 0 = .ok (.aload 6, 2) := by decide +kernel
theorem dL_work_2 : decode cL_work 2 = .ok (.iconst 0, 1) := by decide +kernel
theorem dL_work_3 : decode cL_work 3 = .ok (.aload_n 0, 1) := by decide +kernel
theorem dL_work_4 : decode cL_work 4 = .ok (.iload_n 1, 1) := by decide +kernel
theorem dL_work_5 : decode cL_work 5 = .ok (.iload_n 2, 1) := by decide +kernel
theorem dL_work_6 : decode cL_work 6 = .ok (.iload_n 3, 1) := by decide +kernel
theorem dL_work_7 : decode cL_work 7 = .ok (.iload 4, 2) := by decide +kernel
theorem dL_work_9 : decode cL_work 9 = .ok (.iload 5, 2) := by decide +kernel
theorem dL_work_11 : decode cL_work 11 = .ok (.invokevirtual 23, 3) := by decide +kernel
theorem dL_work_14 : decode cL_work 14 = .ok (.lastore, 1) := by decide +kernel
theorem dL_work_15 : decode cL_work 15 = .ok (.goto 7, 3) := by decide +kernel
theorem dL_work_18 : decode cL_work 18 = .ok (.astore 7, 2) := by decide +kernel
theorem dL_work_20 : decode cL_work 20 = .ok (.iconst 1, 1) := by decide +kernel
theorem dL_work_21 : decode cL_work 21 = .ok (.ireturn, 1) := by decide +kernel
theorem dL_work_22 : decode cL_work 22 = .ok (.iconst 0, 1) := by decide +kernel
theorem dL_work_23 : decode cL_work 23 = .ok (.ireturn, 1) := by decide +kernel
theorem dL_compare_0 : decode cL_compare 0 = .ok (.aload 5, 2) := by decide +kernel
theorem dL_compare_2 : decode cL_compare 2 = .ok (.iconst 0, 1) := by decide +kernel
theorem dL_compare_3 : decode cL_compare 3 = .ok (.aload_n 0, 1) := by decide +kernel
theorem dL_compare_4 : decode cL_compare 4 = .ok (.iload_n 1, 1) := by decide +kernel
theorem dL_compare_5 : decode cL_compare 5 = .ok (.iload_n 2, 1) := by decide +kernel
theorem dL_compare_6 : decode cL_compare 6 = .ok (.iload_n 3, 1) := by decide +kernel
theorem dL_compare_7 : decode cL_compare 7 = .ok (.iload 4, 2) := by decide +kernel
theorem dL_compare_9 : decode cL_compare 9 = .ok (.invokevirtual 27, 3) := by decide +kernel
theorem dL_compare_12 : decode cL_compare 12 = .ok (.i2l, 1) := by decide +kernel
theorem dL_compare_13 : decode cL_compare 13 = .ok (.lastore, 1) := by decide +kernel
theorem dL_compare_14 : decode cL_compare 14 = .ok (.goto 7, 3) := by decide +kernel
theorem dL_compare_17 : decode cL_compare 17 = .ok (.astore 6, 2) := by decide +kernel
theorem dL_compare_19 : decode cL_compare 19 = .ok (.iconst 1, 1) := by decide +kernel
theorem dL_compare_20 : decode cL_compare 20 = .ok (.ireturn, 1) := by decide +kernel
theorem dL_compare_21 : decode cL_compare 21 = .ok (.iconst 0, 1) := by decide +kernel
theorem dL_compare_22 : decode cL_compare 22 = .ok (.ireturn, 1) := by decide +kernel
theorem dL_of_0 : decode cL_of 0 = .ok (.aload 5, 2) := by decide +kernel
theorem dL_of_2 : decode cL_of 2 = .ok (.iconst 0, 1) := by decide +kernel
theorem dL_of_3 : decode cL_of 3 = .ok (.aload_n 0, 1) := by decide +kernel
theorem dL_of_4 : decode cL_of 4 = .ok (.iload_n 1, 1) := by decide +kernel
theorem dL_of_5 : decode cL_of 5 = .ok (.iload_n 2, 1) := by decide +kernel
theorem dL_of_6 : decode cL_of 6 = .ok (.lload_n 3, 1) := by decide +kernel
theorem dL_of_7 : decode cL_of 7 = .ok (.invokevirtual 31, 3) := by decide +kernel
theorem dL_of_10 : decode cL_of 10 = .ok (.lastore, 1) := by decide +kernel
theorem dL_of_11 : decode cL_of 11 = .ok (.goto 7, 3) := by decide +kernel
theorem dL_of_14 : decode cL_of 14 = .ok (.astore 6, 2) := by decide +kernel
theorem dL_of_16 : decode cL_of 16 = .ok (.iconst 1, 1) := by decide +kernel
theorem dL_of_17 : decode cL_of 17 = .ok (.ireturn, 1) := by decide +kernel
theorem dL_of_18 : decode cL_of 18 = .ok (.iconst 0, 1) := by decide +kernel
theorem dL_of_19 : decode cL_of 19 = .ok (.ireturn, 1) := by decide +kernel
theorem dL_whole_0 : decode cL_whole 0 = .ok (.aload 4, 2) := by decide +kernel
theorem dL_whole_2 : decode cL_whole 2 = .ok (.iconst 0, 1) := by decide +kernel
theorem dL_whole_3 : decode cL_whole 3 = .ok (.aload_n 0, 1) := by decide +kernel
theorem dL_whole_4 : decode cL_whole 4 = .ok (.iload_n 1, 1) := by decide +kernel
theorem dL_whole_5 : decode cL_whole 5 = .ok (.iload_n 2, 1) := by decide +kernel
theorem dL_whole_6 : decode cL_whole 6 = .ok (.iload_n 3, 1) := by decide +kernel
theorem dL_whole_7 : decode cL_whole 7 = .ok (.invokevirtual 35, 3) := by decide +kernel
theorem dL_whole_10 : decode cL_whole 10 = .ok (.lastore, 1) := by decide +kernel
theorem dL_whole_11 : decode cL_whole 11 = .ok (.goto 7, 3) := by decide +kernel
theorem dL_whole_14 : decode cL_whole 14 = .ok (.astore 5, 2) := by decide +kernel
theorem dL_whole_16 : decode cL_whole 16 = .ok (.iconst 1, 1) := by decide +kernel
theorem dL_whole_17 : decode cL_whole 17 = .ok (.ireturn, 1) := by decide +kernel
theorem dL_whole_18 : decode cL_whole 18 = .ok (.iconst 0, 1) := by decide +kernel
theorem dL_whole_19 : decode cL_whole 19 = .ok (.ireturn, 1) := by decide +kernel
theorem dL_turn_0 : decode cL_turn 0 = .ok (.aload 4, 2) := by decide +kernel
theorem dL_turn_2 : decode cL_turn 2 = .ok (.iconst 0, 1) := by decide +kernel
theorem dL_turn_3 : decode cL_turn 3 = .ok (.aload_n 0, 1) := by decide +kernel
theorem dL_turn_4 : decode cL_turn 4 = .ok (.iload_n 1, 1) := by decide +kernel
theorem dL_turn_5 : decode cL_turn 5 = .ok (.iload_n 2, 1) := by decide +kernel
theorem dL_turn_6 : decode cL_turn 6 = .ok (.iload_n 3, 1) := by decide +kernel
theorem dL_turn_7 : decode cL_turn 7 = .ok (.invokevirtual 39, 3) := by decide +kernel
theorem dL_turn_10 : decode cL_turn 10 = .ok (.lastore, 1) := by decide +kernel
theorem dL_turn_11 : decode cL_turn 11 = .ok (.goto 7, 3) := by decide +kernel
theorem dL_turn_14 : decode cL_turn 14 = .ok (.astore 5, 2) := by decide +kernel
theorem dL_turn_16 : decode cL_turn 16 = .ok (.iconst 1, 1) := by decide +kernel
theorem dL_turn_17 : decode cL_turn 17 = .ok (.ireturn, 1) := by decide +kernel
theorem dL_turn_18 : decode cL_turn 18 = .ok (.iconst 0, 1) := by decide +kernel
theorem dL_turn_19 : decode cL_turn 19 = .ok (.ireturn, 1) := by decide +kernel
theorem dL_kind_0 : decode cL_kind 0 = .ok (.aload_n 3, 1) := by decide +kernel
theorem dL_kind_1 : decode cL_kind 1 = .ok (.iconst 0, 1) := by decide +kernel
theorem dL_kind_2 : decode cL_kind 2 = .ok (.aload_n 0, 1) := by decide +kernel
theorem dL_kind_3 : decode cL_kind 3 = .ok (.iload_n 1, 1) := by decide +kernel
theorem dL_kind_4 : decode cL_kind 4 = .ok (.iload_n 2, 1) := by decide +kernel
theorem dL_kind_5 : decode cL_kind 5 = .ok (.invokevirtual 43, 3) := by decide +kernel
theorem dL_kind_8 : decode cL_kind 8 = .ok (.i2l, 1) := by decide +kernel
theorem dL_kind_9 : decode cL_kind 9 = .ok (.lastore, 1) := by decide +kernel
theorem dL_kind_10 : decode cL_kind 10 = .ok (.goto 7, 3) := by decide +kernel
theorem dL_kind_13 : decode cL_kind 13 = .ok (.astore 4, 2) := by decide +kernel
theorem dL_kind_15 : decode cL_kind 15 = .ok (.iconst 1, 1) := by decide +kernel
theorem dL_kind_16 : decode cL_kind 16 = .ok (.ireturn, 1) := by decide +kernel
theorem dL_kind_17 : decode cL_kind 17 = .ok (.iconst 0, 1) := by decide +kernel
theorem dL_kind_18 : decode cL_kind 18 = .ok (.ireturn, 1) := by decide +kernel
theorem dL_negate_0 : decode cL_negate 0 = .ok (.aload 4, 2) := by decide +kernel
theorem dL_negate_2 : decode cL_negate 2 = .ok (.iconst 0, 1) := by decide +kernel
theorem dL_negate_3 : decode cL_negate 3 = .ok (.aload_n 0, 1) := by decide +kernel
theorem dL_negate_4 : decode cL_negate 4 = .ok (.iload_n 1, 1) := by decide +kernel
theorem dL_negate_5 : decode cL_negate 5 = .ok (.iload_n 2, 1) := by decide +kernel
theorem dL_negate_6 : decode cL_negate 6 = .ok (.iload_n 3, 1) := by decide +kernel
theorem dL_negate_7 : decode cL_negate 7 = .ok (.invokevirtual 47, 3) := by decide +kernel
theorem dL_negate_10 : decode cL_negate 10 = .ok (.lastore, 1) := by decide +kernel
theorem dL_negate_11 : decode cL_negate 11 = .ok (.goto 7, 3) := by decide +kernel
theorem dL_negate_14 : decode cL_negate 14 = .ok (.astore 5, 2) := by decide +kernel
theorem dL_negate_16 : decode cL_negate 16 = .ok (.iconst 1, 1) := by decide +kernel
theorem dL_negate_17 : decode cL_negate 17 = .ok (.ireturn, 1) := by decide +kernel
theorem dL_negate_18 : decode cL_negate 18 = .ok (.iconst 0, 1) := by decide +kernel
theorem dL_negate_19 : decode cL_negate 19 = .ok (.ireturn, 1) := by decide +kernel
theorem dL_law_0 : decode code 0 = .ok (.new 8, 3) := by decide +kernel
theorem dL_law_3 : decode code 3 = .ok (.dup, 1) := by decide +kernel
theorem dL_law_4 : decode code 4 = .ok (.invokespecial 50, 3) := by decide +kernel
theorem dL_law_7 : decode code 7 = .ok (.astore_n 1, 1) := by decide +kernel
theorem dL_law_8 : decode code 8 = .ok (.new 51, 3) := by decide +kernel
theorem dL_law_11 : decode code 11 = .ok (.dup, 1) := by decide +kernel
theorem dL_law_12 : decode code 12 = .ok (.invokespecial 53, 3) := by decide +kernel
theorem dL_law_15 : decode code 15 = .ok (.astore_n 2, 1) := by decide +kernel
theorem dL_law_16 : decode code 16 = .ok (.iconst 1, 1) := by decide +kernel
theorem dL_law_17 : decode code 17 = .ok (.newarray .long, 2) := by decide +kernel
theorem dL_law_19 : decode code 19 = .ok (.astore_n 3, 1) := by decide +kernel
theorem dL_law_20 : decode code 20 = .ok (.iconst 0, 1) := by decide +kernel
theorem dL_law_21 : decode code 21 = .ok (.istore 4, 2) := by decide +kernel
theorem dL_law_23 : decode code 23 = .ok (.iload 4, 2) := by decide +kernel
theorem dL_law_25 : decode code 25 = .ok (.aload_n 0, 1) := by decide +kernel
theorem dL_law_26 : decode code 26 = .ok (.arraylength, 1) := by decide +kernel
theorem dL_law_27 : decode code 27 = .ok (.bipush 6, 2) := by decide +kernel
theorem dL_law_29 : decode code 29 = .ok (.isub, 1) := by decide +kernel
theorem dL_law_30 : decode code 30 = .ok (.if_icmp .gt 1050, 3) := by decide +kernel
theorem dL_law_33 : decode code 33 = .ok (.aload_n 0, 1) := by decide +kernel
theorem dL_law_34 : decode code 34 = .ok (.iload 4, 2) := by decide +kernel
theorem dL_law_36 : decode code 36 = .ok (.iaload, 1) := by decide +kernel
theorem dL_law_37 : decode code 37 = .ok (.bipush 15, 2) := by decide +kernel
theorem dL_law_39 : decode code 39 = .ok (.iand, 1) := by decide +kernel
theorem dL_law_40 : decode code 40 = .ok (.tableswitch 1034 0 10 #[60, 159, 214, 270, 295, 414, 522, 649, 760, 855, 939], 60) := by decide +kernel
theorem dL_law_100 : decode code 100 = .ok (.aload_n 1, 1) := by decide +kernel
theorem dL_law_101 : decode code 101 = .ok (.aload_n 0, 1) := by decide +kernel
theorem dL_law_102 : decode code 102 = .ok (.iload 4, 2) := by decide +kernel
theorem dL_law_104 : decode code 104 = .ok (.iconst 1, 1) := by decide +kernel
theorem dL_law_105 : decode code 105 = .ok (.iadd, 1) := by decide +kernel
theorem dL_law_106 : decode code 106 = .ok (.iaload, 1) := by decide +kernel
theorem dL_law_107 : decode code 107 = .ok (.aload_n 0, 1) := by decide +kernel
theorem dL_law_108 : decode code 108 = .ok (.iload 4, 2) := by decide +kernel
theorem dL_law_110 : decode code 110 = .ok (.iconst 2, 1) := by decide +kernel
theorem dL_law_111 : decode code 111 = .ok (.iadd, 1) := by decide +kernel
theorem dL_law_112 : decode code 112 = .ok (.iaload, 1) := by decide +kernel
theorem dL_law_113 : decode code 113 = .ok (.i2l, 1) := by decide +kernel
theorem dL_law_114 : decode code 114 = .ok (.bipush 32, 2) := by decide +kernel
theorem dL_law_116 : decode code 116 = .ok (.lshl, 1) := by decide +kernel
theorem dL_law_117 : decode code 117 = .ok (.aload_n 0, 1) := by decide +kernel
theorem dL_law_118 : decode code 118 = .ok (.iload 4, 2) := by decide +kernel
theorem dL_law_120 : decode code 120 = .ok (.iconst 3, 1) := by decide +kernel
theorem dL_law_121 : decode code 121 = .ok (.iadd, 1) := by decide +kernel
theorem dL_law_122 : decode code 122 = .ok (.iaload, 1) := by decide +kernel
theorem dL_law_123 : decode code 123 = .ok (.i2l, 1) := by decide +kernel
theorem dL_law_124 : decode code 124 = .ok (.ldc2_w 54, 3) := by decide +kernel
theorem dL_law_127 : decode code 127 = .ok (.land, 1) := by decide +kernel
theorem dL_law_128 : decode code 128 = .ok (.lor, 1) := by decide +kernel
theorem dL_law_129 : decode code 129 = .ok (.aload_n 3, 1) := by decide +kernel
theorem dL_law_130 : decode code 130 = .ok (.invokestatic 56, 3) := by decide +kernel
theorem dL_law_133 : decode code 133 = .ok (.istore 5, 2) := by decide +kernel
theorem dL_law_135 : decode code 135 = .ok (.aload_n 2, 1) := by decide +kernel
theorem dL_law_136 : decode code 136 = .ok (.aload_n 0, 1) := by decide +kernel
theorem dL_law_137 : decode code 137 = .ok (.iload 4, 2) := by decide +kernel
theorem dL_law_139 : decode code 139 = .ok (.iconst 1, 1) := by decide +kernel
theorem dL_law_140 : decode code 140 = .ok (.iadd, 1) := by decide +kernel
theorem dL_law_141 : decode code 141 = .ok (.iaload, 1) := by decide +kernel
theorem dL_law_142 : decode code 142 = .ok (.aload_n 0, 1) := by decide +kernel
theorem dL_law_143 : decode code 143 = .ok (.iload 4, 2) := by decide +kernel
theorem dL_law_145 : decode code 145 = .ok (.iconst 2, 1) := by decide +kernel
theorem dL_law_146 : decode code 146 = .ok (.iadd, 1) := by decide +kernel
theorem dL_law_147 : decode code 147 = .ok (.iaload, 1) := by decide +kernel
theorem dL_law_148 : decode code 148 = .ok (.i2l, 1) := by decide +kernel
theorem dL_law_149 : decode code 149 = .ok (.bipush 32, 2) := by decide +kernel
theorem dL_law_151 : decode code 151 = .ok (.lshl, 1) := by decide +kernel
theorem dL_law_152 : decode code 152 = .ok (.aload_n 0, 1) := by decide +kernel
theorem dL_law_153 : decode code 153 = .ok (.iload 4, 2) := by decide +kernel
theorem dL_law_155 : decode code 155 = .ok (.iconst 3, 1) := by decide +kernel
theorem dL_law_156 : decode code 156 = .ok (.iadd, 1) := by decide +kernel
theorem dL_law_157 : decode code 157 = .ok (.iaload, 1) := by decide +kernel
theorem dL_law_158 : decode code 158 = .ok (.i2l, 1) := by decide +kernel
theorem dL_law_159 : decode code 159 = .ok (.ldc2_w 54, 3) := by decide +kernel
theorem dL_law_162 : decode code 162 = .ok (.land, 1) := by decide +kernel
theorem dL_law_163 : decode code 163 = .ok (.lor, 1) := by decide +kernel
theorem dL_law_164 : decode code 164 = .ok (.invokevirtual 61, 3) := by decide +kernel
theorem dL_law_167 : decode code 167 = .ok (.lstore 6, 2) := by decide +kernel
theorem dL_law_169 : decode code 169 = .ok (.aload_n 2, 1) := by decide +kernel
theorem dL_law_170 : decode code 170 = .ok (.invokevirtual 62, 3) := by decide +kernel
theorem dL_law_173 : decode code 173 = .ok (.iload 5, 2) := by decide +kernel
theorem dL_law_175 : decode code 175 = .ok (.if_icmp .eq 5, 3) := by decide +kernel
theorem dL_law_178 : decode code 178 = .ok (.iconst 0, 1) := by decide +kernel
theorem dL_law_179 : decode code 179 = .ok (.ireturn, 1) := by decide +kernel
theorem dL_law_180 : decode code 180 = .ok (.iload 5, 2) := by decide +kernel
theorem dL_law_182 : decode code 182 = .ok (.ifCond .ne 14, 3) := by decide +kernel
theorem dL_law_185 : decode code 185 = .ok (.aload_n 3, 1) := by decide +kernel
theorem dL_law_186 : decode code 186 = .ok (.iconst 0, 1) := by decide +kernel
theorem dL_law_187 : decode code 187 = .ok (.laload, 1) := by decide +kernel
theorem dL_law_188 : decode code 188 = .ok (.lload 6, 2) := by decide +kernel
theorem dL_law_190 : decode code 190 = .ok (.lcmp, 1) := by decide +kernel
theorem dL_law_191 : decode code 191 = .ok (.ifCond .eq 5, 3) := by decide +kernel
theorem dL_law_194 : decode code 194 = .ok (.iconst 0, 1) := by decide +kernel
theorem dL_law_195 : decode code 195 = .ok (.ireturn, 1) := by decide +kernel
theorem dL_law_196 : decode code 196 = .ok (.goto 878, 3) := by decide +kernel
theorem dL_law_199 : decode code 199 = .ok (.aload_n 1, 1) := by decide +kernel
theorem dL_law_200 : decode code 200 = .ok (.aload_n 0, 1) := by decide +kernel
theorem dL_law_201 : decode code 201 = .ok (.iload 4, 2) := by decide +kernel
theorem dL_law_203 : decode code 203 = .ok (.iconst 1, 1) := by decide +kernel
theorem dL_law_204 : decode code 204 = .ok (.iadd, 1) := by decide +kernel
theorem dL_law_205 : decode code 205 = .ok (.iaload, 1) := by decide +kernel
theorem dL_law_206 : decode code 206 = .ok (.aload_n 3, 1) := by decide +kernel
theorem dL_law_207 : decode code 207 = .ok (.invokestatic 66, 3) := by decide +kernel
theorem dL_law_210 : decode code 210 = .ok (.istore 5, 2) := by decide +kernel
theorem dL_law_212 : decode code 212 = .ok (.aload_n 2, 1) := by decide +kernel
theorem dL_law_213 : decode code 213 = .ok (.aload_n 0, 1) := by decide +kernel
theorem dL_law_214 : decode code 214 = .ok (.iload 4, 2) := by decide +kernel
theorem dL_law_216 : decode code 216 = .ok (.iconst 1, 1) := by decide +kernel
theorem dL_law_217 : decode code 217 = .ok (.iadd, 1) := by decide +kernel
theorem dL_law_218 : decode code 218 = .ok (.iaload, 1) := by decide +kernel
theorem dL_law_219 : decode code 219 = .ok (.invokevirtual 69, 3) := by decide +kernel
theorem dL_law_222 : decode code 222 = .ok (.lstore 6, 2) := by decide +kernel
theorem dL_law_224 : decode code 224 = .ok (.aload_n 2, 1) := by decide +kernel
theorem dL_law_225 : decode code 225 = .ok (.invokevirtual 62, 3) := by decide +kernel
theorem dL_law_228 : decode code 228 = .ok (.iload 5, 2) := by decide +kernel
theorem dL_law_230 : decode code 230 = .ok (.if_icmp .eq 5, 3) := by decide +kernel
theorem dL_law_233 : decode code 233 = .ok (.iconst 0, 1) := by decide +kernel
theorem dL_law_234 : decode code 234 = .ok (.ireturn, 1) := by decide +kernel
theorem dL_law_235 : decode code 235 = .ok (.iload 5, 2) := by decide +kernel
theorem dL_law_237 : decode code 237 = .ok (.ifCond .ne 14, 3) := by decide +kernel
theorem dL_law_240 : decode code 240 = .ok (.aload_n 3, 1) := by decide +kernel
theorem dL_law_241 : decode code 241 = .ok (.iconst 0, 1) := by decide +kernel
theorem dL_law_242 : decode code 242 = .ok (.laload, 1) := by decide +kernel
theorem dL_law_243 : decode code 243 = .ok (.lload 6, 2) := by decide +kernel
theorem dL_law_245 : decode code 245 = .ok (.lcmp, 1) := by decide +kernel
theorem dL_law_246 : decode code 246 = .ok (.ifCond .eq 5, 3) := by decide +kernel
theorem dL_law_249 : decode code 249 = .ok (.iconst 0, 1) := by decide +kernel
theorem dL_law_250 : decode code 250 = .ok (.ireturn, 1) := by decide +kernel
theorem dL_law_251 : decode code 251 = .ok (.goto 823, 3) := by decide +kernel
theorem dL_law_254 : decode code 254 = .ok (.aload_n 1, 1) := by decide +kernel
theorem dL_law_255 : decode code 255 = .ok (.aload_n 0, 1) := by decide +kernel
theorem dL_law_256 : decode code 256 = .ok (.iload 4, 2) := by decide +kernel
theorem dL_law_258 : decode code 258 = .ok (.iconst 1, 1) := by decide +kernel
theorem dL_law_259 : decode code 259 = .ok (.iadd, 1) := by decide +kernel
theorem dL_law_260 : decode code 260 = .ok (.iaload, 1) := by decide +kernel
theorem dL_law_261 : decode code 261 = .ok (.aload_n 3, 1) := by decide +kernel
theorem dL_law_262 : decode code 262 = .ok (.invokestatic 70, 3) := by decide +kernel
theorem dL_law_265 : decode code 265 = .ok (.istore 5, 2) := by decide +kernel
theorem dL_law_267 : decode code 267 = .ok (.aload_n 2, 1) := by decide +kernel
theorem dL_law_268 : decode code 268 = .ok (.aload_n 0, 1) := by decide +kernel
theorem dL_law_269 : decode code 269 = .ok (.iload 4, 2) := by decide +kernel
theorem dL_law_271 : decode code 271 = .ok (.iconst 1, 1) := by decide +kernel
theorem dL_law_272 : decode code 272 = .ok (.iadd, 1) := by decide +kernel
theorem dL_law_273 : decode code 273 = .ok (.iaload, 1) := by decide +kernel
theorem dL_law_274 : decode code 274 = .ok (.invokevirtual 72, 3) := by decide +kernel
theorem dL_law_277 : decode code 277 = .ok (.istore 6, 2) := by decide +kernel
theorem dL_law_279 : decode code 279 = .ok (.aload_n 2, 1) := by decide +kernel
theorem dL_law_280 : decode code 280 = .ok (.invokevirtual 62, 3) := by decide +kernel
theorem dL_law_283 : decode code 283 = .ok (.iload 5, 2) := by decide +kernel
theorem dL_law_285 : decode code 285 = .ok (.if_icmp .eq 5, 3) := by decide +kernel
theorem dL_law_288 : decode code 288 = .ok (.iconst 0, 1) := by decide +kernel
theorem dL_law_289 : decode code 289 = .ok (.ireturn, 1) := by decide +kernel
theorem dL_law_290 : decode code 290 = .ok (.iload 5, 2) := by decide +kernel
theorem dL_law_292 : decode code 292 = .ok (.ifCond .ne 15, 3) := by decide +kernel
theorem dL_law_295 : decode code 295 = .ok (.aload_n 3, 1) := by decide +kernel
theorem dL_law_296 : decode code 296 = .ok (.iconst 0, 1) := by decide +kernel
theorem dL_law_297 : decode code 297 = .ok (.laload, 1) := by decide +kernel
theorem dL_law_298 : decode code 298 = .ok (.iload 6, 2) := by decide +kernel
theorem dL_law_300 : decode code 300 = .ok (.i2l, 1) := by decide +kernel
theorem dL_law_301 : decode code 301 = .ok (.lcmp, 1) := by decide +kernel
theorem dL_law_302 : decode code 302 = .ok (.ifCond .eq 5, 3) := by decide +kernel
theorem dL_law_305 : decode code 305 = .ok (.iconst 0, 1) := by decide +kernel
theorem dL_law_306 : decode code 306 = .ok (.ireturn, 1) := by decide +kernel
theorem dL_law_307 : decode code 307 = .ok (.goto 767, 3) := by decide +kernel
theorem dL_law_310 : decode code 310 = .ok (.aload_n 1, 1) := by decide +kernel
theorem dL_law_311 : decode code 311 = .ok (.aload_n 0, 1) := by decide +kernel
theorem dL_law_312 : decode code 312 = .ok (.iload 4, 2) := by decide +kernel
theorem dL_law_314 : decode code 314 = .ok (.iconst 1, 1) := by decide +kernel
theorem dL_law_315 : decode code 315 = .ok (.iadd, 1) := by decide +kernel
theorem dL_law_316 : decode code 316 = .ok (.iaload, 1) := by decide +kernel
theorem dL_law_317 : decode code 317 = .ok (.invokevirtual 73, 3) := by decide +kernel
theorem dL_law_320 : decode code 320 = .ok (.aload_n 2, 1) := by decide +kernel
theorem dL_law_321 : decode code 321 = .ok (.aload_n 0, 1) := by decide +kernel
theorem dL_law_322 : decode code 322 = .ok (.iload 4, 2) := by decide +kernel
theorem dL_law_324 : decode code 324 = .ok (.iconst 1, 1) := by decide +kernel
theorem dL_law_325 : decode code 325 = .ok (.iadd, 1) := by decide +kernel
theorem dL_law_326 : decode code 326 = .ok (.iaload, 1) := by decide +kernel
theorem dL_law_327 : decode code 327 = .ok (.invokevirtual 76, 3) := by decide +kernel
theorem dL_law_330 : decode code 330 = .ok (.if_icmp .eq 744, 3) := by decide +kernel
theorem dL_law_333 : decode code 333 = .ok (.iconst 0, 1) := by decide +kernel
theorem dL_law_334 : decode code 334 = .ok (.ireturn, 1) := by decide +kernel
theorem dL_law_335 : decode code 335 = .ok (.aload_n 1, 1) := by decide +kernel
theorem dL_law_336 : decode code 336 = .ok (.aload_n 0, 1) := by decide +kernel
theorem dL_law_337 : decode code 337 = .ok (.iload 4, 2) := by decide +kernel
theorem dL_law_339 : decode code 339 = .ok (.iconst 1, 1) := by decide +kernel
theorem dL_law_340 : decode code 340 = .ok (.iadd, 1) := by decide +kernel
theorem dL_law_341 : decode code 341 = .ok (.iaload, 1) := by decide +kernel
theorem dL_law_342 : decode code 342 = .ok (.aload_n 0, 1) := by decide +kernel
theorem dL_law_343 : decode code 343 = .ok (.iload 4, 2) := by decide +kernel
theorem dL_law_345 : decode code 345 = .ok (.iconst 2, 1) := by decide +kernel
theorem dL_law_346 : decode code 346 = .ok (.iadd, 1) := by decide +kernel
theorem dL_law_347 : decode code 347 = .ok (.iaload, 1) := by decide +kernel
theorem dL_law_348 : decode code 348 = .ok (.ifCond .eq 7, 3) := by decide +kernel
theorem dL_law_351 : decode code 351 = .ok (.iconst 1, 1) := by decide +kernel
theorem dL_law_352 : decode code 352 = .ok (.goto 4, 3) := by decide +kernel
theorem dL_law_355 : decode code 355 = .ok (.iconst 0, 1) := by decide +kernel
theorem dL_law_356 : decode code 356 = .ok (.aload_n 0, 1) := by decide +kernel
theorem dL_law_357 : decode code 357 = .ok (.iload 4, 2) := by decide +kernel
theorem dL_law_359 : decode code 359 = .ok (.iconst 3, 1) := by decide +kernel
theorem dL_law_360 : decode code 360 = .ok (.iadd, 1) := by decide +kernel
theorem dL_law_361 : decode code 361 = .ok (.iaload, 1) := by decide +kernel
theorem dL_law_362 : decode code 362 = .ok (.aload_n 0, 1) := by decide +kernel
theorem dL_law_363 : decode code 363 = .ok (.iload 4, 2) := by decide +kernel
theorem dL_law_365 : decode code 365 = .ok (.iconst 4, 1) := by decide +kernel
theorem dL_law_366 : decode code 366 = .ok (.iadd, 1) := by decide +kernel
theorem dL_law_367 : decode code 367 = .ok (.iaload, 1) := by decide +kernel
theorem dL_law_368 : decode code 368 = .ok (.aload_n 0, 1) := by decide +kernel
theorem dL_law_369 : decode code 369 = .ok (.iload 4, 2) := by decide +kernel
theorem dL_law_371 : decode code 371 = .ok (.iconst 5, 1) := by decide +kernel
theorem dL_law_372 : decode code 372 = .ok (.iadd, 1) := by decide +kernel
theorem dL_law_373 : decode code 373 = .ok (.iaload, 1) := by decide +kernel
theorem dL_law_374 : decode code 374 = .ok (.aload_n 3, 1) := by decide +kernel
theorem dL_law_375 : decode code 375 = .ok (.invokestatic 77, 3) := by decide +kernel
theorem dL_law_378 : decode code 378 = .ok (.istore 5, 2) := by decide +kernel
theorem dL_law_380 : decode code 380 = .ok (.aload_n 2, 1) := by decide +kernel
theorem dL_law_381 : decode code 381 = .ok (.aload_n 0, 1) := by decide +kernel
theorem dL_law_382 : decode code 382 = .ok (.iload 4, 2) := by decide +kernel
theorem dL_law_384 : decode code 384 = .ok (.iconst 1, 1) := by decide +kernel
theorem dL_law_385 : decode code 385 = .ok (.iadd, 1) := by decide +kernel
theorem dL_law_386 : decode code 386 = .ok (.iaload, 1) := by decide +kernel
theorem dL_law_387 : decode code 387 = .ok (.aload_n 0, 1) := by decide +kernel
theorem dL_law_388 : decode code 388 = .ok (.iload 4, 2) := by decide +kernel
theorem dL_law_390 : decode code 390 = .ok (.iconst 2, 1) := by decide +kernel
theorem dL_law_391 : decode code 391 = .ok (.iadd, 1) := by decide +kernel
theorem dL_law_392 : decode code 392 = .ok (.iaload, 1) := by decide +kernel
theorem dL_law_393 : decode code 393 = .ok (.ifCond .eq 7, 3) := by decide +kernel
theorem dL_law_396 : decode code 396 = .ok (.iconst 1, 1) := by decide +kernel
theorem dL_law_397 : decode code 397 = .ok (.goto 4, 3) := by decide +kernel
theorem dL_law_400 : decode code 400 = .ok (.iconst 0, 1) := by decide +kernel
theorem dL_law_401 : decode code 401 = .ok (.aload_n 0, 1) := by decide +kernel
theorem dL_law_402 : decode code 402 = .ok (.iload 4, 2) := by decide +kernel
theorem dL_law_404 : decode code 404 = .ok (.iconst 3, 1) := by decide +kernel
theorem dL_law_405 : decode code 405 = .ok (.iadd, 1) := by decide +kernel
theorem dL_law_406 : decode code 406 = .ok (.iaload, 1) := by decide +kernel
theorem dL_law_407 : decode code 407 = .ok (.aload_n 0, 1) := by decide +kernel
theorem dL_law_408 : decode code 408 = .ok (.iload 4, 2) := by decide +kernel
theorem dL_law_410 : decode code 410 = .ok (.iconst 4, 1) := by decide +kernel
theorem dL_law_411 : decode code 411 = .ok (.iadd, 1) := by decide +kernel
theorem dL_law_412 : decode code 412 = .ok (.iaload, 1) := by decide +kernel
theorem dL_law_413 : decode code 413 = .ok (.aload_n 0, 1) := by decide +kernel
theorem dL_law_414 : decode code 414 = .ok (.iload 4, 2) := by decide +kernel
theorem dL_law_416 : decode code 416 = .ok (.iconst 5, 1) := by decide +kernel
theorem dL_law_417 : decode code 417 = .ok (.iadd, 1) := by decide +kernel
theorem dL_law_418 : decode code 418 = .ok (.iaload, 1) := by decide +kernel
theorem dL_law_419 : decode code 419 = .ok (.invokevirtual 80, 3) := by decide +kernel
theorem dL_law_422 : decode code 422 = .ok (.lstore 6, 2) := by decide +kernel
theorem dL_law_424 : decode code 424 = .ok (.aload_n 2, 1) := by decide +kernel
theorem dL_law_425 : decode code 425 = .ok (.invokevirtual 62, 3) := by decide +kernel
theorem dL_law_428 : decode code 428 = .ok (.iload 5, 2) := by decide +kernel
theorem dL_law_430 : decode code 430 = .ok (.if_icmp .eq 5, 3) := by decide +kernel
theorem dL_law_433 : decode code 433 = .ok (.iconst 0, 1) := by decide +kernel
theorem dL_law_434 : decode code 434 = .ok (.ireturn, 1) := by decide +kernel
theorem dL_law_435 : decode code 435 = .ok (.iload 5, 2) := by decide +kernel
theorem dL_law_437 : decode code 437 = .ok (.ifCond .ne 14, 3) := by decide +kernel
theorem dL_law_440 : decode code 440 = .ok (.aload_n 3, 1) := by decide +kernel
theorem dL_law_441 : decode code 441 = .ok (.iconst 0, 1) := by decide +kernel
theorem dL_law_442 : decode code 442 = .ok (.laload, 1) := by decide +kernel
theorem dL_law_443 : decode code 443 = .ok (.lload 6, 2) := by decide +kernel
theorem dL_law_445 : decode code 445 = .ok (.lcmp, 1) := by decide +kernel
theorem dL_law_446 : decode code 446 = .ok (.ifCond .eq 5, 3) := by decide +kernel
theorem dL_law_449 : decode code 449 = .ok (.iconst 0, 1) := by decide +kernel
theorem dL_law_450 : decode code 450 = .ok (.ireturn, 1) := by decide +kernel
theorem dL_law_451 : decode code 451 = .ok (.goto 623, 3) := by decide +kernel
theorem dL_law_454 : decode code 454 = .ok (.aload_n 1, 1) := by decide +kernel
theorem dL_law_455 : decode code 455 = .ok (.aload_n 0, 1) := by decide +kernel
theorem dL_law_456 : decode code 456 = .ok (.iload 4, 2) := by decide +kernel
theorem dL_law_458 : decode code 458 = .ok (.iconst 1, 1) := by decide +kernel
theorem dL_law_459 : decode code 459 = .ok (.iadd, 1) := by decide +kernel
theorem dL_law_460 : decode code 460 = .ok (.iaload, 1) := by decide +kernel
theorem dL_law_461 : decode code 461 = .ok (.ifCond .eq 7, 3) := by decide +kernel
theorem dL_law_464 : decode code 464 = .ok (.iconst 1, 1) := by decide +kernel
theorem dL_law_465 : decode code 465 = .ok (.goto 4, 3) := by decide +kernel
theorem dL_law_468 : decode code 468 = .ok (.iconst 0, 1) := by decide +kernel
theorem dL_law_469 : decode code 469 = .ok (.aload_n 0, 1) := by decide +kernel
theorem dL_law_470 : decode code 470 = .ok (.iload 4, 2) := by decide +kernel
theorem dL_law_472 : decode code 472 = .ok (.iconst 2, 1) := by decide +kernel
theorem dL_law_473 : decode code 473 = .ok (.iadd, 1) := by decide +kernel
theorem dL_law_474 : decode code 474 = .ok (.iaload, 1) := by decide +kernel
theorem dL_law_475 : decode code 475 = .ok (.aload_n 0, 1) := by decide +kernel
theorem dL_law_476 : decode code 476 = .ok (.iload 4, 2) := by decide +kernel
theorem dL_law_478 : decode code 478 = .ok (.iconst 3, 1) := by decide +kernel
theorem dL_law_479 : decode code 479 = .ok (.iadd, 1) := by decide +kernel
theorem dL_law_480 : decode code 480 = .ok (.iaload, 1) := by decide +kernel
theorem dL_law_481 : decode code 481 = .ok (.aload_n 0, 1) := by decide +kernel
theorem dL_law_482 : decode code 482 = .ok (.iload 4, 2) := by decide +kernel
theorem dL_law_484 : decode code 484 = .ok (.iconst 4, 1) := by decide +kernel
theorem dL_law_485 : decode code 485 = .ok (.iadd, 1) := by decide +kernel
theorem dL_law_486 : decode code 486 = .ok (.iaload, 1) := by decide +kernel
theorem dL_law_487 : decode code 487 = .ok (.aload_n 3, 1) := by decide +kernel
theorem dL_law_488 : decode code 488 = .ok (.invokestatic 81, 3) := by decide +kernel
theorem dL_law_491 : decode code 491 = .ok (.istore 5, 2) := by decide +kernel
theorem dL_law_493 : decode code 493 = .ok (.aload_n 2, 1) := by decide +kernel
theorem dL_law_494 : decode code 494 = .ok (.aload_n 0, 1) := by decide +kernel
theorem dL_law_495 : decode code 495 = .ok (.iload 4, 2) := by decide +kernel
theorem dL_law_497 : decode code 497 = .ok (.iconst 1, 1) := by decide +kernel
theorem dL_law_498 : decode code 498 = .ok (.iadd, 1) := by decide +kernel
theorem dL_law_499 : decode code 499 = .ok (.iaload, 1) := by decide +kernel
theorem dL_law_500 : decode code 500 = .ok (.ifCond .eq 7, 3) := by decide +kernel
theorem dL_law_503 : decode code 503 = .ok (.iconst 1, 1) := by decide +kernel
theorem dL_law_504 : decode code 504 = .ok (.goto 4, 3) := by decide +kernel
theorem dL_law_507 : decode code 507 = .ok (.iconst 0, 1) := by decide +kernel
theorem dL_law_508 : decode code 508 = .ok (.aload_n 0, 1) := by decide +kernel
theorem dL_law_509 : decode code 509 = .ok (.iload 4, 2) := by decide +kernel
theorem dL_law_511 : decode code 511 = .ok (.iconst 2, 1) := by decide +kernel
theorem dL_law_512 : decode code 512 = .ok (.iadd, 1) := by decide +kernel
theorem dL_law_513 : decode code 513 = .ok (.iaload, 1) := by decide +kernel
theorem dL_law_514 : decode code 514 = .ok (.aload_n 0, 1) := by decide +kernel
theorem dL_law_515 : decode code 515 = .ok (.iload 4, 2) := by decide +kernel
theorem dL_law_517 : decode code 517 = .ok (.iconst 3, 1) := by decide +kernel
theorem dL_law_518 : decode code 518 = .ok (.iadd, 1) := by decide +kernel
theorem dL_law_519 : decode code 519 = .ok (.iaload, 1) := by decide +kernel
theorem dL_law_520 : decode code 520 = .ok (.aload_n 0, 1) := by decide +kernel
theorem dL_law_521 : decode code 521 = .ok (.iload 4, 2) := by decide +kernel
theorem dL_law_523 : decode code 523 = .ok (.iconst 4, 1) := by decide +kernel
theorem dL_law_524 : decode code 524 = .ok (.iadd, 1) := by decide +kernel
theorem dL_law_525 : decode code 525 = .ok (.iaload, 1) := by decide +kernel
theorem dL_law_526 : decode code 526 = .ok (.invokevirtual 84, 3) := by decide +kernel
theorem dL_law_529 : decode code 529 = .ok (.istore 6, 2) := by decide +kernel
theorem dL_law_531 : decode code 531 = .ok (.aload_n 2, 1) := by decide +kernel
theorem dL_law_532 : decode code 532 = .ok (.invokevirtual 62, 3) := by decide +kernel
theorem dL_law_535 : decode code 535 = .ok (.iload 5, 2) := by decide +kernel
theorem dL_law_537 : decode code 537 = .ok (.if_icmp .eq 5, 3) := by decide +kernel
theorem dL_law_540 : decode code 540 = .ok (.iconst 0, 1) := by decide +kernel
theorem dL_law_541 : decode code 541 = .ok (.ireturn, 1) := by decide +kernel
theorem dL_law_542 : decode code 542 = .ok (.iload 5, 2) := by decide +kernel
theorem dL_law_544 : decode code 544 = .ok (.ifCond .ne 15, 3) := by decide +kernel
theorem dL_law_547 : decode code 547 = .ok (.aload_n 3, 1) := by decide +kernel
theorem dL_law_548 : decode code 548 = .ok (.iconst 0, 1) := by decide +kernel
theorem dL_law_549 : decode code 549 = .ok (.laload, 1) := by decide +kernel
theorem dL_law_550 : decode code 550 = .ok (.iload 6, 2) := by decide +kernel
theorem dL_law_552 : decode code 552 = .ok (.i2l, 1) := by decide +kernel
theorem dL_law_553 : decode code 553 = .ok (.lcmp, 1) := by decide +kernel
theorem dL_law_554 : decode code 554 = .ok (.ifCond .eq 5, 3) := by decide +kernel
theorem dL_law_557 : decode code 557 = .ok (.iconst 0, 1) := by decide +kernel
theorem dL_law_558 : decode code 558 = .ok (.ireturn, 1) := by decide +kernel
theorem dL_law_559 : decode code 559 = .ok (.goto 515, 3) := by decide +kernel
theorem dL_law_562 : decode code 562 = .ok (.aload_n 1, 1) := by decide +kernel
theorem dL_law_563 : decode code 563 = .ok (.aload_n 0, 1) := by decide +kernel
theorem dL_law_564 : decode code 564 = .ok (.iload 4, 2) := by decide +kernel
theorem dL_law_566 : decode code 566 = .ok (.iconst 1, 1) := by decide +kernel
theorem dL_law_567 : decode code 567 = .ok (.iadd, 1) := by decide +kernel
theorem dL_law_568 : decode code 568 = .ok (.iaload, 1) := by decide +kernel
theorem dL_law_569 : decode code 569 = .ok (.ifCond .eq 7, 3) := by decide +kernel
theorem dL_law_572 : decode code 572 = .ok (.iconst 1, 1) := by decide +kernel
theorem dL_law_573 : decode code 573 = .ok (.goto 4, 3) := by decide +kernel
theorem dL_law_576 : decode code 576 = .ok (.iconst 0, 1) := by decide +kernel
theorem dL_law_577 : decode code 577 = .ok (.aload_n 0, 1) := by decide +kernel
theorem dL_law_578 : decode code 578 = .ok (.iload 4, 2) := by decide +kernel
theorem dL_law_580 : decode code 580 = .ok (.iconst 2, 1) := by decide +kernel
theorem dL_law_581 : decode code 581 = .ok (.iadd, 1) := by decide +kernel
theorem dL_law_582 : decode code 582 = .ok (.iaload, 1) := by decide +kernel
theorem dL_law_583 : decode code 583 = .ok (.aload_n 0, 1) := by decide +kernel
theorem dL_law_584 : decode code 584 = .ok (.iload 4, 2) := by decide +kernel
theorem dL_law_586 : decode code 586 = .ok (.iconst 3, 1) := by decide +kernel
theorem dL_law_587 : decode code 587 = .ok (.iadd, 1) := by decide +kernel
theorem dL_law_588 : decode code 588 = .ok (.iaload, 1) := by decide +kernel
theorem dL_law_589 : decode code 589 = .ok (.i2l, 1) := by decide +kernel
theorem dL_law_590 : decode code 590 = .ok (.bipush 32, 2) := by decide +kernel
theorem dL_law_592 : decode code 592 = .ok (.lshl, 1) := by decide +kernel
theorem dL_law_593 : decode code 593 = .ok (.aload_n 0, 1) := by decide +kernel
theorem dL_law_594 : decode code 594 = .ok (.iload 4, 2) := by decide +kernel
theorem dL_law_596 : decode code 596 = .ok (.iconst 4, 1) := by decide +kernel
theorem dL_law_597 : decode code 597 = .ok (.iadd, 1) := by decide +kernel
theorem dL_law_598 : decode code 598 = .ok (.iaload, 1) := by decide +kernel
theorem dL_law_599 : decode code 599 = .ok (.i2l, 1) := by decide +kernel
theorem dL_law_600 : decode code 600 = .ok (.ldc2_w 54, 3) := by decide +kernel
theorem dL_law_603 : decode code 603 = .ok (.land, 1) := by decide +kernel
theorem dL_law_604 : decode code 604 = .ok (.lor, 1) := by decide +kernel
theorem dL_law_605 : decode code 605 = .ok (.aload_n 3, 1) := by decide +kernel
theorem dL_law_606 : decode code 606 = .ok (.invokestatic 85, 3) := by decide +kernel
theorem dL_law_609 : decode code 609 = .ok (.istore 5, 2) := by decide +kernel
theorem dL_law_611 : decode code 611 = .ok (.aload_n 2, 1) := by decide +kernel
theorem dL_law_612 : decode code 612 = .ok (.aload_n 0, 1) := by decide +kernel
theorem dL_law_613 : decode code 613 = .ok (.iload 4, 2) := by decide +kernel
theorem dL_law_615 : decode code 615 = .ok (.iconst 1, 1) := by decide +kernel
theorem dL_law_616 : decode code 616 = .ok (.iadd, 1) := by decide +kernel
theorem dL_law_617 : decode code 617 = .ok (.iaload, 1) := by decide +kernel
theorem dL_law_618 : decode code 618 = .ok (.ifCond .eq 7, 3) := by decide +kernel
theorem dL_law_621 : decode code 621 = .ok (.iconst 1, 1) := by decide +kernel
theorem dL_law_622 : decode code 622 = .ok (.goto 4, 3) := by decide +kernel
theorem dL_law_625 : decode code 625 = .ok (.iconst 0, 1) := by decide +kernel
theorem dL_law_626 : decode code 626 = .ok (.aload_n 0, 1) := by decide +kernel
theorem dL_law_627 : decode code 627 = .ok (.iload 4, 2) := by decide +kernel
theorem dL_law_629 : decode code 629 = .ok (.iconst 2, 1) := by decide +kernel
theorem dL_law_630 : decode code 630 = .ok (.iadd, 1) := by decide +kernel
theorem dL_law_631 : decode code 631 = .ok (.iaload, 1) := by decide +kernel
theorem dL_law_632 : decode code 632 = .ok (.aload_n 0, 1) := by decide +kernel
theorem dL_law_633 : decode code 633 = .ok (.iload 4, 2) := by decide +kernel
theorem dL_law_635 : decode code 635 = .ok (.iconst 3, 1) := by decide +kernel
theorem dL_law_636 : decode code 636 = .ok (.iadd, 1) := by decide +kernel
theorem dL_law_637 : decode code 637 = .ok (.iaload, 1) := by decide +kernel
theorem dL_law_638 : decode code 638 = .ok (.i2l, 1) := by decide +kernel
theorem dL_law_639 : decode code 639 = .ok (.bipush 32, 2) := by decide +kernel
theorem dL_law_641 : decode code 641 = .ok (.lshl, 1) := by decide +kernel
theorem dL_law_642 : decode code 642 = .ok (.aload_n 0, 1) := by decide +kernel
theorem dL_law_643 : decode code 643 = .ok (.iload 4, 2) := by decide +kernel
theorem dL_law_645 : decode code 645 = .ok (.iconst 4, 1) := by decide +kernel
theorem dL_law_646 : decode code 646 = .ok (.iadd, 1) := by decide +kernel
theorem dL_law_647 : decode code 647 = .ok (.iaload, 1) := by decide +kernel
theorem dL_law_648 : decode code 648 = .ok (.i2l, 1) := by decide +kernel
theorem dL_law_649 : decode code 649 = .ok (.ldc2_w 54, 3) := by decide +kernel
theorem dL_law_652 : decode code 652 = .ok (.land, 1) := by decide +kernel
theorem dL_law_653 : decode code 653 = .ok (.lor, 1) := by decide +kernel
theorem dL_law_654 : decode code 654 = .ok (.invokevirtual 88, 3) := by decide +kernel
theorem dL_law_657 : decode code 657 = .ok (.lstore 6, 2) := by decide +kernel
theorem dL_law_659 : decode code 659 = .ok (.aload_n 2, 1) := by decide +kernel
theorem dL_law_660 : decode code 660 = .ok (.invokevirtual 62, 3) := by decide +kernel
theorem dL_law_663 : decode code 663 = .ok (.iload 5, 2) := by decide +kernel
theorem dL_law_665 : decode code 665 = .ok (.if_icmp .eq 5, 3) := by decide +kernel
theorem dL_law_668 : decode code 668 = .ok (.iconst 0, 1) := by decide +kernel
theorem dL_law_669 : decode code 669 = .ok (.ireturn, 1) := by decide +kernel
theorem dL_law_670 : decode code 670 = .ok (.iload 5, 2) := by decide +kernel
theorem dL_law_672 : decode code 672 = .ok (.ifCond .ne 14, 3) := by decide +kernel
theorem dL_law_675 : decode code 675 = .ok (.aload_n 3, 1) := by decide +kernel
theorem dL_law_676 : decode code 676 = .ok (.iconst 0, 1) := by decide +kernel
theorem dL_law_677 : decode code 677 = .ok (.laload, 1) := by decide +kernel
theorem dL_law_678 : decode code 678 = .ok (.lload 6, 2) := by decide +kernel
theorem dL_law_680 : decode code 680 = .ok (.lcmp, 1) := by decide +kernel
theorem dL_law_681 : decode code 681 = .ok (.ifCond .eq 5, 3) := by decide +kernel
theorem dL_law_684 : decode code 684 = .ok (.iconst 0, 1) := by decide +kernel
theorem dL_law_685 : decode code 685 = .ok (.ireturn, 1) := by decide +kernel
theorem dL_law_686 : decode code 686 = .ok (.goto 388, 3) := by decide +kernel
theorem dL_law_689 : decode code 689 = .ok (.aload_n 1, 1) := by decide +kernel
theorem dL_law_690 : decode code 690 = .ok (.aload_n 0, 1) := by decide +kernel
theorem dL_law_691 : decode code 691 = .ok (.iload 4, 2) := by decide +kernel
theorem dL_law_693 : decode code 693 = .ok (.iconst 1, 1) := by decide +kernel
theorem dL_law_694 : decode code 694 = .ok (.iadd, 1) := by decide +kernel
theorem dL_law_695 : decode code 695 = .ok (.iaload, 1) := by decide +kernel
theorem dL_law_696 : decode code 696 = .ok (.ifCond .eq 7, 3) := by decide +kernel
theorem dL_law_699 : decode code 699 = .ok (.iconst 1, 1) := by decide +kernel
theorem dL_law_700 : decode code 700 = .ok (.goto 4, 3) := by decide +kernel
theorem dL_law_703 : decode code 703 = .ok (.iconst 0, 1) := by decide +kernel
theorem dL_law_704 : decode code 704 = .ok (.aload_n 0, 1) := by decide +kernel
theorem dL_law_705 : decode code 705 = .ok (.iload 4, 2) := by decide +kernel
theorem dL_law_707 : decode code 707 = .ok (.iconst 2, 1) := by decide +kernel
theorem dL_law_708 : decode code 708 = .ok (.iadd, 1) := by decide +kernel
theorem dL_law_709 : decode code 709 = .ok (.iaload, 1) := by decide +kernel
theorem dL_law_710 : decode code 710 = .ok (.aload_n 0, 1) := by decide +kernel
theorem dL_law_711 : decode code 711 = .ok (.iload 4, 2) := by decide +kernel
theorem dL_law_713 : decode code 713 = .ok (.iconst 3, 1) := by decide +kernel
theorem dL_law_714 : decode code 714 = .ok (.iadd, 1) := by decide +kernel
theorem dL_law_715 : decode code 715 = .ok (.iaload, 1) := by decide +kernel
theorem dL_law_716 : decode code 716 = .ok (.ifCond .eq 7, 3) := by decide +kernel
theorem dL_law_719 : decode code 719 = .ok (.iconst 1, 1) := by decide +kernel
theorem dL_law_720 : decode code 720 = .ok (.goto 4, 3) := by decide +kernel
theorem dL_law_723 : decode code 723 = .ok (.iconst 0, 1) := by decide +kernel
theorem dL_law_724 : decode code 724 = .ok (.aload_n 3, 1) := by decide +kernel
theorem dL_law_725 : decode code 725 = .ok (.invokestatic 89, 3) := by decide +kernel
theorem dL_law_728 : decode code 728 = .ok (.istore 5, 2) := by decide +kernel
theorem dL_law_730 : decode code 730 = .ok (.aload_n 2, 1) := by decide +kernel
theorem dL_law_731 : decode code 731 = .ok (.aload_n 0, 1) := by decide +kernel
theorem dL_law_732 : decode code 732 = .ok (.iload 4, 2) := by decide +kernel
theorem dL_law_734 : decode code 734 = .ok (.iconst 1, 1) := by decide +kernel
theorem dL_law_735 : decode code 735 = .ok (.iadd, 1) := by decide +kernel
theorem dL_law_736 : decode code 736 = .ok (.iaload, 1) := by decide +kernel
theorem dL_law_737 : decode code 737 = .ok (.ifCond .eq 7, 3) := by decide +kernel
theorem dL_law_740 : decode code 740 = .ok (.iconst 1, 1) := by decide +kernel
theorem dL_law_741 : decode code 741 = .ok (.goto 4, 3) := by decide +kernel
theorem dL_law_744 : decode code 744 = .ok (.iconst 0, 1) := by decide +kernel
theorem dL_law_745 : decode code 745 = .ok (.aload_n 0, 1) := by decide +kernel
theorem dL_law_746 : decode code 746 = .ok (.iload 4, 2) := by decide +kernel
theorem dL_law_748 : decode code 748 = .ok (.iconst 2, 1) := by decide +kernel
theorem dL_law_749 : decode code 749 = .ok (.iadd, 1) := by decide +kernel
theorem dL_law_750 : decode code 750 = .ok (.iaload, 1) := by decide +kernel
theorem dL_law_751 : decode code 751 = .ok (.aload_n 0, 1) := by decide +kernel
theorem dL_law_752 : decode code 752 = .ok (.iload 4, 2) := by decide +kernel
theorem dL_law_754 : decode code 754 = .ok (.iconst 3, 1) := by decide +kernel
theorem dL_law_755 : decode code 755 = .ok (.iadd, 1) := by decide +kernel
theorem dL_law_756 : decode code 756 = .ok (.iaload, 1) := by decide +kernel
theorem dL_law_757 : decode code 757 = .ok (.ifCond .eq 7, 3) := by decide +kernel
theorem dL_law_760 : decode code 760 = .ok (.iconst 1, 1) := by decide +kernel
theorem dL_law_761 : decode code 761 = .ok (.goto 4, 3) := by decide +kernel
theorem dL_law_764 : decode code 764 = .ok (.iconst 0, 1) := by decide +kernel
theorem dL_law_765 : decode code 765 = .ok (.invokevirtual 92, 3) := by decide +kernel
theorem dL_law_768 : decode code 768 = .ok (.lstore 6, 2) := by decide +kernel
theorem dL_law_770 : decode code 770 = .ok (.aload_n 2, 1) := by decide +kernel
theorem dL_law_771 : decode code 771 = .ok (.invokevirtual 62, 3) := by decide +kernel
theorem dL_law_774 : decode code 774 = .ok (.iload 5, 2) := by decide +kernel
theorem dL_law_776 : decode code 776 = .ok (.if_icmp .eq 5, 3) := by decide +kernel
theorem dL_law_779 : decode code 779 = .ok (.iconst 0, 1) := by decide +kernel
theorem dL_law_780 : decode code 780 = .ok (.ireturn, 1) := by decide +kernel
theorem dL_law_781 : decode code 781 = .ok (.iload 5, 2) := by decide +kernel
theorem dL_law_783 : decode code 783 = .ok (.ifCond .ne 14, 3) := by decide +kernel
theorem dL_law_786 : decode code 786 = .ok (.aload_n 3, 1) := by decide +kernel
theorem dL_law_787 : decode code 787 = .ok (.iconst 0, 1) := by decide +kernel
theorem dL_law_788 : decode code 788 = .ok (.laload, 1) := by decide +kernel
theorem dL_law_789 : decode code 789 = .ok (.lload 6, 2) := by decide +kernel
theorem dL_law_791 : decode code 791 = .ok (.lcmp, 1) := by decide +kernel
theorem dL_law_792 : decode code 792 = .ok (.ifCond .eq 5, 3) := by decide +kernel
theorem dL_law_795 : decode code 795 = .ok (.iconst 0, 1) := by decide +kernel
theorem dL_law_796 : decode code 796 = .ok (.ireturn, 1) := by decide +kernel
theorem dL_law_797 : decode code 797 = .ok (.goto 277, 3) := by decide +kernel
theorem dL_law_800 : decode code 800 = .ok (.aload_n 1, 1) := by decide +kernel
theorem dL_law_801 : decode code 801 = .ok (.aload_n 0, 1) := by decide +kernel
theorem dL_law_802 : decode code 802 = .ok (.iload 4, 2) := by decide +kernel
theorem dL_law_804 : decode code 804 = .ok (.iconst 1, 1) := by decide +kernel
theorem dL_law_805 : decode code 805 = .ok (.iadd, 1) := by decide +kernel
theorem dL_law_806 : decode code 806 = .ok (.iaload, 1) := by decide +kernel
theorem dL_law_807 : decode code 807 = .ok (.ifCond .eq 7, 3) := by decide +kernel
theorem dL_law_810 : decode code 810 = .ok (.iconst 1, 1) := by decide +kernel
theorem dL_law_811 : decode code 811 = .ok (.goto 4, 3) := by decide +kernel
theorem dL_law_814 : decode code 814 = .ok (.iconst 0, 1) := by decide +kernel
theorem dL_law_815 : decode code 815 = .ok (.aload_n 0, 1) := by decide +kernel
theorem dL_law_816 : decode code 816 = .ok (.iload 4, 2) := by decide +kernel
theorem dL_law_818 : decode code 818 = .ok (.iconst 2, 1) := by decide +kernel
theorem dL_law_819 : decode code 819 = .ok (.iadd, 1) := by decide +kernel
theorem dL_law_820 : decode code 820 = .ok (.iaload, 1) := by decide +kernel
theorem dL_law_821 : decode code 821 = .ok (.aload_n 0, 1) := by decide +kernel
theorem dL_law_822 : decode code 822 = .ok (.iload 4, 2) := by decide +kernel
theorem dL_law_824 : decode code 824 = .ok (.iconst 3, 1) := by decide +kernel
theorem dL_law_825 : decode code 825 = .ok (.iadd, 1) := by decide +kernel
theorem dL_law_826 : decode code 826 = .ok (.iaload, 1) := by decide +kernel
theorem dL_law_827 : decode code 827 = .ok (.aload_n 3, 1) := by decide +kernel
theorem dL_law_828 : decode code 828 = .ok (.invokestatic 93, 3) := by decide +kernel
theorem dL_law_831 : decode code 831 = .ok (.istore 5, 2) := by decide +kernel
theorem dL_law_833 : decode code 833 = .ok (.aload_n 2, 1) := by decide +kernel
theorem dL_law_834 : decode code 834 = .ok (.aload_n 0, 1) := by decide +kernel
theorem dL_law_835 : decode code 835 = .ok (.iload 4, 2) := by decide +kernel
theorem dL_law_837 : decode code 837 = .ok (.iconst 1, 1) := by decide +kernel
theorem dL_law_838 : decode code 838 = .ok (.iadd, 1) := by decide +kernel
theorem dL_law_839 : decode code 839 = .ok (.iaload, 1) := by decide +kernel
theorem dL_law_840 : decode code 840 = .ok (.ifCond .eq 7, 3) := by decide +kernel
theorem dL_law_843 : decode code 843 = .ok (.iconst 1, 1) := by decide +kernel
theorem dL_law_844 : decode code 844 = .ok (.goto 4, 3) := by decide +kernel
theorem dL_law_847 : decode code 847 = .ok (.iconst 0, 1) := by decide +kernel
theorem dL_law_848 : decode code 848 = .ok (.aload_n 0, 1) := by decide +kernel
theorem dL_law_849 : decode code 849 = .ok (.iload 4, 2) := by decide +kernel
theorem dL_law_851 : decode code 851 = .ok (.iconst 2, 1) := by decide +kernel
theorem dL_law_852 : decode code 852 = .ok (.iadd, 1) := by decide +kernel
theorem dL_law_853 : decode code 853 = .ok (.iaload, 1) := by decide +kernel
theorem dL_law_854 : decode code 854 = .ok (.aload_n 0, 1) := by decide +kernel
theorem dL_law_855 : decode code 855 = .ok (.iload 4, 2) := by decide +kernel
theorem dL_law_857 : decode code 857 = .ok (.iconst 3, 1) := by decide +kernel
theorem dL_law_858 : decode code 858 = .ok (.iadd, 1) := by decide +kernel
theorem dL_law_859 : decode code 859 = .ok (.iaload, 1) := by decide +kernel
theorem dL_law_860 : decode code 860 = .ok (.invokevirtual 96, 3) := by decide +kernel
theorem dL_law_863 : decode code 863 = .ok (.lstore 6, 2) := by decide +kernel
theorem dL_law_865 : decode code 865 = .ok (.aload_n 2, 1) := by decide +kernel
theorem dL_law_866 : decode code 866 = .ok (.invokevirtual 62, 3) := by decide +kernel
theorem dL_law_869 : decode code 869 = .ok (.iload 5, 2) := by decide +kernel
theorem dL_law_871 : decode code 871 = .ok (.if_icmp .eq 5, 3) := by decide +kernel
theorem dL_law_874 : decode code 874 = .ok (.iconst 0, 1) := by decide +kernel
theorem dL_law_875 : decode code 875 = .ok (.ireturn, 1) := by decide +kernel
theorem dL_law_876 : decode code 876 = .ok (.iload 5, 2) := by decide +kernel
theorem dL_law_878 : decode code 878 = .ok (.ifCond .ne 14, 3) := by decide +kernel
theorem dL_law_881 : decode code 881 = .ok (.aload_n 3, 1) := by decide +kernel
theorem dL_law_882 : decode code 882 = .ok (.iconst 0, 1) := by decide +kernel
theorem dL_law_883 : decode code 883 = .ok (.laload, 1) := by decide +kernel
theorem dL_law_884 : decode code 884 = .ok (.lload 6, 2) := by decide +kernel
theorem dL_law_886 : decode code 886 = .ok (.lcmp, 1) := by decide +kernel
theorem dL_law_887 : decode code 887 = .ok (.ifCond .eq 5, 3) := by decide +kernel
theorem dL_law_890 : decode code 890 = .ok (.iconst 0, 1) := by decide +kernel
theorem dL_law_891 : decode code 891 = .ok (.ireturn, 1) := by decide +kernel
theorem dL_law_892 : decode code 892 = .ok (.goto 182, 3) := by decide +kernel
theorem dL_law_895 : decode code 895 = .ok (.aload_n 1, 1) := by decide +kernel
theorem dL_law_896 : decode code 896 = .ok (.aload_n 0, 1) := by decide +kernel
theorem dL_law_897 : decode code 897 = .ok (.iload 4, 2) := by decide +kernel
theorem dL_law_899 : decode code 899 = .ok (.iconst 1, 1) := by decide +kernel
theorem dL_law_900 : decode code 900 = .ok (.iadd, 1) := by decide +kernel
theorem dL_law_901 : decode code 901 = .ok (.iaload, 1) := by decide +kernel
theorem dL_law_902 : decode code 902 = .ok (.ifCond .eq 7, 3) := by decide +kernel
theorem dL_law_905 : decode code 905 = .ok (.iconst 1, 1) := by decide +kernel
theorem dL_law_906 : decode code 906 = .ok (.goto 4, 3) := by decide +kernel
theorem dL_law_909 : decode code 909 = .ok (.iconst 0, 1) := by decide +kernel
theorem dL_law_910 : decode code 910 = .ok (.aload_n 0, 1) := by decide +kernel
theorem dL_law_911 : decode code 911 = .ok (.iload 4, 2) := by decide +kernel
theorem dL_law_913 : decode code 913 = .ok (.iconst 2, 1) := by decide +kernel
theorem dL_law_914 : decode code 914 = .ok (.iadd, 1) := by decide +kernel
theorem dL_law_915 : decode code 915 = .ok (.iaload, 1) := by decide +kernel
theorem dL_law_916 : decode code 916 = .ok (.aload_n 3, 1) := by decide +kernel
theorem dL_law_917 : decode code 917 = .ok (.invokestatic 97, 3) := by decide +kernel
theorem dL_law_920 : decode code 920 = .ok (.istore 5, 2) := by decide +kernel
theorem dL_law_922 : decode code 922 = .ok (.aload_n 2, 1) := by decide +kernel
theorem dL_law_923 : decode code 923 = .ok (.aload_n 0, 1) := by decide +kernel
theorem dL_law_924 : decode code 924 = .ok (.iload 4, 2) := by decide +kernel
theorem dL_law_926 : decode code 926 = .ok (.iconst 1, 1) := by decide +kernel
theorem dL_law_927 : decode code 927 = .ok (.iadd, 1) := by decide +kernel
theorem dL_law_928 : decode code 928 = .ok (.iaload, 1) := by decide +kernel
theorem dL_law_929 : decode code 929 = .ok (.ifCond .eq 7, 3) := by decide +kernel
theorem dL_law_932 : decode code 932 = .ok (.iconst 1, 1) := by decide +kernel
theorem dL_law_933 : decode code 933 = .ok (.goto 4, 3) := by decide +kernel
theorem dL_law_936 : decode code 936 = .ok (.iconst 0, 1) := by decide +kernel
theorem dL_law_937 : decode code 937 = .ok (.aload_n 0, 1) := by decide +kernel
theorem dL_law_938 : decode code 938 = .ok (.iload 4, 2) := by decide +kernel
theorem dL_law_940 : decode code 940 = .ok (.iconst 2, 1) := by decide +kernel
theorem dL_law_941 : decode code 941 = .ok (.iadd, 1) := by decide +kernel
theorem dL_law_942 : decode code 942 = .ok (.iaload, 1) := by decide +kernel
theorem dL_law_943 : decode code 943 = .ok (.invokevirtual 100, 3) := by decide +kernel
theorem dL_law_946 : decode code 946 = .ok (.istore 6, 2) := by decide +kernel
theorem dL_law_948 : decode code 948 = .ok (.aload_n 2, 1) := by decide +kernel
theorem dL_law_949 : decode code 949 = .ok (.invokevirtual 62, 3) := by decide +kernel
theorem dL_law_952 : decode code 952 = .ok (.iload 5, 2) := by decide +kernel
theorem dL_law_954 : decode code 954 = .ok (.if_icmp .eq 5, 3) := by decide +kernel
theorem dL_law_957 : decode code 957 = .ok (.iconst 0, 1) := by decide +kernel
theorem dL_law_958 : decode code 958 = .ok (.ireturn, 1) := by decide +kernel
theorem dL_law_959 : decode code 959 = .ok (.iload 5, 2) := by decide +kernel
theorem dL_law_961 : decode code 961 = .ok (.ifCond .ne 15, 3) := by decide +kernel
theorem dL_law_964 : decode code 964 = .ok (.aload_n 3, 1) := by decide +kernel
theorem dL_law_965 : decode code 965 = .ok (.iconst 0, 1) := by decide +kernel
theorem dL_law_966 : decode code 966 = .ok (.laload, 1) := by decide +kernel
theorem dL_law_967 : decode code 967 = .ok (.iload 6, 2) := by decide +kernel
theorem dL_law_969 : decode code 969 = .ok (.i2l, 1) := by decide +kernel
theorem dL_law_970 : decode code 970 = .ok (.lcmp, 1) := by decide +kernel
theorem dL_law_971 : decode code 971 = .ok (.ifCond .eq 5, 3) := by decide +kernel
theorem dL_law_974 : decode code 974 = .ok (.iconst 0, 1) := by decide +kernel
theorem dL_law_975 : decode code 975 = .ok (.ireturn, 1) := by decide +kernel
theorem dL_law_976 : decode code 976 = .ok (.goto 98, 3) := by decide +kernel
theorem dL_law_979 : decode code 979 = .ok (.aload_n 1, 1) := by decide +kernel
theorem dL_law_980 : decode code 980 = .ok (.aload_n 0, 1) := by decide +kernel
theorem dL_law_981 : decode code 981 = .ok (.iload 4, 2) := by decide +kernel
theorem dL_law_983 : decode code 983 = .ok (.iconst 1, 1) := by decide +kernel
theorem dL_law_984 : decode code 984 = .ok (.iadd, 1) := by decide +kernel
theorem dL_law_985 : decode code 985 = .ok (.iaload, 1) := by decide +kernel
theorem dL_law_986 : decode code 986 = .ok (.ifCond .eq 7, 3) := by decide +kernel
theorem dL_law_989 : decode code 989 = .ok (.iconst 1, 1) := by decide +kernel
theorem dL_law_990 : decode code 990 = .ok (.goto 4, 3) := by decide +kernel
theorem dL_law_993 : decode code 993 = .ok (.iconst 0, 1) := by decide +kernel
theorem dL_law_994 : decode code 994 = .ok (.aload_n 0, 1) := by decide +kernel
theorem dL_law_995 : decode code 995 = .ok (.iload 4, 2) := by decide +kernel
theorem dL_law_997 : decode code 997 = .ok (.iconst 2, 1) := by decide +kernel
theorem dL_law_998 : decode code 998 = .ok (.iadd, 1) := by decide +kernel
theorem dL_law_999 : decode code 999 = .ok (.iaload, 1) := by decide +kernel
theorem dL_law_1000 : decode code 1000 = .ok (.aload_n 0, 1) := by decide +kernel
theorem dL_law_1001 : decode code 1001 = .ok (.iload 4, 2) := by decide +kernel
theorem dL_law_1003 : decode code 1003 = .ok (.iconst 3, 1) := by decide +kernel
theorem dL_law_1004 : decode code 1004 = .ok (.iadd, 1) := by decide +kernel
theorem dL_law_1005 : decode code 1005 = .ok (.iaload, 1) := by decide +kernel
theorem dL_law_1006 : decode code 1006 = .ok (.aload_n 3, 1) := by decide +kernel
theorem dL_law_1007 : decode code 1007 = .ok (.invokestatic 101, 3) := by decide +kernel
theorem dL_law_1010 : decode code 1010 = .ok (.istore 5, 2) := by decide +kernel
theorem dL_law_1012 : decode code 1012 = .ok (.aload_n 2, 1) := by decide +kernel
theorem dL_law_1013 : decode code 1013 = .ok (.aload_n 0, 1) := by decide +kernel
theorem dL_law_1014 : decode code 1014 = .ok (.iload 4, 2) := by decide +kernel
theorem dL_law_1016 : decode code 1016 = .ok (.iconst 1, 1) := by decide +kernel
theorem dL_law_1017 : decode code 1017 = .ok (.iadd, 1) := by decide +kernel
theorem dL_law_1018 : decode code 1018 = .ok (.iaload, 1) := by decide +kernel
theorem dL_law_1019 : decode code 1019 = .ok (.ifCond .eq 7, 3) := by decide +kernel
theorem dL_law_1022 : decode code 1022 = .ok (.iconst 1, 1) := by decide +kernel
theorem dL_law_1023 : decode code 1023 = .ok (.goto 4, 3) := by decide +kernel
theorem dL_law_1026 : decode code 1026 = .ok (.iconst 0, 1) := by decide +kernel
theorem dL_law_1027 : decode code 1027 = .ok (.aload_n 0, 1) := by decide +kernel
theorem dL_law_1028 : decode code 1028 = .ok (.iload 4, 2) := by decide +kernel
theorem dL_law_1030 : decode code 1030 = .ok (.iconst 2, 1) := by decide +kernel
theorem dL_law_1031 : decode code 1031 = .ok (.iadd, 1) := by decide +kernel
theorem dL_law_1032 : decode code 1032 = .ok (.iaload, 1) := by decide +kernel
theorem dL_law_1033 : decode code 1033 = .ok (.aload_n 0, 1) := by decide +kernel
theorem dL_law_1034 : decode code 1034 = .ok (.iload 4, 2) := by decide +kernel
theorem dL_law_1036 : decode code 1036 = .ok (.iconst 3, 1) := by decide +kernel
theorem dL_law_1037 : decode code 1037 = .ok (.iadd, 1) := by decide +kernel
theorem dL_law_1038 : decode code 1038 = .ok (.iaload, 1) := by decide +kernel
theorem dL_law_1039 : decode code 1039 = .ok (.invokevirtual 103, 3) := by decide +kernel
theorem dL_law_1042 : decode code 1042 = .ok (.lstore 6, 2) := by decide +kernel
theorem dL_law_1044 : decode code 1044 = .ok (.aload_n 2, 1) := by decide +kernel
theorem dL_law_1045 : decode code 1045 = .ok (.invokevirtual 62, 3) := by decide +kernel
theorem dL_law_1048 : decode code 1048 = .ok (.iload 5, 2) := by decide +kernel
theorem dL_law_1050 : decode code 1050 = .ok (.if_icmp .eq 5, 3) := by decide +kernel
theorem dL_law_1053 : decode code 1053 = .ok (.iconst 0, 1) := by decide +kernel
theorem dL_law_1054 : decode code 1054 = .ok (.ireturn, 1) := by decide +kernel
theorem dL_law_1055 : decode code 1055 = .ok (.iload 5, 2) := by decide +kernel
theorem dL_law_1057 : decode code 1057 = .ok (.ifCond .ne 14, 3) := by decide +kernel
theorem dL_law_1060 : decode code 1060 = .ok (.aload_n 3, 1) := by decide +kernel
theorem dL_law_1061 : decode code 1061 = .ok (.iconst 0, 1) := by decide +kernel
theorem dL_law_1062 : decode code 1062 = .ok (.laload, 1) := by decide +kernel
theorem dL_law_1063 : decode code 1063 = .ok (.lload 6, 2) := by decide +kernel
theorem dL_law_1065 : decode code 1065 = .ok (.lcmp, 1) := by decide +kernel
theorem dL_law_1066 : decode code 1066 = .ok (.ifCond .eq 5, 3) := by decide +kernel
theorem dL_law_1069 : decode code 1069 = .ok (.iconst 0, 1) := by decide +kernel
theorem dL_law_1070 : decode code 1070 = .ok (.ireturn, 1) := by decide +kernel
theorem dL_law_1071 : decode code 1071 = .ok (.goto 3, 3) := by decide +kernel
theorem dL_law_1074 : decode code 1074 = .ok (.iinc 4 6, 3) := by decide +kernel
theorem dL_law_1077 : decode code 1077 = .ok (.goto (-1054), 3) := by decide +kernel
theorem dL_law_1080 : decode code 1080 = .ok (.iconst 1, 1) := by decide +kernel
theorem dL_law_1081 : decode code 1081 = .ok (.ireturn, 1) := by decide +kernel
