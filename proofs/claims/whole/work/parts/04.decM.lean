/-! Decode rows (by program). -/
theorem dM_init_0 : decode cM_init 0 = .ok (.aload_n 0, 1) := by decide +kernel
theorem dM_init_1 : decode cM_init 1 = .ok (.invokespecial 1, 3) := by decide +kernel
theorem dM_init_4 : decode cM_init 4 = .ok (.aload_n 0, 1) := by decide +kernel
theorem dM_init_5 : decode cM_init 5 = .ok (.sipush 2200, 3) := by decide +kernel
theorem dM_init_8 : decode cM_init 8 = .ok (.newarray .int, 2) := by decide +kernel
theorem dM_init_10 : decode cM_init 10 = .ok (.putfield 7, 3) := by decide +kernel
theorem dM_init_13 : decode cM_init 13 = .ok (.aload_n 0, 1) := by decide +kernel
theorem dM_init_14 : decode cM_init 14 = .ok (.sipush 2200, 3) := by decide +kernel
theorem dM_init_17 : decode cM_init 17 = .ok (.newarray .int, 2) := by decide +kernel
theorem dM_init_19 : decode cM_init 19 = .ok (.putfield 13, 3) := by decide +kernel
theorem dM_init_22 : decode cM_init 22 = .ok (.aload_n 0, 1) := by decide +kernel
theorem dM_init_23 : decode cM_init 23 = .ok (.bipush 16, 2) := by decide +kernel
theorem dM_init_25 : decode cM_init 25 = .ok (.newarray .long, 2) := by decide +kernel
theorem dM_init_27 : decode cM_init 27 = .ok (.putfield 16, 3) := by decide +kernel
theorem dM_init_30 : decode cM_init 30 = .ok (.return_, 1) := by decide +kernel
theorem dM_thrown_0 : decode cM_thrown 0 = .ok (.aload_n 0, 1) := by decide +kernel
theorem dM_thrown_1 : decode cM_thrown 1 = .ok (.getfield 20, 3) := by decide +kernel
theorem dM_thrown_4 : decode cM_thrown 4 = .ok (.ireturn, 1) := by decide +kernel
theorem dM_put_0 : decode cM_put 0 = .ok (.aload_n 0, 1) := by decide +kernel
theorem dM_put_1 : decode cM_put 1 = .ok (.iload_n 1, 1) := by decide +kernel
theorem dM_put_2 : decode cM_put 2 = .ok (.bipush 15, 2) := by decide +kernel
theorem dM_put_4 : decode cM_put 4 = .ok (.invokestatic 83, 3) := by decide +kernel
theorem dM_put_7 : decode cM_put 7 = .ok (.ifCond .ne 7, 3) := by decide +kernel
theorem dM_put_10 : decode cM_put 10 = .ok (.iconst 1, 1) := by decide +kernel
theorem dM_put_11 : decode cM_put 11 = .ok (.goto 4, 3) := by decide +kernel
theorem dM_put_14 : decode cM_put 14 = .ok (.iconst 0, 1) := by decide +kernel
theorem dM_put_15 : decode cM_put 15 = .ok (.invokevirtual 87, 3) := by decide +kernel
theorem dM_put_18 : decode cM_put 18 = .ok (.ifCond .eq 5, 3) := by decide +kernel
theorem dM_put_21 : decode cM_put 21 = .ok (.lconst 0, 1) := by decide +kernel
theorem dM_put_22 : decode cM_put 22 = .ok (.lreturn, 1) := by decide +kernel
theorem dM_put_23 : decode cM_put 23 = .ok (.aload_n 0, 1) := by decide +kernel
theorem dM_put_24 : decode cM_put 24 = .ok (.getfield 16, 3) := by decide +kernel
theorem dM_put_27 : decode cM_put 27 = .ok (.iload_n 1, 1) := by decide +kernel
theorem dM_put_28 : decode cM_put 28 = .ok (.laload, 1) := by decide +kernel
theorem dM_put_29 : decode cM_put 29 = .ok (.lstore 4, 2) := by decide +kernel
theorem dM_put_31 : decode cM_put 31 = .ok (.aload_n 0, 1) := by decide +kernel
theorem dM_put_32 : decode cM_put 32 = .ok (.getfield 16, 3) := by decide +kernel
theorem dM_put_35 : decode cM_put 35 = .ok (.iload_n 1, 1) := by decide +kernel
theorem dM_put_36 : decode cM_put 36 = .ok (.lload_n 2, 1) := by decide +kernel
theorem dM_put_37 : decode cM_put 37 = .ok (.lastore, 1) := by decide +kernel
theorem dM_put_38 : decode cM_put 38 = .ok (.lload 4, 2) := by decide +kernel
theorem dM_put_40 : decode cM_put 40 = .ok (.lreturn, 1) := by decide +kernel
theorem dM_in_0 : decode cM_in 0 = .ok (.iload_n 0, 1) := by decide +kernel
theorem dM_in_1 : decode cM_in 1 = .ok (.ifCond .lt 12, 3) := by decide +kernel
theorem dM_in_4 : decode cM_in 4 = .ok (.iload_n 0, 1) := by decide +kernel
theorem dM_in_5 : decode cM_in 5 = .ok (.iload_n 1, 1) := by decide +kernel
theorem dM_in_6 : decode cM_in 6 = .ok (.if_icmp .gt 7, 3) := by decide +kernel
theorem dM_in_9 : decode cM_in 9 = .ok (.iconst 1, 1) := by decide +kernel
theorem dM_in_10 : decode cM_in 10 = .ok (.goto 4, 3) := by decide +kernel
theorem dM_in_13 : decode cM_in 13 = .ok (.iconst 0, 1) := by decide +kernel
theorem dM_in_14 : decode cM_in 14 = .ok (.ireturn, 1) := by decide +kernel
theorem dM_fails_0 : decode cM_fails 0 = .ok (.aload_n 0, 1) := by decide +kernel
theorem dM_fails_1 : decode cM_fails 1 = .ok (.iload_n 1, 1) := by decide +kernel
theorem dM_fails_2 : decode cM_fails 2 = .ok (.ifCond .eq 7, 3) := by decide +kernel
theorem dM_fails_5 : decode cM_fails 5 = .ok (.iconst 1, 1) := by decide +kernel
theorem dM_fails_6 : decode cM_fails 6 = .ok (.goto 4, 3) := by decide +kernel
theorem dM_fails_9 : decode cM_fails 9 = .ok (.iconst 0, 1) := by decide +kernel
theorem dM_fails_10 : decode cM_fails 10 = .ok (.putfield 20, 3) := by decide +kernel
theorem dM_fails_13 : decode cM_fails 13 = .ok (.iload_n 1, 1) := by decide +kernel
theorem dM_fails_14 : decode cM_fails 14 = .ok (.ireturn, 1) := by decide +kernel
theorem dM_bits_0 : decode cM_bits 0 = .ok (.aload_n 0, 1) := by decide +kernel
theorem dM_bits_1 : decode cM_bits 1 = .ok (.iload_n 1, 1) := by decide +kernel
theorem dM_bits_2 : decode cM_bits 2 = .ok (.bipush 15, 2) := by decide +kernel
theorem dM_bits_4 : decode cM_bits 4 = .ok (.invokestatic 83, 3) := by decide +kernel
theorem dM_bits_7 : decode cM_bits 7 = .ok (.ifCond .ne 7, 3) := by decide +kernel
theorem dM_bits_10 : decode cM_bits 10 = .ok (.iconst 1, 1) := by decide +kernel
theorem dM_bits_11 : decode cM_bits 11 = .ok (.goto 4, 3) := by decide +kernel
theorem dM_bits_14 : decode cM_bits 14 = .ok (.iconst 0, 1) := by decide +kernel
theorem dM_bits_15 : decode cM_bits 15 = .ok (.invokevirtual 87, 3) := by decide +kernel
theorem dM_bits_18 : decode cM_bits 18 = .ok (.ifCond .eq 7, 3) := by decide +kernel
theorem dM_bits_21 : decode cM_bits 21 = .ok (.lconst 0, 1) := by decide +kernel
theorem dM_bits_22 : decode cM_bits 22 = .ok (.goto 9, 3) := by decide +kernel
theorem dM_bits_25 : decode cM_bits 25 = .ok (.aload_n 0, 1) := by decide +kernel
theorem dM_bits_26 : decode cM_bits 26 = .ok (.getfield 16, 3) := by decide +kernel
theorem dM_bits_29 : decode cM_bits 29 = .ok (.iload_n 1, 1) := by decide +kernel
theorem dM_bits_30 : decode cM_bits 30 = .ok (.laload, 1) := by decide +kernel
theorem dM_bits_31 : decode cM_bits 31 = .ok (.lreturn, 1) := by decide +kernel
theorem dM_mode_0 : decode cM_mode 0 = .ok (.aload_n 0, 1) := by decide +kernel
theorem dM_mode_1 : decode cM_mode 1 = .ok (.iload_n 1, 1) := by decide +kernel
theorem dM_mode_2 : decode cM_mode 2 = .ok (.iconst 3, 1) := by decide +kernel
theorem dM_mode_3 : decode cM_mode 3 = .ok (.invokestatic 83, 3) := by decide +kernel
theorem dM_mode_6 : decode cM_mode 6 = .ok (.ifCond .ne 7, 3) := by decide +kernel
theorem dM_mode_9 : decode cM_mode 9 = .ok (.iconst 1, 1) := by decide +kernel
theorem dM_mode_10 : decode cM_mode 10 = .ok (.goto 4, 3) := by decide +kernel
theorem dM_mode_13 : decode cM_mode 13 = .ok (.iconst 0, 1) := by decide +kernel
theorem dM_mode_14 : decode cM_mode 14 = .ok (.invokevirtual 87, 3) := by decide +kernel
theorem dM_mode_17 : decode cM_mode 17 = .ok (.ifCond .eq 5, 3) := by decide +kernel
theorem dM_mode_20 : decode cM_mode 20 = .ok (.iconst 0, 1) := by decide +kernel
theorem dM_mode_21 : decode cM_mode 21 = .ok (.ireturn, 1) := by decide +kernel
theorem dM_mode_22 : decode cM_mode 22 = .ok (.aload_n 0, 1) := by decide +kernel
theorem dM_mode_23 : decode cM_mode 23 = .ok (.getfield 76, 3) := by decide +kernel
theorem dM_mode_26 : decode cM_mode 26 = .ok (.istore_n 2, 1) := by decide +kernel
theorem dM_mode_27 : decode cM_mode 27 = .ok (.aload_n 0, 1) := by decide +kernel
theorem dM_mode_28 : decode cM_mode 28 = .ok (.iload_n 1, 1) := by decide +kernel
theorem dM_mode_29 : decode cM_mode 29 = .ok (.putfield 76, 3) := by decide +kernel
theorem dM_mode_32 : decode cM_mode 32 = .ok (.iload_n 2, 1) := by decide +kernel
theorem dM_mode_33 : decode cM_mode 33 = .ok (.ireturn, 1) := by decide +kernel
theorem dM_flags_0 : decode cM_flags 0 = .ok (.aload_n 0, 1) := by decide +kernel
theorem dM_flags_1 : decode cM_flags 1 = .ok (.iconst 0, 1) := by decide +kernel
theorem dM_flags_2 : decode cM_flags 2 = .ok (.putfield 20, 3) := by decide +kernel
theorem dM_flags_5 : decode cM_flags 5 = .ok (.aload_n 0, 1) := by decide +kernel
theorem dM_flags_6 : decode cM_flags 6 = .ok (.getfield 63, 3) := by decide +kernel
theorem dM_flags_9 : decode cM_flags 9 = .ok (.istore_n 2, 1) := by decide +kernel
theorem dM_flags_10 : decode cM_flags 10 = .ok (.aload_n 0, 1) := by decide +kernel
theorem dM_flags_11 : decode cM_flags 11 = .ok (.aload_n 0, 1) := by decide +kernel
theorem dM_flags_12 : decode cM_flags 12 = .ok (.getfield 63, 3) := by decide +kernel
theorem dM_flags_15 : decode cM_flags 15 = .ok (.iload_n 1, 1) := by decide +kernel
theorem dM_flags_16 : decode cM_flags 16 = .ok (.iconst (-1), 1) := by decide +kernel
theorem dM_flags_17 : decode cM_flags 17 = .ok (.ixor, 1) := by decide +kernel
theorem dM_flags_18 : decode cM_flags 18 = .ok (.iand, 1) := by decide +kernel
theorem dM_flags_19 : decode cM_flags 19 = .ok (.putfield 63, 3) := by decide +kernel
theorem dM_flags_22 : decode cM_flags 22 = .ok (.iload_n 2, 1) := by decide +kernel
theorem dM_flags_23 : decode cM_flags 23 = .ok (.ireturn, 1) := by decide +kernel
theorem dM_work_0 : decode cM_work 0 = .ok (.aload_n 0, 1) := by decide +kernel
theorem dM_work_1 : decode cM_work 1 = .ok (.iload_n 3, 1) := by decide +kernel
theorem dM_work_2 : decode cM_work 2 = .ok (.bipush 15, 2) := by decide +kernel
theorem dM_work_4 : decode cM_work 4 = .ok (.invokestatic 83, 3) := by decide +kernel
theorem dM_work_7 : decode cM_work 7 = .ok (.ifCond .eq 31, 3) := by decide +kernel
theorem dM_work_10 : decode cM_work 10 = .ok (.iload 4, 2) := by decide +kernel
theorem dM_work_12 : decode cM_work 12 = .ok (.bipush 15, 2) := by decide +kernel
theorem dM_work_14 : decode cM_work 14 = .ok (.invokestatic 83, 3) := by decide +kernel
theorem dM_work_17 : decode cM_work 17 = .ok (.ifCond .eq 21, 3) := by decide +kernel
theorem dM_work_20 : decode cM_work 20 = .ok (.iload 5, 2) := by decide +kernel
theorem dM_work_22 : decode cM_work 22 = .ok (.bipush 15, 2) := by decide +kernel
theorem dM_work_24 : decode cM_work 24 = .ok (.invokestatic 83, 3) := by decide +kernel
theorem dM_work_27 : decode cM_work 27 = .ok (.ifCond .eq 11, 3) := by decide +kernel
theorem dM_work_30 : decode cM_work 30 = .ok (.iload_n 1, 1) := by decide +kernel
theorem dM_work_31 : decode cM_work 31 = .ok (.iconst 4, 1) := by decide +kernel
theorem dM_work_32 : decode cM_work 32 = .ok (.invokestatic 83, 3) := by decide +kernel
theorem dM_work_35 : decode cM_work 35 = .ok (.ifCond .ne 7, 3) := by decide +kernel
theorem dM_work_38 : decode cM_work 38 = .ok (.iconst 1, 1) := by decide +kernel
theorem dM_work_39 : decode cM_work 39 = .ok (.goto 4, 3) := by decide +kernel
theorem dM_work_42 : decode cM_work 42 = .ok (.iconst 0, 1) := by decide +kernel
theorem dM_work_43 : decode cM_work 43 = .ok (.invokevirtual 87, 3) := by decide +kernel
theorem dM_work_46 : decode cM_work 46 = .ok (.ifCond .eq 5, 3) := by decide +kernel
theorem dM_work_49 : decode cM_work 49 = .ok (.lconst 0, 1) := by decide +kernel
theorem dM_work_50 : decode cM_work 50 = .ok (.lreturn, 1) := by decide +kernel
theorem dM_work_51 : decode cM_work 51 = .ok (.aload_n 0, 1) := by decide +kernel
theorem dM_work_52 : decode cM_work 52 = .ok (.iload_n 2, 1) := by decide +kernel
theorem dM_work_53 : decode cM_work 53 = .ok (.invokevirtual 91, 3) := by decide +kernel
theorem dM_work_56 : decode cM_work 56 = .ok (.aload_n 0, 1) := by decide +kernel
theorem dM_work_57 : decode cM_work 57 = .ok (.iload 4, 2) := by decide +kernel
theorem dM_work_59 : decode cM_work 59 = .ok (.iload 5, 2) := by decide +kernel
theorem dM_work_61 : decode cM_work 61 = .ok (.invokevirtual 95, 3) := by decide +kernel
theorem dM_work_64 : decode cM_work 64 = .ok (.aload_n 0, 1) := by decide +kernel
theorem dM_work_65 : decode cM_work 65 = .ok (.getfield 33, 3) := by decide +kernel
theorem dM_work_68 : decode cM_work 68 = .ok (.ifCond .eq 10, 3) := by decide +kernel
theorem dM_work_71 : decode cM_work 71 = .ok (.aload_n 0, 1) := by decide +kernel
theorem dM_work_72 : decode cM_work 72 = .ok (.getfield 47, 3) := by decide +kernel
theorem dM_work_75 : decode cM_work 75 = .ok (.ifCond .ne 12, 3) := by decide +kernel
theorem dM_work_78 : decode cM_work 78 = .ok (.aload_n 0, 1) := by decide +kernel
theorem dM_work_79 : decode cM_work 79 = .ok (.invokevirtual 66, 3) := by decide +kernel
theorem dM_work_82 : decode cM_work 82 = .ok (.lstore 6, 2) := by decide +kernel
theorem dM_work_84 : decode cM_work 84 = .ok (.goto 69, 3) := by decide +kernel
theorem dM_work_87 : decode cM_work 87 = .ok (.iload_n 1, 1) := by decide +kernel
theorem dM_work_88 : decode cM_work 88 = .ok (.iconst 2, 1) := by decide +kernel
theorem dM_work_89 : decode cM_work 89 = .ok (.if_icmp .ge 30, 3) := by decide +kernel
theorem dM_work_92 : decode cM_work 92 = .ok (.aload_n 0, 1) := by decide +kernel
theorem dM_work_93 : decode cM_work 93 = .ok (.iload_n 1, 1) := by decide +kernel
theorem dM_work_94 : decode cM_work 94 = .ok (.iconst 1, 1) := by decide +kernel
theorem dM_work_95 : decode cM_work 95 = .ok (.if_icmp .ne 12, 3) := by decide +kernel
theorem dM_work_98 : decode cM_work 98 = .ok (.iconst 1, 1) := by decide +kernel
theorem dM_work_99 : decode cM_work 99 = .ok (.aload_n 0, 1) := by decide +kernel
theorem dM_work_100 : decode cM_work 100 = .ok (.getfield 50, 3) := by decide +kernel
theorem dM_work_103 : decode cM_work 103 = .ok (.isub, 1) := by decide +kernel
theorem dM_work_104 : decode cM_work 104 = .ok (.goto 7, 3) := by decide +kernel
theorem dM_work_107 : decode cM_work 107 = .ok (.aload_n 0, 1) := by decide +kernel
theorem dM_work_108 : decode cM_work 108 = .ok (.getfield 50, 3) := by decide +kernel
theorem dM_work_111 : decode cM_work 111 = .ok (.invokevirtual 99, 3) := by decide +kernel
theorem dM_work_114 : decode cM_work 114 = .ok (.lstore 6, 2) := by decide +kernel
theorem dM_work_116 : decode cM_work 116 = .ok (.goto 37, 3) := by decide +kernel
theorem dM_work_119 : decode cM_work 119 = .ok (.iload_n 1, 1) := by decide +kernel
theorem dM_work_120 : decode cM_work 120 = .ok (.iconst 2, 1) := by decide +kernel
theorem dM_work_121 : decode cM_work 121 = .ok (.if_icmp .ne 12, 3) := by decide +kernel
theorem dM_work_124 : decode cM_work 124 = .ok (.aload_n 0, 1) := by decide +kernel
theorem dM_work_125 : decode cM_work 125 = .ok (.invokevirtual 102, 3) := by decide +kernel
theorem dM_work_128 : decode cM_work 128 = .ok (.lstore 6, 2) := by decide +kernel
theorem dM_work_130 : decode cM_work 130 = .ok (.goto 23, 3) := by decide +kernel
theorem dM_work_133 : decode cM_work 133 = .ok (.iload_n 1, 1) := by decide +kernel
theorem dM_work_134 : decode cM_work 134 = .ok (.iconst 3, 1) := by decide +kernel
theorem dM_work_135 : decode cM_work 135 = .ok (.if_icmp .ne 12, 3) := by decide +kernel
theorem dM_work_138 : decode cM_work 138 = .ok (.aload_n 0, 1) := by decide +kernel
theorem dM_work_139 : decode cM_work 139 = .ok (.invokevirtual 105, 3) := by decide +kernel
theorem dM_work_142 : decode cM_work 142 = .ok (.lstore 6, 2) := by decide +kernel
theorem dM_work_144 : decode cM_work 144 = .ok (.goto 9, 3) := by decide +kernel
theorem dM_work_147 : decode cM_work 147 = .ok (.aload_n 0, 1) := by decide +kernel
theorem dM_work_148 : decode cM_work 148 = .ok (.invokevirtual 108, 3) := by decide +kernel
theorem dM_work_151 : decode cM_work 151 = .ok (.lstore 6, 2) := by decide +kernel
theorem dM_work_153 : decode cM_work 153 = .ok (.aload_n 0, 1) := by decide +kernel
theorem dM_work_154 : decode cM_work 154 = .ok (.getfield 16, 3) := by decide +kernel
theorem dM_work_157 : decode cM_work 157 = .ok (.iload_n 3, 1) := by decide +kernel
theorem dM_work_158 : decode cM_work 158 = .ok (.lload 6, 2) := by decide +kernel
theorem dM_work_160 : decode cM_work 160 = .ok (.lastore, 1) := by decide +kernel
theorem dM_work_161 : decode cM_work 161 = .ok (.lload 6, 2) := by decide +kernel
theorem dM_work_163 : decode cM_work 163 = .ok (.lreturn, 1) := by decide +kernel
theorem dM_format_0 : decode cM_format 0 = .ok (.aload_n 0, 1) := by decide +kernel
theorem dM_format_1 : decode cM_format 1 = .ok (.iload_n 1, 1) := by decide +kernel
theorem dM_format_2 : decode cM_format 2 = .ok (.ifCond .eq 8, 3) := by decide +kernel
theorem dM_format_5 : decode cM_format 5 = .ok (.bipush 24, 2) := by decide +kernel
theorem dM_format_7 : decode cM_format 7 = .ok (.goto 5, 3) := by decide +kernel
theorem dM_format_10 : decode cM_format 10 = .ok (.bipush 53, 2) := by decide +kernel
theorem dM_format_12 : decode cM_format 12 = .ok (.putfield 24, 3) := by decide +kernel
theorem dM_format_15 : decode cM_format 15 = .ok (.aload_n 0, 1) := by decide +kernel
theorem dM_format_16 : decode cM_format 16 = .ok (.iload_n 1, 1) := by decide +kernel
theorem dM_format_17 : decode cM_format 17 = .ok (.ifCond .eq 8, 3) := by decide +kernel
theorem dM_format_20 : decode cM_format 20 = .ok (.bipush 127, 2) := by decide +kernel
theorem dM_format_22 : decode cM_format 22 = .ok (.goto 6, 3) := by decide +kernel
theorem dM_format_25 : decode cM_format 25 = .ok (.sipush 1023, 3) := by decide +kernel
theorem dM_format_28 : decode cM_format 28 = .ok (.putfield 27, 3) := by decide +kernel
theorem dM_format_31 : decode cM_format 31 = .ok (.return_, 1) := by decide +kernel
theorem dM_takeBoth_0 : decode cM_takeBoth 0 = .ok (.aload_n 0, 1) := by decide +kernel
theorem dM_takeBoth_1 : decode cM_takeBoth 1 = .ok (.iload_n 2, 1) := by decide +kernel
theorem dM_takeBoth_2 : decode cM_takeBoth 2 = .ok (.invokevirtual 43, 3) := by decide +kernel
theorem dM_takeBoth_5 : decode cM_takeBoth 5 = .ok (.aload_n 0, 1) := by decide +kernel
theorem dM_takeBoth_6 : decode cM_takeBoth 6 = .ok (.aload_n 0, 1) := by decide +kernel
theorem dM_takeBoth_7 : decode cM_takeBoth 7 = .ok (.getfield 33, 3) := by decide +kernel
theorem dM_takeBoth_10 : decode cM_takeBoth 10 = .ok (.putfield 47, 3) := by decide +kernel
theorem dM_takeBoth_13 : decode cM_takeBoth 13 = .ok (.aload_n 0, 1) := by decide +kernel
theorem dM_takeBoth_14 : decode cM_takeBoth 14 = .ok (.aload_n 0, 1) := by decide +kernel
theorem dM_takeBoth_15 : decode cM_takeBoth 15 = .ok (.getfield 30, 3) := by decide +kernel
theorem dM_takeBoth_18 : decode cM_takeBoth 18 = .ok (.putfield 50, 3) := by decide +kernel
theorem dM_takeBoth_21 : decode cM_takeBoth 21 = .ok (.aload_n 0, 1) := by decide +kernel
theorem dM_takeBoth_22 : decode cM_takeBoth 22 = .ok (.aload_n 0, 1) := by decide +kernel
theorem dM_takeBoth_23 : decode cM_takeBoth 23 = .ok (.getfield 36, 3) := by decide +kernel
theorem dM_takeBoth_26 : decode cM_takeBoth 26 = .ok (.putfield 53, 3) := by decide +kernel
theorem dM_takeBoth_29 : decode cM_takeBoth 29 = .ok (.aload_n 0, 1) := by decide +kernel
theorem dM_takeBoth_30 : decode cM_takeBoth 30 = .ok (.aload_n 0, 1) := by decide +kernel
theorem dM_takeBoth_31 : decode cM_takeBoth 31 = .ok (.getfield 40, 3) := by decide +kernel
theorem dM_takeBoth_34 : decode cM_takeBoth 34 = .ok (.putfield 56, 3) := by decide +kernel
theorem dM_takeBoth_37 : decode cM_takeBoth 37 = .ok (.aload_n 0, 1) := by decide +kernel
theorem dM_takeBoth_38 : decode cM_takeBoth 38 = .ok (.iload_n 1, 1) := by decide +kernel
theorem dM_takeBoth_39 : decode cM_takeBoth 39 = .ok (.invokevirtual 43, 3) := by decide +kernel
theorem dM_takeBoth_42 : decode cM_takeBoth 42 = .ok (.return_, 1) := by decide +kernel
theorem dM_take_0 : decode cM_take 0 = .ok (.aload_n 0, 1) := by decide +kernel
theorem dM_take_1 : decode cM_take 1 = .ok (.getfield 16, 3) := by decide +kernel
theorem dM_take_4 : decode cM_take 4 = .ok (.iload_n 1, 1) := by decide +kernel
theorem dM_take_5 : decode cM_take 5 = .ok (.laload, 1) := by decide +kernel
theorem dM_take_6 : decode cM_take 6 = .ok (.lstore_n 2, 1) := by decide +kernel
theorem dM_take_7 : decode cM_take 7 = .ok (.aload_n 0, 1) := by decide +kernel
theorem dM_take_8 : decode cM_take 8 = .ok (.getfield 24, 3) := by decide +kernel
theorem dM_take_11 : decode cM_take 11 = .ok (.bipush 24, 2) := by decide +kernel
theorem dM_take_13 : decode cM_take 13 = .ok (.if_icmp .ne 8, 3) := by decide +kernel
theorem dM_take_16 : decode cM_take 16 = .ok (.bipush 8, 2) := by decide +kernel
theorem dM_take_18 : decode cM_take 18 = .ok (.goto 5, 3) := by decide +kernel
theorem dM_take_21 : decode cM_take 21 = .ok (.bipush 11, 2) := by decide +kernel
theorem dM_take_23 : decode cM_take 23 = .ok (.istore 4, 2) := by decide +kernel
theorem dM_take_25 : decode cM_take 25 = .ok (.lload_n 2, 1) := by decide +kernel
theorem dM_take_26 : decode cM_take 26 = .ok (.aload_n 0, 1) := by decide +kernel
theorem dM_take_27 : decode cM_take 27 = .ok (.getfield 24, 3) := by decide +kernel
theorem dM_take_30 : decode cM_take 30 = .ok (.iconst 1, 1) := by decide +kernel
theorem dM_take_31 : decode cM_take 31 = .ok (.isub, 1) := by decide +kernel
theorem dM_take_32 : decode cM_take 32 = .ok (.lushr, 1) := by decide +kernel
theorem dM_take_33 : decode cM_take 33 = .ok (.l2i, 1) := by decide +kernel
theorem dM_take_34 : decode cM_take 34 = .ok (.iconst 1, 1) := by decide +kernel
theorem dM_take_35 : decode cM_take 35 = .ok (.iload 4, 2) := by decide +kernel
theorem dM_take_37 : decode cM_take 37 = .ok (.ishl, 1) := by decide +kernel
theorem dM_take_38 : decode cM_take 38 = .ok (.iconst 1, 1) := by decide +kernel
theorem dM_take_39 : decode cM_take 39 = .ok (.isub, 1) := by decide +kernel
theorem dM_take_40 : decode cM_take 40 = .ok (.iand, 1) := by decide +kernel
theorem dM_take_41 : decode cM_take 41 = .ok (.istore 5, 2) := by decide +kernel
theorem dM_take_43 : decode cM_take 43 = .ok (.lload_n 2, 1) := by decide +kernel
theorem dM_take_44 : decode cM_take 44 = .ok (.lconst 1, 1) := by decide +kernel
theorem dM_take_45 : decode cM_take 45 = .ok (.aload_n 0, 1) := by decide +kernel
theorem dM_take_46 : decode cM_take 46 = .ok (.getfield 24, 3) := by decide +kernel
theorem dM_take_49 : decode cM_take 49 = .ok (.iconst 1, 1) := by decide +kernel
theorem dM_take_50 : decode cM_take 50 = .ok (.isub, 1) := by decide +kernel
theorem dM_take_51 : decode cM_take 51 = .ok (.lshl, 1) := by decide +kernel
theorem dM_take_52 : decode cM_take 52 = .ok (.lconst 1, 1) := by decide +kernel
theorem dM_take_53 : decode cM_take 53 = .ok (.lsub, 1) := by decide +kernel
theorem dM_take_54 : decode cM_take 54 = .ok (.land, 1) := by decide +kernel
theorem dM_take_55 : decode cM_take 55 = .ok (.lstore 6, 2) := by decide +kernel
theorem dM_take_57 : decode cM_take 57 = .ok (.aload_n 0, 1) := by decide +kernel
theorem dM_take_58 : decode cM_take 58 = .ok (.lload_n 2, 1) := by decide +kernel
theorem dM_take_59 : decode cM_take 59 = .ok (.aload_n 0, 1) := by decide +kernel
theorem dM_take_60 : decode cM_take 60 = .ok (.getfield 24, 3) := by decide +kernel
theorem dM_take_63 : decode cM_take 63 = .ok (.iconst 1, 1) := by decide +kernel
theorem dM_take_64 : decode cM_take 64 = .ok (.isub, 1) := by decide +kernel
theorem dM_take_65 : decode cM_take 65 = .ok (.iload 4, 2) := by decide +kernel
theorem dM_take_67 : decode cM_take 67 = .ok (.iadd, 1) := by decide +kernel
theorem dM_take_68 : decode cM_take 68 = .ok (.lushr, 1) := by decide +kernel
theorem dM_take_69 : decode cM_take 69 = .ok (.l2i, 1) := by decide +kernel
theorem dM_take_70 : decode cM_take 70 = .ok (.iconst 1, 1) := by decide +kernel
theorem dM_take_71 : decode cM_take 71 = .ok (.iand, 1) := by decide +kernel
theorem dM_take_72 : decode cM_take 72 = .ok (.putfield 30, 3) := by decide +kernel
theorem dM_take_75 : decode cM_take 75 = .ok (.aload_n 0, 1) := by decide +kernel
theorem dM_take_76 : decode cM_take 76 = .ok (.iload 5, 2) := by decide +kernel
theorem dM_take_78 : decode cM_take 78 = .ok (.iconst 2, 1) := by decide +kernel
theorem dM_take_79 : decode cM_take 79 = .ok (.aload_n 0, 1) := by decide +kernel
theorem dM_take_80 : decode cM_take 80 = .ok (.getfield 27, 3) := by decide +kernel
theorem dM_take_83 : decode cM_take 83 = .ok (.imul, 1) := by decide +kernel
theorem dM_take_84 : decode cM_take 84 = .ok (.iconst 1, 1) := by decide +kernel
theorem dM_take_85 : decode cM_take 85 = .ok (.iadd, 1) := by decide +kernel
theorem dM_take_86 : decode cM_take 86 = .ok (.if_icmp .ge 7, 3) := by decide +kernel
theorem dM_take_89 : decode cM_take 89 = .ok (.iconst 2, 1) := by decide +kernel
theorem dM_take_90 : decode cM_take 90 = .ok (.goto 15, 3) := by decide +kernel
theorem dM_take_93 : decode cM_take 93 = .ok (.lload 6, 2) := by decide +kernel
theorem dM_take_95 : decode cM_take 95 = .ok (.lconst 0, 1) := by decide +kernel
theorem dM_take_96 : decode cM_take 96 = .ok (.lcmp, 1) := by decide +kernel
theorem dM_take_97 : decode cM_take 97 = .ok (.ifCond .ne 7, 3) := by decide +kernel
theorem dM_take_100 : decode cM_take 100 = .ok (.iconst 1, 1) := by decide +kernel
theorem dM_take_101 : decode cM_take 101 = .ok (.goto 4, 3) := by decide +kernel
theorem dM_take_104 : decode cM_take 104 = .ok (.iconst 0, 1) := by decide +kernel
theorem dM_take_105 : decode cM_take 105 = .ok (.putfield 33, 3) := by decide +kernel
theorem dM_take_108 : decode cM_take 108 = .ok (.aload_n 0, 1) := by decide +kernel
theorem dM_take_109 : decode cM_take 109 = .ok (.iload 5, 2) := by decide +kernel
theorem dM_take_111 : decode cM_take 111 = .ok (.ifCond .ne 8, 3) := by decide +kernel
theorem dM_take_114 : decode cM_take 114 = .ok (.lload 6, 2) := by decide +kernel
theorem dM_take_116 : decode cM_take 116 = .ok (.goto 14, 3) := by decide +kernel
theorem dM_take_119 : decode cM_take 119 = .ok (.lload 6, 2) := by decide +kernel
theorem dM_take_121 : decode cM_take 121 = .ok (.lconst 1, 1) := by decide +kernel
theorem dM_take_122 : decode cM_take 122 = .ok (.aload_n 0, 1) := by decide +kernel
theorem dM_take_123 : decode cM_take 123 = .ok (.getfield 24, 3) := by decide +kernel
theorem dM_take_126 : decode cM_take 126 = .ok (.iconst 1, 1) := by decide +kernel
theorem dM_take_127 : decode cM_take 127 = .ok (.isub, 1) := by decide +kernel
theorem dM_take_128 : decode cM_take 128 = .ok (.lshl, 1) := by decide +kernel
theorem dM_take_129 : decode cM_take 129 = .ok (.ladd, 1) := by decide +kernel
theorem dM_take_130 : decode cM_take 130 = .ok (.putfield 36, 3) := by decide +kernel
theorem dM_take_133 : decode cM_take 133 = .ok (.aload_n 0, 1) := by decide +kernel
theorem dM_take_134 : decode cM_take 134 = .ok (.iload 5, 2) := by decide +kernel
theorem dM_take_136 : decode cM_take 136 = .ok (.ifCond .ne 7, 3) := by decide +kernel
theorem dM_take_139 : decode cM_take 139 = .ok (.iconst 1, 1) := by decide +kernel
theorem dM_take_140 : decode cM_take 140 = .ok (.goto 5, 3) := by decide +kernel
theorem dM_take_143 : decode cM_take 143 = .ok (.iload 5, 2) := by decide +kernel
theorem dM_take_145 : decode cM_take 145 = .ok (.aload_n 0, 1) := by decide +kernel
theorem dM_take_146 : decode cM_take 146 = .ok (.getfield 27, 3) := by decide +kernel
theorem dM_take_149 : decode cM_take 149 = .ok (.isub, 1) := by decide +kernel
theorem dM_take_150 : decode cM_take 150 = .ok (.aload_n 0, 1) := by decide +kernel
theorem dM_take_151 : decode cM_take 151 = .ok (.getfield 24, 3) := by decide +kernel
theorem dM_take_154 : decode cM_take 154 = .ok (.iconst 1, 1) := by decide +kernel
theorem dM_take_155 : decode cM_take 155 = .ok (.isub, 1) := by decide +kernel
theorem dM_take_156 : decode cM_take 156 = .ok (.isub, 1) := by decide +kernel
theorem dM_take_157 : decode cM_take 157 = .ok (.putfield 40, 3) := by decide +kernel
theorem dM_take_160 : decode cM_take 160 = .ok (.return_, 1) := by decide +kernel
theorem dM_none_0 : decode cM_none 0 = .ok (.aload_n 0, 1) := by decide +kernel
theorem dM_none_1 : decode cM_none 1 = .ok (.iconst 0, 1) := by decide +kernel
theorem dM_none_2 : decode cM_none 2 = .ok (.iconst 2, 1) := by decide +kernel
theorem dM_none_3 : decode cM_none 3 = .ok (.aload_n 0, 1) := by decide +kernel
theorem dM_none_4 : decode cM_none 4 = .ok (.getfield 27, 3) := by decide +kernel
theorem dM_none_7 : decode cM_none 7 = .ok (.imul, 1) := by decide +kernel
theorem dM_none_8 : decode cM_none 8 = .ok (.iconst 1, 1) := by decide +kernel
theorem dM_none_9 : decode cM_none 9 = .ok (.iadd, 1) := by decide +kernel
theorem dM_none_10 : decode cM_none 10 = .ok (.i2l, 1) := by decide +kernel
theorem dM_none_11 : decode cM_none 11 = .ok (.lconst 1, 1) := by decide +kernel
theorem dM_none_12 : decode cM_none 12 = .ok (.aload_n 0, 1) := by decide +kernel
theorem dM_none_13 : decode cM_none 13 = .ok (.getfield 24, 3) := by decide +kernel
theorem dM_none_16 : decode cM_none 16 = .ok (.iconst 2, 1) := by decide +kernel
theorem dM_none_17 : decode cM_none 17 = .ok (.isub, 1) := by decide +kernel
theorem dM_none_18 : decode cM_none 18 = .ok (.lshl, 1) := by decide +kernel
theorem dM_none_19 : decode cM_none 19 = .ok (.invokevirtual 59, 3) := by decide +kernel
theorem dM_none_22 : decode cM_none 22 = .ok (.lreturn, 1) := by decide +kernel
theorem dM_made_0 : decode cM_made 0 = .ok (.iload_n 1, 1) := by decide +kernel
theorem dM_made_1 : decode cM_made 1 = .ok (.i2l, 1) := by decide +kernel
theorem dM_made_2 : decode cM_made 2 = .ok (.aload_n 0, 1) := by decide +kernel
theorem dM_made_3 : decode cM_made 3 = .ok (.getfield 24, 3) := by decide +kernel
theorem dM_made_6 : decode cM_made 6 = .ok (.aload_n 0, 1) := by decide +kernel
theorem dM_made_7 : decode cM_made 7 = .ok (.getfield 24, 3) := by decide +kernel
theorem dM_made_10 : decode cM_made 10 = .ok (.bipush 24, 2) := by decide +kernel
theorem dM_made_12 : decode cM_made 12 = .ok (.if_icmp .ne 8, 3) := by decide +kernel
theorem dM_made_15 : decode cM_made 15 = .ok (.bipush 7, 2) := by decide +kernel
theorem dM_made_17 : decode cM_made 17 = .ok (.goto 5, 3) := by decide +kernel
theorem dM_made_20 : decode cM_made 20 = .ok (.bipush 10, 2) := by decide +kernel
theorem dM_made_22 : decode cM_made 22 = .ok (.iadd, 1) := by decide +kernel
theorem dM_made_23 : decode cM_made 23 = .ok (.lshl, 1) := by decide +kernel
theorem dM_made_24 : decode cM_made 24 = .ok (.lload_n 2, 1) := by decide +kernel
theorem dM_made_25 : decode cM_made 25 = .ok (.aload_n 0, 1) := by decide +kernel
theorem dM_made_26 : decode cM_made 26 = .ok (.getfield 24, 3) := by decide +kernel
theorem dM_made_29 : decode cM_made 29 = .ok (.iconst 1, 1) := by decide +kernel
theorem dM_made_30 : decode cM_made 30 = .ok (.isub, 1) := by decide +kernel
theorem dM_made_31 : decode cM_made 31 = .ok (.lshl, 1) := by decide +kernel
theorem dM_made_32 : decode cM_made 32 = .ok (.lor, 1) := by decide +kernel
theorem dM_made_33 : decode cM_made 33 = .ok (.lload 4, 2) := by decide +kernel
theorem dM_made_35 : decode cM_made 35 = .ok (.lor, 1) := by decide +kernel
theorem dM_made_36 : decode cM_made 36 = .ok (.lreturn, 1) := by decide +kernel
theorem dM_sum_0 : decode cM_sum 0 = .ok (.aload_n 0, 1) := by decide +kernel
theorem dM_sum_1 : decode cM_sum 1 = .ok (.getfield 33, 3) := by decide +kernel
theorem dM_sum_4 : decode cM_sum 4 = .ok (.iconst 1, 1) := by decide +kernel
theorem dM_sum_5 : decode cM_sum 5 = .ok (.if_icmp .ne 35, 3) := by decide +kernel
theorem dM_sum_8 : decode cM_sum 8 = .ok (.aload_n 0, 1) := by decide +kernel
theorem dM_sum_9 : decode cM_sum 9 = .ok (.getfield 47, 3) := by decide +kernel
theorem dM_sum_12 : decode cM_sum 12 = .ok (.iconst 1, 1) := by decide +kernel
theorem dM_sum_13 : decode cM_sum 13 = .ok (.if_icmp .ne 18, 3) := by decide +kernel
theorem dM_sum_16 : decode cM_sum 16 = .ok (.aload_n 0, 1) := by decide +kernel
theorem dM_sum_17 : decode cM_sum 17 = .ok (.getfield 30, 3) := by decide +kernel
theorem dM_sum_20 : decode cM_sum 20 = .ok (.iload_n 1, 1) := by decide +kernel
theorem dM_sum_21 : decode cM_sum 21 = .ok (.if_icmp .eq 10, 3) := by decide +kernel
theorem dM_sum_24 : decode cM_sum 24 = .ok (.aload_n 0, 1) := by decide +kernel
theorem dM_sum_25 : decode cM_sum 25 = .ok (.invokevirtual 111, 3) := by decide +kernel
theorem dM_sum_28 : decode cM_sum 28 = .ok (.goto 11, 3) := by decide +kernel
theorem dM_sum_31 : decode cM_sum 31 = .ok (.aload_n 0, 1) := by decide +kernel
theorem dM_sum_32 : decode cM_sum 32 = .ok (.aload_n 0, 1) := by decide +kernel
theorem dM_sum_33 : decode cM_sum 33 = .ok (.getfield 30, 3) := by decide +kernel
theorem dM_sum_36 : decode cM_sum 36 = .ok (.invokevirtual 79, 3) := by decide +kernel
theorem dM_sum_39 : decode cM_sum 39 = .ok (.lreturn, 1) := by decide +kernel
theorem dM_sum_40 : decode cM_sum 40 = .ok (.aload_n 0, 1) := by decide +kernel
theorem dM_sum_41 : decode cM_sum 41 = .ok (.getfield 47, 3) := by decide +kernel
theorem dM_sum_44 : decode cM_sum 44 = .ok (.iconst 1, 1) := by decide +kernel
theorem dM_sum_45 : decode cM_sum 45 = .ok (.if_icmp .ne 9, 3) := by decide +kernel
theorem dM_sum_48 : decode cM_sum 48 = .ok (.aload_n 0, 1) := by decide +kernel
theorem dM_sum_49 : decode cM_sum 49 = .ok (.iload_n 1, 1) := by decide +kernel
theorem dM_sum_50 : decode cM_sum 50 = .ok (.invokevirtual 79, 3) := by decide +kernel
theorem dM_sum_53 : decode cM_sum 53 = .ok (.lreturn, 1) := by decide +kernel
theorem dM_sum_54 : decode cM_sum 54 = .ok (.aload_n 0, 1) := by decide +kernel
theorem dM_sum_55 : decode cM_sum 55 = .ok (.getfield 36, 3) := by decide +kernel
theorem dM_sum_58 : decode cM_sum 58 = .ok (.lconst 0, 1) := by decide +kernel
theorem dM_sum_59 : decode cM_sum 59 = .ok (.lcmp, 1) := by decide +kernel
theorem dM_sum_60 : decode cM_sum 60 = .ok (.ifCond .ne 44, 3) := by decide +kernel
theorem dM_sum_63 : decode cM_sum 63 = .ok (.aload_n 0, 1) := by decide +kernel
theorem dM_sum_64 : decode cM_sum 64 = .ok (.getfield 53, 3) := by decide +kernel
theorem dM_sum_67 : decode cM_sum 67 = .ok (.lconst 0, 1) := by decide +kernel
theorem dM_sum_68 : decode cM_sum 68 = .ok (.lcmp, 1) := by decide +kernel
theorem dM_sum_69 : decode cM_sum 69 = .ok (.ifCond .ne 35, 3) := by decide +kernel
theorem dM_sum_72 : decode cM_sum 72 = .ok (.aload_n 0, 1) := by decide +kernel
theorem dM_sum_73 : decode cM_sum 73 = .ok (.aload_n 0, 1) := by decide +kernel
theorem dM_sum_74 : decode cM_sum 74 = .ok (.getfield 30, 3) := by decide +kernel
theorem dM_sum_77 : decode cM_sum 77 = .ok (.iload_n 1, 1) := by decide +kernel
theorem dM_sum_78 : decode cM_sum 78 = .ok (.if_icmp .ne 7, 3) := by decide +kernel
theorem dM_sum_81 : decode cM_sum 81 = .ok (.iload_n 1, 1) := by decide +kernel
theorem dM_sum_82 : decode cM_sum 82 = .ok (.goto 16, 3) := by decide +kernel
theorem dM_sum_85 : decode cM_sum 85 = .ok (.aload_n 0, 1) := by decide +kernel
theorem dM_sum_86 : decode cM_sum 86 = .ok (.getfield 76, 3) := by decide +kernel
theorem dM_sum_89 : decode cM_sum 89 = .ok (.iconst 3, 1) := by decide +kernel
theorem dM_sum_90 : decode cM_sum 90 = .ok (.if_icmp .ne 7, 3) := by decide +kernel
theorem dM_sum_93 : decode cM_sum 93 = .ok (.iconst 1, 1) := by decide +kernel
theorem dM_sum_94 : decode cM_sum 94 = .ok (.goto 4, 3) := by decide +kernel
theorem dM_sum_97 : decode cM_sum 97 = .ok (.iconst 0, 1) := by decide +kernel
theorem dM_sum_98 : decode cM_sum 98 = .ok (.lconst 0, 1) := by decide +kernel
theorem dM_sum_99 : decode cM_sum 99 = .ok (.lconst 0, 1) := by decide +kernel
theorem dM_sum_100 : decode cM_sum 100 = .ok (.invokevirtual 59, 3) := by decide +kernel
theorem dM_sum_103 : decode cM_sum 103 = .ok (.lreturn, 1) := by decide +kernel
theorem dM_sum_104 : decode cM_sum 104 = .ok (.iconst 1, 1) := by decide +kernel
theorem dM_sum_105 : decode cM_sum 105 = .ok (.aload_n 0, 1) := by decide +kernel
theorem dM_sum_106 : decode cM_sum 106 = .ok (.getfield 27, 3) := by decide +kernel
theorem dM_sum_109 : decode cM_sum 109 = .ok (.isub, 1) := by decide +kernel
theorem dM_sum_110 : decode cM_sum 110 = .ok (.aload_n 0, 1) := by decide +kernel
theorem dM_sum_111 : decode cM_sum 111 = .ok (.getfield 24, 3) := by decide +kernel
theorem dM_sum_114 : decode cM_sum 114 = .ok (.iconst 1, 1) := by decide +kernel
theorem dM_sum_115 : decode cM_sum 115 = .ok (.isub, 1) := by decide +kernel
theorem dM_sum_116 : decode cM_sum 116 = .ok (.isub, 1) := by decide +kernel
theorem dM_sum_117 : decode cM_sum 117 = .ok (.istore_n 2, 1) := by decide +kernel
theorem dM_sum_118 : decode cM_sum 118 = .ok (.aload_n 0, 1) := by decide +kernel
theorem dM_sum_119 : decode cM_sum 119 = .ok (.invokevirtual 114, 3) := by decide +kernel
theorem dM_sum_122 : decode cM_sum 122 = .ok (.aload_n 0, 1) := by decide +kernel
theorem dM_sum_123 : decode cM_sum 123 = .ok (.aload_n 0, 1) := by decide +kernel
theorem dM_sum_124 : decode cM_sum 124 = .ok (.getfield 53, 3) := by decide +kernel
theorem dM_sum_127 : decode cM_sum 127 = .ok (.aload_n 0, 1) := by decide +kernel
theorem dM_sum_128 : decode cM_sum 128 = .ok (.getfield 56, 3) := by decide +kernel
theorem dM_sum_131 : decode cM_sum 131 = .ok (.iload_n 2, 1) := by decide +kernel
theorem dM_sum_132 : decode cM_sum 132 = .ok (.isub, 1) := by decide +kernel
theorem dM_sum_133 : decode cM_sum 133 = .ok (.invokevirtual 117, 3) := by decide +kernel
theorem dM_sum_136 : decode cM_sum 136 = .ok (.iconst 0, 1) := by decide +kernel
theorem dM_sum_137 : decode cM_sum 137 = .ok (.istore_n 3, 1) := by decide +kernel
theorem dM_sum_138 : decode cM_sum 138 = .ok (.iload_n 3, 1) := by decide +kernel
theorem dM_sum_139 : decode cM_sum 139 = .ok (.aload_n 0, 1) := by decide +kernel
theorem dM_sum_140 : decode cM_sum 140 = .ok (.getfield 7, 3) := by decide +kernel
theorem dM_sum_143 : decode cM_sum 143 = .ok (.arraylength, 1) := by decide +kernel
theorem dM_sum_144 : decode cM_sum 144 = .ok (.if_icmp .ge 21, 3) := by decide +kernel
theorem dM_sum_147 : decode cM_sum 147 = .ok (.aload_n 0, 1) := by decide +kernel
theorem dM_sum_148 : decode cM_sum 148 = .ok (.getfield 13, 3) := by decide +kernel
theorem dM_sum_151 : decode cM_sum 151 = .ok (.iload_n 3, 1) := by decide +kernel
theorem dM_sum_152 : decode cM_sum 152 = .ok (.aload_n 0, 1) := by decide +kernel
theorem dM_sum_153 : decode cM_sum 153 = .ok (.getfield 7, 3) := by decide +kernel
theorem dM_sum_156 : decode cM_sum 156 = .ok (.iload_n 3, 1) := by decide +kernel
theorem dM_sum_157 : decode cM_sum 157 = .ok (.iaload, 1) := by decide +kernel
theorem dM_sum_158 : decode cM_sum 158 = .ok (.iastore, 1) := by decide +kernel
theorem dM_sum_159 : decode cM_sum 159 = .ok (.iinc 3 1, 3) := by decide +kernel
theorem dM_sum_162 : decode cM_sum 162 = .ok (.goto (-24), 3) := by decide +kernel
theorem dM_sum_165 : decode cM_sum 165 = .ok (.aload_n 0, 1) := by decide +kernel
theorem dM_sum_166 : decode cM_sum 166 = .ok (.invokevirtual 114, 3) := by decide +kernel
theorem dM_sum_169 : decode cM_sum 169 = .ok (.aload_n 0, 1) := by decide +kernel
theorem dM_sum_170 : decode cM_sum 170 = .ok (.aload_n 0, 1) := by decide +kernel
theorem dM_sum_171 : decode cM_sum 171 = .ok (.getfield 36, 3) := by decide +kernel
theorem dM_sum_174 : decode cM_sum 174 = .ok (.aload_n 0, 1) := by decide +kernel
theorem dM_sum_175 : decode cM_sum 175 = .ok (.getfield 40, 3) := by decide +kernel
theorem dM_sum_178 : decode cM_sum 178 = .ok (.iload_n 2, 1) := by decide +kernel
theorem dM_sum_179 : decode cM_sum 179 = .ok (.isub, 1) := by decide +kernel
theorem dM_sum_180 : decode cM_sum 180 = .ok (.invokevirtual 117, 3) := by decide +kernel
theorem dM_sum_183 : decode cM_sum 183 = .ok (.aload_n 0, 1) := by decide +kernel
theorem dM_sum_184 : decode cM_sum 184 = .ok (.getfield 30, 3) := by decide +kernel
theorem dM_sum_187 : decode cM_sum 187 = .ok (.iload_n 1, 1) := by decide +kernel
theorem dM_sum_188 : decode cM_sum 188 = .ok (.if_icmp .ne 67, 3) := by decide +kernel
theorem dM_sum_191 : decode cM_sum 191 = .ok (.iconst 0, 1) := by decide +kernel
theorem dM_sum_192 : decode cM_sum 192 = .ok (.istore_n 3, 1) := by decide +kernel
theorem dM_sum_193 : decode cM_sum 193 = .ok (.iconst 0, 1) := by decide +kernel
theorem dM_sum_194 : decode cM_sum 194 = .ok (.istore 4, 2) := by decide +kernel
theorem dM_sum_196 : decode cM_sum 196 = .ok (.iload 4, 2) := by decide +kernel
theorem dM_sum_198 : decode cM_sum 198 = .ok (.aload_n 0, 1) := by decide +kernel
theorem dM_sum_199 : decode cM_sum 199 = .ok (.getfield 7, 3) := by decide +kernel
theorem dM_sum_202 : decode cM_sum 202 = .ok (.arraylength, 1) := by decide +kernel
theorem dM_sum_203 : decode cM_sum 203 = .ok (.if_icmp .ge 44, 3) := by decide +kernel
theorem dM_sum_206 : decode cM_sum 206 = .ok (.aload_n 0, 1) := by decide +kernel
theorem dM_sum_207 : decode cM_sum 207 = .ok (.getfield 7, 3) := by decide +kernel
theorem dM_sum_210 : decode cM_sum 210 = .ok (.iload 4, 2) := by decide +kernel
theorem dM_sum_212 : decode cM_sum 212 = .ok (.iaload, 1) := by decide +kernel
theorem dM_sum_213 : decode cM_sum 213 = .ok (.aload_n 0, 1) := by decide +kernel
theorem dM_sum_214 : decode cM_sum 214 = .ok (.getfield 13, 3) := by decide +kernel
theorem dM_sum_217 : decode cM_sum 217 = .ok (.iload 4, 2) := by decide +kernel
theorem dM_sum_219 : decode cM_sum 219 = .ok (.iaload, 1) := by decide +kernel
theorem dM_sum_220 : decode cM_sum 220 = .ok (.iadd, 1) := by decide +kernel
theorem dM_sum_221 : decode cM_sum 221 = .ok (.iload_n 3, 1) := by decide +kernel
theorem dM_sum_222 : decode cM_sum 222 = .ok (.iadd, 1) := by decide +kernel
theorem dM_sum_223 : decode cM_sum 223 = .ok (.istore 5, 2) := by decide +kernel
theorem dM_sum_225 : decode cM_sum 225 = .ok (.aload_n 0, 1) := by decide +kernel
theorem dM_sum_226 : decode cM_sum 226 = .ok (.getfield 7, 3) := by decide +kernel
theorem dM_sum_229 : decode cM_sum 229 = .ok (.iload 4, 2) := by decide +kernel
theorem dM_sum_231 : decode cM_sum 231 = .ok (.iload 5, 2) := by decide +kernel
theorem dM_sum_233 : decode cM_sum 233 = .ok (.iconst 1, 1) := by decide +kernel
theorem dM_sum_234 : decode cM_sum 234 = .ok (.iand, 1) := by decide +kernel
theorem dM_sum_235 : decode cM_sum 235 = .ok (.iastore, 1) := by decide +kernel
theorem dM_sum_236 : decode cM_sum 236 = .ok (.iload 5, 2) := by decide +kernel
theorem dM_sum_238 : decode cM_sum 238 = .ok (.iconst 1, 1) := by decide +kernel
theorem dM_sum_239 : decode cM_sum 239 = .ok (.ishr, 1) := by decide +kernel
theorem dM_sum_240 : decode cM_sum 240 = .ok (.istore_n 3, 1) := by decide +kernel
theorem dM_sum_241 : decode cM_sum 241 = .ok (.iinc 4 1, 3) := by decide +kernel
theorem dM_sum_244 : decode cM_sum 244 = .ok (.goto (-48), 3) := by decide +kernel
theorem dM_sum_247 : decode cM_sum 247 = .ok (.aload_n 0, 1) := by decide +kernel
theorem dM_sum_248 : decode cM_sum 248 = .ok (.iload_n 1, 1) := by decide +kernel
theorem dM_sum_249 : decode cM_sum 249 = .ok (.iload_n 2, 1) := by decide +kernel
theorem dM_sum_250 : decode cM_sum 250 = .ok (.iconst 0, 1) := by decide +kernel
theorem dM_sum_251 : decode cM_sum 251 = .ok (.invokevirtual 121, 3) := by decide +kernel
theorem dM_sum_254 : decode cM_sum 254 = .ok (.lreturn, 1) := by decide +kernel
theorem dM_sum_255 : decode cM_sum 255 = .ok (.iconst 0, 1) := by decide +kernel
theorem dM_sum_256 : decode cM_sum 256 = .ok (.istore_n 3, 1) := by decide +kernel
theorem dM_sum_257 : decode cM_sum 257 = .ok (.aload_n 0, 1) := by decide +kernel
theorem dM_sum_258 : decode cM_sum 258 = .ok (.getfield 7, 3) := by decide +kernel
theorem dM_sum_261 : decode cM_sum 261 = .ok (.arraylength, 1) := by decide +kernel
theorem dM_sum_262 : decode cM_sum 262 = .ok (.iconst 1, 1) := by decide +kernel
theorem dM_sum_263 : decode cM_sum 263 = .ok (.isub, 1) := by decide +kernel
theorem dM_sum_264 : decode cM_sum 264 = .ok (.istore 4, 2) := by decide +kernel
theorem dM_sum_266 : decode cM_sum 266 = .ok (.iload 4, 2) := by decide +kernel
theorem dM_sum_268 : decode cM_sum 268 = .ok (.ifCond .lt 29, 3) := by decide +kernel
theorem dM_sum_271 : decode cM_sum 271 = .ok (.iload_n 3, 1) := by decide +kernel
theorem dM_sum_272 : decode cM_sum 272 = .ok (.ifCond .ne 25, 3) := by decide +kernel
theorem dM_sum_275 : decode cM_sum 275 = .ok (.aload_n 0, 1) := by decide +kernel
theorem dM_sum_276 : decode cM_sum 276 = .ok (.getfield 7, 3) := by decide +kernel
theorem dM_sum_279 : decode cM_sum 279 = .ok (.iload 4, 2) := by decide +kernel
theorem dM_sum_281 : decode cM_sum 281 = .ok (.iaload, 1) := by decide +kernel
theorem dM_sum_282 : decode cM_sum 282 = .ok (.aload_n 0, 1) := by decide +kernel
theorem dM_sum_283 : decode cM_sum 283 = .ok (.getfield 13, 3) := by decide +kernel
theorem dM_sum_286 : decode cM_sum 286 = .ok (.iload 4, 2) := by decide +kernel
theorem dM_sum_288 : decode cM_sum 288 = .ok (.iaload, 1) := by decide +kernel
theorem dM_sum_289 : decode cM_sum 289 = .ok (.isub, 1) := by decide +kernel
theorem dM_sum_290 : decode cM_sum 290 = .ok (.istore_n 3, 1) := by decide +kernel
theorem dM_sum_291 : decode cM_sum 291 = .ok (.iinc 4 (-1), 3) := by decide +kernel
theorem dM_sum_294 : decode cM_sum 294 = .ok (.goto (-28), 3) := by decide +kernel
theorem dM_sum_297 : decode cM_sum 297 = .ok (.iload_n 3, 1) := by decide +kernel
theorem dM_sum_298 : decode cM_sum 298 = .ok (.ifCond .ne 23, 3) := by decide +kernel
theorem dM_sum_301 : decode cM_sum 301 = .ok (.aload_n 0, 1) := by decide +kernel
theorem dM_sum_302 : decode cM_sum 302 = .ok (.aload_n 0, 1) := by decide +kernel
theorem dM_sum_303 : decode cM_sum 303 = .ok (.getfield 76, 3) := by decide +kernel
theorem dM_sum_306 : decode cM_sum 306 = .ok (.iconst 3, 1) := by decide +kernel
theorem dM_sum_307 : decode cM_sum 307 = .ok (.if_icmp .ne 7, 3) := by decide +kernel
theorem dM_sum_310 : decode cM_sum 310 = .ok (.iconst 1, 1) := by decide +kernel
theorem dM_sum_311 : decode cM_sum 311 = .ok (.goto 4, 3) := by decide +kernel
theorem dM_sum_314 : decode cM_sum 314 = .ok (.iconst 0, 1) := by decide +kernel
theorem dM_sum_315 : decode cM_sum 315 = .ok (.lconst 0, 1) := by decide +kernel
theorem dM_sum_316 : decode cM_sum 316 = .ok (.lconst 0, 1) := by decide +kernel
theorem dM_sum_317 : decode cM_sum 317 = .ok (.invokevirtual 59, 3) := by decide +kernel
theorem dM_sum_320 : decode cM_sum 320 = .ok (.lreturn, 1) := by decide +kernel
theorem dM_sum_321 : decode cM_sum 321 = .ok (.iconst 0, 1) := by decide +kernel
theorem dM_sum_322 : decode cM_sum 322 = .ok (.istore 4, 2) := by decide +kernel
theorem dM_sum_324 : decode cM_sum 324 = .ok (.iconst 0, 1) := by decide +kernel
theorem dM_sum_325 : decode cM_sum 325 = .ok (.istore 5, 2) := by decide +kernel
theorem dM_sum_327 : decode cM_sum 327 = .ok (.iload 5, 2) := by decide +kernel
theorem dM_sum_329 : decode cM_sum 329 = .ok (.aload_n 0, 1) := by decide +kernel
theorem dM_sum_330 : decode cM_sum 330 = .ok (.getfield 7, 3) := by decide +kernel
theorem dM_sum_333 : decode cM_sum 333 = .ok (.arraylength, 1) := by decide +kernel
theorem dM_sum_334 : decode cM_sum 334 = .ok (.if_icmp .ge 77, 3) := by decide +kernel
theorem dM_sum_337 : decode cM_sum 337 = .ok (.iload_n 3, 1) := by decide +kernel
theorem dM_sum_338 : decode cM_sum 338 = .ok (.ifCond .le 24, 3) := by decide +kernel
theorem dM_sum_341 : decode cM_sum 341 = .ok (.aload_n 0, 1) := by decide +kernel
theorem dM_sum_342 : decode cM_sum 342 = .ok (.getfield 7, 3) := by decide +kernel
theorem dM_sum_345 : decode cM_sum 345 = .ok (.iload 5, 2) := by decide +kernel
theorem dM_sum_347 : decode cM_sum 347 = .ok (.iaload, 1) := by decide +kernel
theorem dM_sum_348 : decode cM_sum 348 = .ok (.aload_n 0, 1) := by decide +kernel
theorem dM_sum_349 : decode cM_sum 349 = .ok (.getfield 13, 3) := by decide +kernel
theorem dM_sum_352 : decode cM_sum 352 = .ok (.iload 5, 2) := by decide +kernel
theorem dM_sum_354 : decode cM_sum 354 = .ok (.iaload, 1) := by decide +kernel
theorem dM_sum_355 : decode cM_sum 355 = .ok (.isub, 1) := by decide +kernel
theorem dM_sum_356 : decode cM_sum 356 = .ok (.iload 4, 2) := by decide +kernel
theorem dM_sum_358 : decode cM_sum 358 = .ok (.isub, 1) := by decide +kernel
theorem dM_sum_359 : decode cM_sum 359 = .ok (.goto 21, 3) := by decide +kernel
theorem dM_sum_362 : decode cM_sum 362 = .ok (.aload_n 0, 1) := by decide +kernel
theorem dM_sum_363 : decode cM_sum 363 = .ok (.getfield 13, 3) := by decide +kernel
theorem dM_sum_366 : decode cM_sum 366 = .ok (.iload 5, 2) := by decide +kernel
theorem dM_sum_368 : decode cM_sum 368 = .ok (.iaload, 1) := by decide +kernel
theorem dM_sum_369 : decode cM_sum 369 = .ok (.aload_n 0, 1) := by decide +kernel
theorem dM_sum_370 : decode cM_sum 370 = .ok (.getfield 7, 3) := by decide +kernel
theorem dM_sum_373 : decode cM_sum 373 = .ok (.iload 5, 2) := by decide +kernel
theorem dM_sum_375 : decode cM_sum 375 = .ok (.iaload, 1) := by decide +kernel
theorem dM_sum_376 : decode cM_sum 376 = .ok (.isub, 1) := by decide +kernel
theorem dM_sum_377 : decode cM_sum 377 = .ok (.iload 4, 2) := by decide +kernel
theorem dM_sum_379 : decode cM_sum 379 = .ok (.isub, 1) := by decide +kernel
theorem dM_sum_380 : decode cM_sum 380 = .ok (.istore 6, 2) := by decide +kernel
theorem dM_sum_382 : decode cM_sum 382 = .ok (.iload 6, 2) := by decide +kernel
theorem dM_sum_384 : decode cM_sum 384 = .ok (.ifCond .ge 7, 3) := by decide +kernel
theorem dM_sum_387 : decode cM_sum 387 = .ok (.iconst 1, 1) := by decide +kernel
theorem dM_sum_388 : decode cM_sum 388 = .ok (.goto 4, 3) := by decide +kernel
theorem dM_sum_391 : decode cM_sum 391 = .ok (.iconst 0, 1) := by decide +kernel
theorem dM_sum_392 : decode cM_sum 392 = .ok (.istore 4, 2) := by decide +kernel
theorem dM_sum_394 : decode cM_sum 394 = .ok (.aload_n 0, 1) := by decide +kernel
theorem dM_sum_395 : decode cM_sum 395 = .ok (.getfield 7, 3) := by decide +kernel
theorem dM_sum_398 : decode cM_sum 398 = .ok (.iload 5, 2) := by decide +kernel
theorem dM_sum_400 : decode cM_sum 400 = .ok (.iload 6, 2) := by decide +kernel
theorem dM_sum_402 : decode cM_sum 402 = .ok (.iconst 1, 1) := by decide +kernel
theorem dM_sum_403 : decode cM_sum 403 = .ok (.iand, 1) := by decide +kernel
theorem dM_sum_404 : decode cM_sum 404 = .ok (.iastore, 1) := by decide +kernel
theorem dM_sum_405 : decode cM_sum 405 = .ok (.iinc 5 1, 3) := by decide +kernel
theorem dM_sum_408 : decode cM_sum 408 = .ok (.goto (-81), 3) := by decide +kernel
theorem dM_sum_411 : decode cM_sum 411 = .ok (.aload_n 0, 1) := by decide +kernel
theorem dM_sum_412 : decode cM_sum 412 = .ok (.iload_n 3, 1) := by decide +kernel
theorem dM_sum_413 : decode cM_sum 413 = .ok (.ifCond .le 10, 3) := by decide +kernel
theorem dM_sum_416 : decode cM_sum 416 = .ok (.aload_n 0, 1) := by decide +kernel
theorem dM_sum_417 : decode cM_sum 417 = .ok (.getfield 30, 3) := by decide +kernel
theorem dM_sum_420 : decode cM_sum 420 = .ok (.goto 4, 3) := by decide +kernel
theorem dM_sum_423 : decode cM_sum 423 = .ok (.iload_n 1, 1) := by decide +kernel
theorem dM_sum_424 : decode cM_sum 424 = .ok (.iload_n 2, 1) := by decide +kernel
theorem dM_sum_425 : decode cM_sum 425 = .ok (.iconst 0, 1) := by decide +kernel
theorem dM_sum_426 : decode cM_sum 426 = .ok (.invokevirtual 121, 3) := by decide +kernel
theorem dM_sum_429 : decode cM_sum 429 = .ok (.lreturn, 1) := by decide +kernel
theorem dM_invalid_0 : decode cM_invalid 0 = .ok (.aload_n 0, 1) := by decide +kernel
theorem dM_invalid_1 : decode cM_invalid 1 = .ok (.dup, 1) := by decide +kernel
theorem dM_invalid_2 : decode cM_invalid 2 = .ok (.getfield 63, 3) := by decide +kernel
theorem dM_invalid_5 : decode cM_invalid 5 = .ok (.bipush 16, 2) := by decide +kernel
theorem dM_invalid_7 : decode cM_invalid 7 = .ok (.ior, 1) := by decide +kernel
theorem dM_invalid_8 : decode cM_invalid 8 = .ok (.putfield 63, 3) := by decide +kernel
theorem dM_invalid_11 : decode cM_invalid 11 = .ok (.aload_n 0, 1) := by decide +kernel
theorem dM_invalid_12 : decode cM_invalid 12 = .ok (.invokevirtual 66, 3) := by decide +kernel
theorem dM_invalid_15 : decode cM_invalid 15 = .ok (.lreturn, 1) := by decide +kernel
theorem dM_endless_0 : decode cM_endless 0 = .ok (.aload_n 0, 1) := by decide +kernel
theorem dM_endless_1 : decode cM_endless 1 = .ok (.iload_n 1, 1) := by decide +kernel
theorem dM_endless_2 : decode cM_endless 2 = .ok (.iconst 2, 1) := by decide +kernel
theorem dM_endless_3 : decode cM_endless 3 = .ok (.aload_n 0, 1) := by decide +kernel
theorem dM_endless_4 : decode cM_endless 4 = .ok (.getfield 27, 3) := by decide +kernel
theorem dM_endless_7 : decode cM_endless 7 = .ok (.imul, 1) := by decide +kernel
theorem dM_endless_8 : decode cM_endless 8 = .ok (.iconst 1, 1) := by decide +kernel
theorem dM_endless_9 : decode cM_endless 9 = .ok (.iadd, 1) := by decide +kernel
theorem dM_endless_10 : decode cM_endless 10 = .ok (.i2l, 1) := by decide +kernel
theorem dM_endless_11 : decode cM_endless 11 = .ok (.lconst 0, 1) := by decide +kernel
theorem dM_endless_12 : decode cM_endless 12 = .ok (.invokevirtual 59, 3) := by decide +kernel
theorem dM_endless_15 : decode cM_endless 15 = .ok (.lreturn, 1) := by decide +kernel
theorem dM_clear_0 : decode cM_clear 0 = .ok (.iconst 0, 1) := by decide +kernel
theorem dM_clear_1 : decode cM_clear 1 = .ok (.istore_n 1, 1) := by decide +kernel
theorem dM_clear_2 : decode cM_clear 2 = .ok (.iload_n 1, 1) := by decide +kernel
theorem dM_clear_3 : decode cM_clear 3 = .ok (.aload_n 0, 1) := by decide +kernel
theorem dM_clear_4 : decode cM_clear 4 = .ok (.getfield 7, 3) := by decide +kernel
theorem dM_clear_7 : decode cM_clear 7 = .ok (.arraylength, 1) := by decide +kernel
theorem dM_clear_8 : decode cM_clear 8 = .ok (.if_icmp .ge 16, 3) := by decide +kernel
theorem dM_clear_11 : decode cM_clear 11 = .ok (.aload_n 0, 1) := by decide +kernel
theorem dM_clear_12 : decode cM_clear 12 = .ok (.getfield 7, 3) := by decide +kernel
theorem dM_clear_15 : decode cM_clear 15 = .ok (.iload_n 1, 1) := by decide +kernel
theorem dM_clear_16 : decode cM_clear 16 = .ok (.iconst 0, 1) := by decide +kernel
theorem dM_clear_17 : decode cM_clear 17 = .ok (.iastore, 1) := by decide +kernel
theorem dM_clear_18 : decode cM_clear 18 = .ok (.iinc 1 1, 3) := by decide +kernel
theorem dM_clear_21 : decode cM_clear 21 = .ok (.goto (-19), 3) := by decide +kernel
theorem dM_clear_24 : decode cM_clear 24 = .ok (.return_, 1) := by decide +kernel
theorem dM_lay_0 : decode cM_lay 0 = .ok (.iconst 0, 1) := by decide +kernel
theorem dM_lay_1 : decode cM_lay 1 = .ok (.istore 4, 2) := by decide +kernel
theorem dM_lay_3 : decode cM_lay 3 = .ok (.iload 4, 2) := by decide +kernel
theorem dM_lay_5 : decode cM_lay 5 = .ok (.bipush 64, 2) := by decide +kernel
theorem dM_lay_7 : decode cM_lay 7 = .ok (.if_icmp .ge 30, 3) := by decide +kernel
theorem dM_lay_10 : decode cM_lay 10 = .ok (.lload_n 1, 1) := by decide +kernel
theorem dM_lay_11 : decode cM_lay 11 = .ok (.iload 4, 2) := by decide +kernel
theorem dM_lay_13 : decode cM_lay 13 = .ok (.lushr, 1) := by decide +kernel
theorem dM_lay_14 : decode cM_lay 14 = .ok (.lconst 1, 1) := by decide +kernel
theorem dM_lay_15 : decode cM_lay 15 = .ok (.land, 1) := by decide +kernel
theorem dM_lay_16 : decode cM_lay 16 = .ok (.lconst 1, 1) := by decide +kernel
theorem dM_lay_17 : decode cM_lay 17 = .ok (.lcmp, 1) := by decide +kernel
theorem dM_lay_18 : decode cM_lay 18 = .ok (.ifCond .ne 13, 3) := by decide +kernel
theorem dM_lay_21 : decode cM_lay 21 = .ok (.aload_n 0, 1) := by decide +kernel
theorem dM_lay_22 : decode cM_lay 22 = .ok (.getfield 7, 3) := by decide +kernel
theorem dM_lay_25 : decode cM_lay 25 = .ok (.iload_n 3, 1) := by decide +kernel
theorem dM_lay_26 : decode cM_lay 26 = .ok (.iload 4, 2) := by decide +kernel
theorem dM_lay_28 : decode cM_lay 28 = .ok (.iadd, 1) := by decide +kernel
theorem dM_lay_29 : decode cM_lay 29 = .ok (.iconst 1, 1) := by decide +kernel
theorem dM_lay_30 : decode cM_lay 30 = .ok (.iastore, 1) := by decide +kernel
theorem dM_lay_31 : decode cM_lay 31 = .ok (.iinc 4 1, 3) := by decide +kernel
theorem dM_lay_34 : decode cM_lay 34 = .ok (.goto (-31), 3) := by decide +kernel
theorem dM_lay_37 : decode cM_lay 37 = .ok (.return_, 1) := by decide +kernel
theorem dM_rounded_0 : decode cM_rounded 0 = .ok (.aload_n 0, 1) := by decide +kernel
theorem dM_rounded_1 : decode cM_rounded 1 = .ok (.invokevirtual 70, 3) := by decide +kernel
theorem dM_rounded_4 : decode cM_rounded 4 = .ok (.istore 4, 2) := by decide +kernel
theorem dM_rounded_6 : decode cM_rounded 6 = .ok (.iconst 1, 1) := by decide +kernel
theorem dM_rounded_7 : decode cM_rounded 7 = .ok (.aload_n 0, 1) := by decide +kernel
theorem dM_rounded_8 : decode cM_rounded 8 = .ok (.getfield 27, 3) := by decide +kernel
theorem dM_rounded_11 : decode cM_rounded 11 = .ok (.isub, 1) := by decide +kernel
theorem dM_rounded_12 : decode cM_rounded 12 = .ok (.aload_n 0, 1) := by decide +kernel
theorem dM_rounded_13 : decode cM_rounded 13 = .ok (.getfield 24, 3) := by decide +kernel
theorem dM_rounded_16 : decode cM_rounded 16 = .ok (.iconst 1, 1) := by decide +kernel
theorem dM_rounded_17 : decode cM_rounded 17 = .ok (.isub, 1) := by decide +kernel
theorem dM_rounded_18 : decode cM_rounded 18 = .ok (.isub, 1) := by decide +kernel
theorem dM_rounded_19 : decode cM_rounded 19 = .ok (.iload_n 2, 1) := by decide +kernel
theorem dM_rounded_20 : decode cM_rounded 20 = .ok (.isub, 1) := by decide +kernel
theorem dM_rounded_21 : decode cM_rounded 21 = .ok (.istore 5, 2) := by decide +kernel
theorem dM_rounded_23 : decode cM_rounded 23 = .ok (.iload 4, 2) := by decide +kernel
theorem dM_rounded_25 : decode cM_rounded 25 = .ok (.aload_n 0, 1) := by decide +kernel
theorem dM_rounded_26 : decode cM_rounded 26 = .ok (.getfield 24, 3) := by decide +kernel
theorem dM_rounded_29 : decode cM_rounded 29 = .ok (.iconst 1, 1) := by decide +kernel
theorem dM_rounded_30 : decode cM_rounded 30 = .ok (.isub, 1) := by decide +kernel
theorem dM_rounded_31 : decode cM_rounded 31 = .ok (.isub, 1) := by decide +kernel
theorem dM_rounded_32 : decode cM_rounded 32 = .ok (.istore 6, 2) := by decide +kernel
theorem dM_rounded_34 : decode cM_rounded 34 = .ok (.iload 6, 2) := by decide +kernel
theorem dM_rounded_36 : decode cM_rounded 36 = .ok (.iload 5, 2) := by decide +kernel
theorem dM_rounded_38 : decode cM_rounded 38 = .ok (.if_icmp .ge 7, 3) := by decide +kernel
theorem dM_rounded_41 : decode cM_rounded 41 = .ok (.iload 5, 2) := by decide +kernel
theorem dM_rounded_43 : decode cM_rounded 43 = .ok (.istore 6, 2) := by decide +kernel
theorem dM_rounded_45 : decode cM_rounded 45 = .ok (.lconst 0, 1) := by decide +kernel
theorem dM_rounded_46 : decode cM_rounded 46 = .ok (.lstore 7, 2) := by decide +kernel
theorem dM_rounded_48 : decode cM_rounded 48 = .ok (.iload 4, 2) := by decide +kernel
theorem dM_rounded_50 : decode cM_rounded 50 = .ok (.istore 9, 2) := by decide +kernel
theorem dM_rounded_52 : decode cM_rounded 52 = .ok (.iload 9, 2) := by decide +kernel
theorem dM_rounded_54 : decode cM_rounded 54 = .ok (.iload 6, 2) := by decide +kernel
theorem dM_rounded_56 : decode cM_rounded 56 = .ok (.if_icmp .lt 35, 3) := by decide +kernel
theorem dM_rounded_59 : decode cM_rounded 59 = .ok (.ldc2_w 74, 3) := by decide +kernel
theorem dM_rounded_62 : decode cM_rounded 62 = .ok (.lload 7, 2) := by decide +kernel
theorem dM_rounded_64 : decode cM_rounded 64 = .ok (.lmul, 1) := by decide +kernel
theorem dM_rounded_65 : decode cM_rounded 65 = .ok (.iload 9, 2) := by decide +kernel
theorem dM_rounded_67 : decode cM_rounded 67 = .ok (.ifCond .lt 13, 3) := by decide +kernel
theorem dM_rounded_70 : decode cM_rounded 70 = .ok (.aload_n 0, 1) := by decide +kernel
theorem dM_rounded_71 : decode cM_rounded 71 = .ok (.getfield 7, 3) := by decide +kernel
theorem dM_rounded_74 : decode cM_rounded 74 = .ok (.iload 9, 2) := by decide +kernel
theorem dM_rounded_76 : decode cM_rounded 76 = .ok (.iaload, 1) := by decide +kernel
theorem dM_rounded_77 : decode cM_rounded 77 = .ok (.goto 4, 3) := by decide +kernel
theorem dM_rounded_80 : decode cM_rounded 80 = .ok (.iconst 0, 1) := by decide +kernel
theorem dM_rounded_81 : decode cM_rounded 81 = .ok (.i2l, 1) := by decide +kernel
theorem dM_rounded_82 : decode cM_rounded 82 = .ok (.ladd, 1) := by decide +kernel
theorem dM_rounded_83 : decode cM_rounded 83 = .ok (.lstore 7, 2) := by decide +kernel
theorem dM_rounded_85 : decode cM_rounded 85 = .ok (.iinc 9 (-1), 3) := by decide +kernel
theorem dM_rounded_88 : decode cM_rounded 88 = .ok (.goto (-36), 3) := by decide +kernel
theorem dM_rounded_91 : decode cM_rounded 91 = .ok (.iload 6, 2) := by decide +kernel
theorem dM_rounded_93 : decode cM_rounded 93 = .ok (.ifCond .le 24, 3) := by decide +kernel
theorem dM_rounded_96 : decode cM_rounded 96 = .ok (.iload 6, 2) := by decide +kernel
theorem dM_rounded_98 : decode cM_rounded 98 = .ok (.iconst 1, 1) := by decide +kernel
theorem dM_rounded_99 : decode cM_rounded 99 = .ok (.isub, 1) := by decide +kernel
theorem dM_rounded_100 : decode cM_rounded 100 = .ok (.iload 4, 2) := by decide +kernel
theorem dM_rounded_102 : decode cM_rounded 102 = .ok (.if_icmp .gt 15, 3) := by decide +kernel
theorem dM_rounded_105 : decode cM_rounded 105 = .ok (.aload_n 0, 1) := by decide +kernel
theorem dM_rounded_106 : decode cM_rounded 106 = .ok (.getfield 7, 3) := by decide +kernel
theorem dM_rounded_109 : decode cM_rounded 109 = .ok (.iload 6, 2) := by decide +kernel
theorem dM_rounded_111 : decode cM_rounded 111 = .ok (.iconst 1, 1) := by decide +kernel
theorem dM_rounded_112 : decode cM_rounded 112 = .ok (.isub, 1) := by decide +kernel
theorem dM_rounded_113 : decode cM_rounded 113 = .ok (.iaload, 1) := by decide +kernel
theorem dM_rounded_114 : decode cM_rounded 114 = .ok (.goto 4, 3) := by decide +kernel
theorem dM_rounded_117 : decode cM_rounded 117 = .ok (.iconst 0, 1) := by decide +kernel
theorem dM_rounded_118 : decode cM_rounded 118 = .ok (.istore 9, 2) := by decide +kernel
theorem dM_rounded_120 : decode cM_rounded 120 = .ok (.iload_n 3, 1) := by decide +kernel
theorem dM_rounded_121 : decode cM_rounded 121 = .ok (.istore 10, 2) := by decide +kernel
theorem dM_rounded_123 : decode cM_rounded 123 = .ok (.iconst 0, 1) := by decide +kernel
theorem dM_rounded_124 : decode cM_rounded 124 = .ok (.istore 11, 2) := by decide +kernel
theorem dM_rounded_126 : decode cM_rounded 126 = .ok (.iload 11, 2) := by decide +kernel
theorem dM_rounded_128 : decode cM_rounded 128 = .ok (.iload 6, 2) := by decide +kernel
theorem dM_rounded_130 : decode cM_rounded 130 = .ok (.iconst 1, 1) := by decide +kernel
theorem dM_rounded_131 : decode cM_rounded 131 = .ok (.isub, 1) := by decide +kernel
theorem dM_rounded_132 : decode cM_rounded 132 = .ok (.if_icmp .ge 30, 3) := by decide +kernel
theorem dM_rounded_135 : decode cM_rounded 135 = .ok (.iload 11, 2) := by decide +kernel
theorem dM_rounded_137 : decode cM_rounded 137 = .ok (.iload 4, 2) := by decide +kernel
theorem dM_rounded_139 : decode cM_rounded 139 = .ok (.if_icmp .gt 23, 3) := by decide +kernel
theorem dM_rounded_142 : decode cM_rounded 142 = .ok (.aload_n 0, 1) := by decide +kernel
theorem dM_rounded_143 : decode cM_rounded 143 = .ok (.getfield 7, 3) := by decide +kernel
theorem dM_rounded_146 : decode cM_rounded 146 = .ok (.iload 11, 2) := by decide +kernel
theorem dM_rounded_148 : decode cM_rounded 148 = .ok (.iaload, 1) := by decide +kernel
theorem dM_rounded_149 : decode cM_rounded 149 = .ok (.iconst 1, 1) := by decide +kernel
theorem dM_rounded_150 : decode cM_rounded 150 = .ok (.if_icmp .ne 6, 3) := by decide +kernel
theorem dM_rounded_153 : decode cM_rounded 153 = .ok (.iconst 1, 1) := by decide +kernel
theorem dM_rounded_154 : decode cM_rounded 154 = .ok (.istore 10, 2) := by decide +kernel
theorem dM_rounded_156 : decode cM_rounded 156 = .ok (.iinc 11 1, 3) := by decide +kernel
theorem dM_rounded_159 : decode cM_rounded 159 = .ok (.goto (-33), 3) := by decide +kernel
theorem dM_rounded_162 : decode cM_rounded 162 = .ok (.iload 9, 2) := by decide +kernel
theorem dM_rounded_164 : decode cM_rounded 164 = .ok (.ifCond .ne 12, 3) := by decide +kernel
theorem dM_rounded_167 : decode cM_rounded 167 = .ok (.iload 10, 2) := by decide +kernel
theorem dM_rounded_169 : decode cM_rounded 169 = .ok (.ifCond .ne 7, 3) := by decide +kernel
theorem dM_rounded_172 : decode cM_rounded 172 = .ok (.iconst 1, 1) := by decide +kernel
theorem dM_rounded_173 : decode cM_rounded 173 = .ok (.goto 4, 3) := by decide +kernel
theorem dM_rounded_176 : decode cM_rounded 176 = .ok (.iconst 0, 1) := by decide +kernel
theorem dM_rounded_177 : decode cM_rounded 177 = .ok (.istore 11, 2) := by decide +kernel
theorem dM_rounded_179 : decode cM_rounded 179 = .ok (.iconst 0, 1) := by decide +kernel
theorem dM_rounded_180 : decode cM_rounded 180 = .ok (.istore 12, 2) := by decide +kernel
theorem dM_rounded_182 : decode cM_rounded 182 = .ok (.aload_n 0, 1) := by decide +kernel
theorem dM_rounded_183 : decode cM_rounded 183 = .ok (.getfield 76, 3) := by decide +kernel
theorem dM_rounded_186 : decode cM_rounded 186 = .ok (.ifCond .ne 30, 3) := by decide +kernel
theorem dM_rounded_189 : decode cM_rounded 189 = .ok (.iload 9, 2) := by decide +kernel
theorem dM_rounded_191 : decode cM_rounded 191 = .ok (.iconst 1, 1) := by decide +kernel
theorem dM_rounded_192 : decode cM_rounded 192 = .ok (.if_icmp .ne 21, 3) := by decide +kernel
theorem dM_rounded_195 : decode cM_rounded 195 = .ok (.iload 10, 2) := by decide +kernel
theorem dM_rounded_197 : decode cM_rounded 197 = .ok (.ifCond .ne 12, 3) := by decide +kernel
theorem dM_rounded_200 : decode cM_rounded 200 = .ok (.lload 7, 2) := by decide +kernel
theorem dM_rounded_202 : decode cM_rounded 202 = .ok (.lconst 1, 1) := by decide +kernel
theorem dM_rounded_203 : decode cM_rounded 203 = .ok (.land, 1) := by decide +kernel
theorem dM_rounded_204 : decode cM_rounded 204 = .ok (.lconst 1, 1) := by decide +kernel
theorem dM_rounded_205 : decode cM_rounded 205 = .ok (.lcmp, 1) := by decide +kernel
theorem dM_rounded_206 : decode cM_rounded 206 = .ok (.ifCond .ne 7, 3) := by decide +kernel
theorem dM_rounded_209 : decode cM_rounded 209 = .ok (.iconst 1, 1) := by decide +kernel
theorem dM_rounded_210 : decode cM_rounded 210 = .ok (.goto 4, 3) := by decide +kernel
theorem dM_rounded_213 : decode cM_rounded 213 = .ok (.iconst 0, 1) := by decide +kernel
theorem dM_rounded_214 : decode cM_rounded 214 = .ok (.istore 12, 2) := by decide +kernel
theorem dM_rounded_216 : decode cM_rounded 216 = .ok (.aload_n 0, 1) := by decide +kernel
theorem dM_rounded_217 : decode cM_rounded 217 = .ok (.getfield 76, 3) := by decide +kernel
theorem dM_rounded_220 : decode cM_rounded 220 = .ok (.iconst 2, 1) := by decide +kernel
theorem dM_rounded_221 : decode cM_rounded 221 = .ok (.if_icmp .ne 19, 3) := by decide +kernel
theorem dM_rounded_224 : decode cM_rounded 224 = .ok (.iload 11, 2) := by decide +kernel
theorem dM_rounded_226 : decode cM_rounded 226 = .ok (.ifCond .ne 11, 3) := by decide +kernel
theorem dM_rounded_229 : decode cM_rounded 229 = .ok (.iload_n 1, 1) := by decide +kernel
theorem dM_rounded_230 : decode cM_rounded 230 = .ok (.ifCond .ne 7, 3) := by decide +kernel
theorem dM_rounded_233 : decode cM_rounded 233 = .ok (.iconst 1, 1) := by decide +kernel
theorem dM_rounded_234 : decode cM_rounded 234 = .ok (.goto 4, 3) := by decide +kernel
theorem dM_rounded_237 : decode cM_rounded 237 = .ok (.iconst 0, 1) := by decide +kernel
theorem dM_rounded_238 : decode cM_rounded 238 = .ok (.istore 12, 2) := by decide +kernel
theorem dM_rounded_240 : decode cM_rounded 240 = .ok (.aload_n 0, 1) := by decide +kernel
theorem dM_rounded_241 : decode cM_rounded 241 = .ok (.getfield 76, 3) := by decide +kernel
theorem dM_rounded_244 : decode cM_rounded 244 = .ok (.iconst 3, 1) := by decide +kernel
theorem dM_rounded_245 : decode cM_rounded 245 = .ok (.if_icmp .ne 20, 3) := by decide +kernel
theorem dM_rounded_248 : decode cM_rounded 248 = .ok (.iload 11, 2) := by decide +kernel
theorem dM_rounded_250 : decode cM_rounded 250 = .ok (.ifCond .ne 12, 3) := by decide +kernel
theorem dM_rounded_253 : decode cM_rounded 253 = .ok (.iload_n 1, 1) := by decide +kernel
theorem dM_rounded_254 : decode cM_rounded 254 = .ok (.iconst 1, 1) := by decide +kernel
theorem dM_rounded_255 : decode cM_rounded 255 = .ok (.if_icmp .ne 7, 3) := by decide +kernel
theorem dM_rounded_258 : decode cM_rounded 258 = .ok (.iconst 1, 1) := by decide +kernel
theorem dM_rounded_259 : decode cM_rounded 259 = .ok (.goto 4, 3) := by decide +kernel
theorem dM_rounded_262 : decode cM_rounded 262 = .ok (.iconst 0, 1) := by decide +kernel
theorem dM_rounded_263 : decode cM_rounded 263 = .ok (.istore 12, 2) := by decide +kernel
theorem dM_rounded_265 : decode cM_rounded 265 = .ok (.iload 12, 2) := by decide +kernel
theorem dM_rounded_267 : decode cM_rounded 267 = .ok (.ifCond .eq 9, 3) := by decide +kernel
theorem dM_rounded_270 : decode cM_rounded 270 = .ok (.lload 7, 2) := by decide +kernel
theorem dM_rounded_272 : decode cM_rounded 272 = .ok (.lconst 1, 1) := by decide +kernel
theorem dM_rounded_273 : decode cM_rounded 273 = .ok (.ladd, 1) := by decide +kernel
theorem dM_rounded_274 : decode cM_rounded 274 = .ok (.lstore 7, 2) := by decide +kernel
theorem dM_rounded_276 : decode cM_rounded 276 = .ok (.iload 6, 2) := by decide +kernel
theorem dM_rounded_278 : decode cM_rounded 278 = .ok (.iload_n 2, 1) := by decide +kernel
theorem dM_rounded_279 : decode cM_rounded 279 = .ok (.iadd, 1) := by decide +kernel
theorem dM_rounded_280 : decode cM_rounded 280 = .ok (.istore 13, 2) := by decide +kernel
theorem dM_rounded_282 : decode cM_rounded 282 = .ok (.lload 7, 2) := by decide +kernel
theorem dM_rounded_284 : decode cM_rounded 284 = .ok (.lconst 1, 1) := by decide +kernel
theorem dM_rounded_285 : decode cM_rounded 285 = .ok (.aload_n 0, 1) := by decide +kernel
theorem dM_rounded_286 : decode cM_rounded 286 = .ok (.getfield 24, 3) := by decide +kernel
theorem dM_rounded_289 : decode cM_rounded 289 = .ok (.lshl, 1) := by decide +kernel
theorem dM_rounded_290 : decode cM_rounded 290 = .ok (.lcmp, 1) := by decide +kernel
theorem dM_rounded_291 : decode cM_rounded 291 = .ok (.ifCond .ne 12, 3) := by decide +kernel
theorem dM_rounded_294 : decode cM_rounded 294 = .ok (.lload 7, 2) := by decide +kernel
theorem dM_rounded_296 : decode cM_rounded 296 = .ok (.iconst 1, 1) := by decide +kernel
theorem dM_rounded_297 : decode cM_rounded 297 = .ok (.lshr, 1) := by decide +kernel
theorem dM_rounded_298 : decode cM_rounded 298 = .ok (.lstore 7, 2) := by decide +kernel
theorem dM_rounded_300 : decode cM_rounded 300 = .ok (.iinc 13 1, 3) := by decide +kernel
theorem dM_rounded_303 : decode cM_rounded 303 = .ok (.lload 7, 2) := by decide +kernel
theorem dM_rounded_305 : decode cM_rounded 305 = .ok (.lconst 1, 1) := by decide +kernel
theorem dM_rounded_306 : decode cM_rounded 306 = .ok (.aload_n 0, 1) := by decide +kernel
theorem dM_rounded_307 : decode cM_rounded 307 = .ok (.getfield 24, 3) := by decide +kernel
theorem dM_rounded_310 : decode cM_rounded 310 = .ok (.iconst 1, 1) := by decide +kernel
theorem dM_rounded_311 : decode cM_rounded 311 = .ok (.isub, 1) := by decide +kernel
theorem dM_rounded_312 : decode cM_rounded 312 = .ok (.lshl, 1) := by decide +kernel
theorem dM_rounded_313 : decode cM_rounded 313 = .ok (.lcmp, 1) := by decide +kernel
theorem dM_rounded_314 : decode cM_rounded 314 = .ok (.ifCond .lt 7, 3) := by decide +kernel
theorem dM_rounded_317 : decode cM_rounded 317 = .ok (.iconst 1, 1) := by decide +kernel
theorem dM_rounded_318 : decode cM_rounded 318 = .ok (.goto 4, 3) := by decide +kernel
theorem dM_rounded_321 : decode cM_rounded 321 = .ok (.iconst 0, 1) := by decide +kernel
theorem dM_rounded_322 : decode cM_rounded 322 = .ok (.istore 14, 2) := by decide +kernel
theorem dM_rounded_324 : decode cM_rounded 324 = .ok (.iload 14, 2) := by decide +kernel
theorem dM_rounded_326 : decode cM_rounded 326 = .ok (.ifCond .eq 105, 3) := by decide +kernel
theorem dM_rounded_329 : decode cM_rounded 329 = .ok (.iload 13, 2) := by decide +kernel
theorem dM_rounded_331 : decode cM_rounded 331 = .ok (.aload_n 0, 1) := by decide +kernel
theorem dM_rounded_332 : decode cM_rounded 332 = .ok (.getfield 24, 3) := by decide +kernel
theorem dM_rounded_335 : decode cM_rounded 335 = .ok (.iadd, 1) := by decide +kernel
theorem dM_rounded_336 : decode cM_rounded 336 = .ok (.iconst 1, 1) := by decide +kernel
theorem dM_rounded_337 : decode cM_rounded 337 = .ok (.isub, 1) := by decide +kernel
theorem dM_rounded_338 : decode cM_rounded 338 = .ok (.aload_n 0, 1) := by decide +kernel
theorem dM_rounded_339 : decode cM_rounded 339 = .ok (.getfield 27, 3) := by decide +kernel
theorem dM_rounded_342 : decode cM_rounded 342 = .ok (.if_icmp .le 89, 3) := by decide +kernel
theorem dM_rounded_345 : decode cM_rounded 345 = .ok (.aload_n 0, 1) := by decide +kernel
theorem dM_rounded_346 : decode cM_rounded 346 = .ok (.dup, 1) := by decide +kernel
theorem dM_rounded_347 : decode cM_rounded 347 = .ok (.getfield 63, 3) := by decide +kernel
theorem dM_rounded_350 : decode cM_rounded 350 = .ok (.iconst 5, 1) := by decide +kernel
theorem dM_rounded_351 : decode cM_rounded 351 = .ok (.ior, 1) := by decide +kernel
theorem dM_rounded_352 : decode cM_rounded 352 = .ok (.putfield 63, 3) := by decide +kernel
theorem dM_rounded_355 : decode cM_rounded 355 = .ok (.aload_n 0, 1) := by decide +kernel
theorem dM_rounded_356 : decode cM_rounded 356 = .ok (.getfield 76, 3) := by decide +kernel
theorem dM_rounded_359 : decode cM_rounded 359 = .ok (.iconst 1, 1) := by decide +kernel
theorem dM_rounded_360 : decode cM_rounded 360 = .ok (.if_icmp .eq 28, 3) := by decide +kernel
theorem dM_rounded_363 : decode cM_rounded 363 = .ok (.aload_n 0, 1) := by decide +kernel
theorem dM_rounded_364 : decode cM_rounded 364 = .ok (.getfield 76, 3) := by decide +kernel
theorem dM_rounded_367 : decode cM_rounded 367 = .ok (.iconst 2, 1) := by decide +kernel
theorem dM_rounded_368 : decode cM_rounded 368 = .ok (.if_icmp .ne 8, 3) := by decide +kernel
theorem dM_rounded_371 : decode cM_rounded 371 = .ok (.iload_n 1, 1) := by decide +kernel
theorem dM_rounded_372 : decode cM_rounded 372 = .ok (.iconst 1, 1) := by decide +kernel
theorem dM_rounded_373 : decode cM_rounded 373 = .ok (.if_icmp .eq 15, 3) := by decide +kernel
theorem dM_rounded_376 : decode cM_rounded 376 = .ok (.aload_n 0, 1) := by decide +kernel
theorem dM_rounded_377 : decode cM_rounded 377 = .ok (.getfield 76, 3) := by decide +kernel
theorem dM_rounded_380 : decode cM_rounded 380 = .ok (.iconst 3, 1) := by decide +kernel
theorem dM_rounded_381 : decode cM_rounded 381 = .ok (.if_icmp .ne 11, 3) := by decide +kernel
theorem dM_rounded_384 : decode cM_rounded 384 = .ok (.iload_n 1, 1) := by decide +kernel
theorem dM_rounded_385 : decode cM_rounded 385 = .ok (.ifCond .ne 7, 3) := by decide +kernel
theorem dM_rounded_388 : decode cM_rounded 388 = .ok (.iconst 1, 1) := by decide +kernel
theorem dM_rounded_389 : decode cM_rounded 389 = .ok (.goto 4, 3) := by decide +kernel
theorem dM_rounded_392 : decode cM_rounded 392 = .ok (.iconst 0, 1) := by decide +kernel
theorem dM_rounded_393 : decode cM_rounded 393 = .ok (.istore 15, 2) := by decide +kernel
theorem dM_rounded_395 : decode cM_rounded 395 = .ok (.iload 15, 2) := by decide +kernel
theorem dM_rounded_397 : decode cM_rounded 397 = .ok (.ifCond .eq 28, 3) := by decide +kernel
theorem dM_rounded_400 : decode cM_rounded 400 = .ok (.aload_n 0, 1) := by decide +kernel
theorem dM_rounded_401 : decode cM_rounded 401 = .ok (.iload_n 1, 1) := by decide +kernel
theorem dM_rounded_402 : decode cM_rounded 402 = .ok (.iconst 2, 1) := by decide +kernel
theorem dM_rounded_403 : decode cM_rounded 403 = .ok (.aload_n 0, 1) := by decide +kernel
theorem dM_rounded_404 : decode cM_rounded 404 = .ok (.getfield 27, 3) := by decide +kernel
theorem dM_rounded_407 : decode cM_rounded 407 = .ok (.imul, 1) := by decide +kernel
theorem dM_rounded_408 : decode cM_rounded 408 = .ok (.i2l, 1) := by decide +kernel
theorem dM_rounded_409 : decode cM_rounded 409 = .ok (.lconst 1, 1) := by decide +kernel
theorem dM_rounded_410 : decode cM_rounded 410 = .ok (.aload_n 0, 1) := by decide +kernel
theorem dM_rounded_411 : decode cM_rounded 411 = .ok (.getfield 24, 3) := by decide +kernel
theorem dM_rounded_414 : decode cM_rounded 414 = .ok (.iconst 1, 1) := by decide +kernel
theorem dM_rounded_415 : decode cM_rounded 415 = .ok (.isub, 1) := by decide +kernel
theorem dM_rounded_416 : decode cM_rounded 416 = .ok (.lshl, 1) := by decide +kernel
theorem dM_rounded_417 : decode cM_rounded 417 = .ok (.lconst 1, 1) := by decide +kernel
theorem dM_rounded_418 : decode cM_rounded 418 = .ok (.lsub, 1) := by decide +kernel
theorem dM_rounded_419 : decode cM_rounded 419 = .ok (.invokevirtual 59, 3) := by decide +kernel
theorem dM_rounded_422 : decode cM_rounded 422 = .ok (.goto 8, 3) := by decide +kernel
theorem dM_rounded_425 : decode cM_rounded 425 = .ok (.aload_n 0, 1) := by decide +kernel
theorem dM_rounded_426 : decode cM_rounded 426 = .ok (.iload_n 1, 1) := by decide +kernel
theorem dM_rounded_427 : decode cM_rounded 427 = .ok (.invokevirtual 79, 3) := by decide +kernel
theorem dM_rounded_430 : decode cM_rounded 430 = .ok (.lreturn, 1) := by decide +kernel
theorem dM_rounded_431 : decode cM_rounded 431 = .ok (.iload 11, 2) := by decide +kernel
theorem dM_rounded_433 : decode cM_rounded 433 = .ok (.ifCond .ne 22, 3) := by decide +kernel
theorem dM_rounded_436 : decode cM_rounded 436 = .ok (.aload_n 0, 1) := by decide +kernel
theorem dM_rounded_437 : decode cM_rounded 437 = .ok (.dup, 1) := by decide +kernel
theorem dM_rounded_438 : decode cM_rounded 438 = .ok (.getfield 63, 3) := by decide +kernel
theorem dM_rounded_441 : decode cM_rounded 441 = .ok (.iload 14, 2) := by decide +kernel
theorem dM_rounded_443 : decode cM_rounded 443 = .ok (.ifCond .eq 7, 3) := by decide +kernel
theorem dM_rounded_446 : decode cM_rounded 446 = .ok (.iconst 1, 1) := by decide +kernel
theorem dM_rounded_447 : decode cM_rounded 447 = .ok (.goto 4, 3) := by decide +kernel
theorem dM_rounded_450 : decode cM_rounded 450 = .ok (.iconst 3, 1) := by decide +kernel
theorem dM_rounded_451 : decode cM_rounded 451 = .ok (.ior, 1) := by decide +kernel
theorem dM_rounded_452 : decode cM_rounded 452 = .ok (.putfield 63, 3) := by decide +kernel
theorem dM_rounded_455 : decode cM_rounded 455 = .ok (.iload 14, 2) := by decide +kernel
theorem dM_rounded_457 : decode cM_rounded 457 = .ok (.ifCond .eq 37, 3) := by decide +kernel
theorem dM_rounded_460 : decode cM_rounded 460 = .ok (.aload_n 0, 1) := by decide +kernel
theorem dM_rounded_461 : decode cM_rounded 461 = .ok (.iload_n 1, 1) := by decide +kernel
theorem dM_rounded_462 : decode cM_rounded 462 = .ok (.iload 13, 2) := by decide +kernel
theorem dM_rounded_464 : decode cM_rounded 464 = .ok (.aload_n 0, 1) := by decide +kernel
theorem dM_rounded_465 : decode cM_rounded 465 = .ok (.getfield 24, 3) := by decide +kernel
theorem dM_rounded_468 : decode cM_rounded 468 = .ok (.iadd, 1) := by decide +kernel
theorem dM_rounded_469 : decode cM_rounded 469 = .ok (.iconst 1, 1) := by decide +kernel
theorem dM_rounded_470 : decode cM_rounded 470 = .ok (.isub, 1) := by decide +kernel
theorem dM_rounded_471 : decode cM_rounded 471 = .ok (.aload_n 0, 1) := by decide +kernel
theorem dM_rounded_472 : decode cM_rounded 472 = .ok (.getfield 27, 3) := by decide +kernel
theorem dM_rounded_475 : decode cM_rounded 475 = .ok (.iadd, 1) := by decide +kernel
theorem dM_rounded_476 : decode cM_rounded 476 = .ok (.i2l, 1) := by decide +kernel
theorem dM_rounded_477 : decode cM_rounded 477 = .ok (.lload 7, 2) := by decide +kernel
theorem dM_rounded_479 : decode cM_rounded 479 = .ok (.lconst 1, 1) := by decide +kernel
theorem dM_rounded_480 : decode cM_rounded 480 = .ok (.aload_n 0, 1) := by decide +kernel
theorem dM_rounded_481 : decode cM_rounded 481 = .ok (.getfield 24, 3) := by decide +kernel
theorem dM_rounded_484 : decode cM_rounded 484 = .ok (.iconst 1, 1) := by decide +kernel
theorem dM_rounded_485 : decode cM_rounded 485 = .ok (.isub, 1) := by decide +kernel
theorem dM_rounded_486 : decode cM_rounded 486 = .ok (.lshl, 1) := by decide +kernel
theorem dM_rounded_487 : decode cM_rounded 487 = .ok (.lsub, 1) := by decide +kernel
theorem dM_rounded_488 : decode cM_rounded 488 = .ok (.invokevirtual 59, 3) := by decide +kernel
theorem dM_rounded_491 : decode cM_rounded 491 = .ok (.goto 11, 3) := by decide +kernel
theorem dM_rounded_494 : decode cM_rounded 494 = .ok (.aload_n 0, 1) := by decide +kernel
theorem dM_rounded_495 : decode cM_rounded 495 = .ok (.iload_n 1, 1) := by decide +kernel
theorem dM_rounded_496 : decode cM_rounded 496 = .ok (.lconst 0, 1) := by decide +kernel
theorem dM_rounded_497 : decode cM_rounded 497 = .ok (.lload 7, 2) := by decide +kernel
theorem dM_rounded_499 : decode cM_rounded 499 = .ok (.invokevirtual 59, 3) := by decide +kernel
theorem dM_rounded_502 : decode cM_rounded 502 = .ok (.lreturn, 1) := by decide +kernel
theorem dM_highest_0 : decode cM_highest 0 = .ok (.aload_n 0, 1) := by decide +kernel
theorem dM_highest_1 : decode cM_highest 1 = .ok (.getfield 7, 3) := by decide +kernel
theorem dM_highest_4 : decode cM_highest 4 = .ok (.arraylength, 1) := by decide +kernel
theorem dM_highest_5 : decode cM_highest 5 = .ok (.iconst 1, 1) := by decide +kernel
theorem dM_highest_6 : decode cM_highest 6 = .ok (.isub, 1) := by decide +kernel
theorem dM_highest_7 : decode cM_highest 7 = .ok (.istore_n 1, 1) := by decide +kernel
theorem dM_highest_8 : decode cM_highest 8 = .ok (.iload_n 1, 1) := by decide +kernel
theorem dM_highest_9 : decode cM_highest 9 = .ok (.ifCond .lt 18, 3) := by decide +kernel
theorem dM_highest_12 : decode cM_highest 12 = .ok (.aload_n 0, 1) := by decide +kernel
theorem dM_highest_13 : decode cM_highest 13 = .ok (.getfield 7, 3) := by decide +kernel
theorem dM_highest_16 : decode cM_highest 16 = .ok (.iload_n 1, 1) := by decide +kernel
theorem dM_highest_17 : decode cM_highest 17 = .ok (.iaload, 1) := by decide +kernel
theorem dM_highest_18 : decode cM_highest 18 = .ok (.ifCond .ne 9, 3) := by decide +kernel
theorem dM_highest_21 : decode cM_highest 21 = .ok (.iinc 1 (-1), 3) := by decide +kernel
theorem dM_highest_24 : decode cM_highest 24 = .ok (.goto (-16), 3) := by decide +kernel
theorem dM_highest_27 : decode cM_highest 27 = .ok (.iload_n 1, 1) := by decide +kernel
theorem dM_highest_28 : decode cM_highest 28 = .ok (.ireturn, 1) := by decide +kernel
theorem dM_product_0 : decode cM_product 0 = .ok (.aload_n 0, 1) := by decide +kernel
theorem dM_product_1 : decode cM_product 1 = .ok (.getfield 30, 3) := by decide +kernel
theorem dM_product_4 : decode cM_product 4 = .ok (.aload_n 0, 1) := by decide +kernel
theorem dM_product_5 : decode cM_product 5 = .ok (.getfield 50, 3) := by decide +kernel
theorem dM_product_8 : decode cM_product 8 = .ok (.ixor, 1) := by decide +kernel
theorem dM_product_9 : decode cM_product 9 = .ok (.istore_n 1, 1) := by decide +kernel
theorem dM_product_10 : decode cM_product 10 = .ok (.aload_n 0, 1) := by decide +kernel
theorem dM_product_11 : decode cM_product 11 = .ok (.getfield 33, 3) := by decide +kernel
theorem dM_product_14 : decode cM_product 14 = .ok (.iconst 1, 1) := by decide +kernel
theorem dM_product_15 : decode cM_product 15 = .ok (.if_icmp .eq 11, 3) := by decide +kernel
theorem dM_product_18 : decode cM_product 18 = .ok (.aload_n 0, 1) := by decide +kernel
theorem dM_product_19 : decode cM_product 19 = .ok (.getfield 47, 3) := by decide +kernel
theorem dM_product_22 : decode cM_product 22 = .ok (.iconst 1, 1) := by decide +kernel
theorem dM_product_23 : decode cM_product 23 = .ok (.if_icmp .ne 50, 3) := by decide +kernel
theorem dM_product_26 : decode cM_product 26 = .ok (.aload_n 0, 1) := by decide +kernel
theorem dM_product_27 : decode cM_product 27 = .ok (.getfield 33, 3) := by decide +kernel
theorem dM_product_30 : decode cM_product 30 = .ok (.iconst 2, 1) := by decide +kernel
theorem dM_product_31 : decode cM_product 31 = .ok (.if_icmp .ne 12, 3) := by decide +kernel
theorem dM_product_34 : decode cM_product 34 = .ok (.aload_n 0, 1) := by decide +kernel
theorem dM_product_35 : decode cM_product 35 = .ok (.getfield 36, 3) := by decide +kernel
theorem dM_product_38 : decode cM_product 38 = .ok (.lconst 0, 1) := by decide +kernel
theorem dM_product_39 : decode cM_product 39 = .ok (.lcmp, 1) := by decide +kernel
theorem dM_product_40 : decode cM_product 40 = .ok (.ifCond .eq 20, 3) := by decide +kernel
theorem dM_product_43 : decode cM_product 43 = .ok (.aload_n 0, 1) := by decide +kernel
theorem dM_product_44 : decode cM_product 44 = .ok (.getfield 47, 3) := by decide +kernel
theorem dM_product_47 : decode cM_product 47 = .ok (.iconst 2, 1) := by decide +kernel
theorem dM_product_48 : decode cM_product 48 = .ok (.if_icmp .ne 19, 3) := by decide +kernel
theorem dM_product_51 : decode cM_product 51 = .ok (.aload_n 0, 1) := by decide +kernel
theorem dM_product_52 : decode cM_product 52 = .ok (.getfield 53, 3) := by decide +kernel
theorem dM_product_55 : decode cM_product 55 = .ok (.lconst 0, 1) := by decide +kernel
theorem dM_product_56 : decode cM_product 56 = .ok (.lcmp, 1) := by decide +kernel
theorem dM_product_57 : decode cM_product 57 = .ok (.ifCond .ne 10, 3) := by decide +kernel
theorem dM_product_60 : decode cM_product 60 = .ok (.aload_n 0, 1) := by decide +kernel
theorem dM_product_61 : decode cM_product 61 = .ok (.invokevirtual 111, 3) := by decide +kernel
theorem dM_product_64 : decode cM_product 64 = .ok (.goto 8, 3) := by decide +kernel
theorem dM_product_67 : decode cM_product 67 = .ok (.aload_n 0, 1) := by decide +kernel
theorem dM_product_68 : decode cM_product 68 = .ok (.iload_n 1, 1) := by decide +kernel
theorem dM_product_69 : decode cM_product 69 = .ok (.invokevirtual 79, 3) := by decide +kernel
theorem dM_product_72 : decode cM_product 72 = .ok (.lreturn, 1) := by decide +kernel
theorem dM_product_73 : decode cM_product 73 = .ok (.aload_n 0, 1) := by decide +kernel
theorem dM_product_74 : decode cM_product 74 = .ok (.getfield 36, 3) := by decide +kernel
theorem dM_product_77 : decode cM_product 77 = .ok (.lconst 0, 1) := by decide +kernel
theorem dM_product_78 : decode cM_product 78 = .ok (.lcmp, 1) := by decide +kernel
theorem dM_product_79 : decode cM_product 79 = .ok (.ifCond .eq 12, 3) := by decide +kernel
theorem dM_product_82 : decode cM_product 82 = .ok (.aload_n 0, 1) := by decide +kernel
theorem dM_product_83 : decode cM_product 83 = .ok (.getfield 53, 3) := by decide +kernel
theorem dM_product_86 : decode cM_product 86 = .ok (.lconst 0, 1) := by decide +kernel
theorem dM_product_87 : decode cM_product 87 = .ok (.lcmp, 1) := by decide +kernel
theorem dM_product_88 : decode cM_product 88 = .ok (.ifCond .ne 11, 3) := by decide +kernel
theorem dM_product_91 : decode cM_product 91 = .ok (.aload_n 0, 1) := by decide +kernel
theorem dM_product_92 : decode cM_product 92 = .ok (.iload_n 1, 1) := by decide +kernel
theorem dM_product_93 : decode cM_product 93 = .ok (.lconst 0, 1) := by decide +kernel
theorem dM_product_94 : decode cM_product 94 = .ok (.lconst 0, 1) := by decide +kernel
theorem dM_product_95 : decode cM_product 95 = .ok (.invokevirtual 59, 3) := by decide +kernel
theorem dM_product_98 : decode cM_product 98 = .ok (.lreturn, 1) := by decide +kernel
theorem dM_product_99 : decode cM_product 99 = .ok (.aload_n 0, 1) := by decide +kernel
theorem dM_product_100 : decode cM_product 100 = .ok (.invokevirtual 114, 3) := by decide +kernel
theorem dM_product_103 : decode cM_product 103 = .ok (.iconst 0, 1) := by decide +kernel
theorem dM_product_104 : decode cM_product 104 = .ok (.istore_n 2, 1) := by decide +kernel
theorem dM_product_105 : decode cM_product 105 = .ok (.iload_n 2, 1) := by decide +kernel
theorem dM_product_106 : decode cM_product 106 = .ok (.bipush 53, 2) := by decide +kernel
theorem dM_product_108 : decode cM_product 108 = .ok (.if_icmp .ge 82, 3) := by decide +kernel
theorem dM_product_111 : decode cM_product 111 = .ok (.aload_n 0, 1) := by decide +kernel
theorem dM_product_112 : decode cM_product 112 = .ok (.getfield 53, 3) := by decide +kernel
theorem dM_product_115 : decode cM_product 115 = .ok (.iload_n 2, 1) := by decide +kernel
theorem dM_product_116 : decode cM_product 116 = .ok (.lshr, 1) := by decide +kernel
theorem dM_product_117 : decode cM_product 117 = .ok (.lconst 1, 1) := by decide +kernel
theorem dM_product_118 : decode cM_product 118 = .ok (.land, 1) := by decide +kernel
theorem dM_product_119 : decode cM_product 119 = .ok (.lconst 1, 1) := by decide +kernel
theorem dM_product_120 : decode cM_product 120 = .ok (.lcmp, 1) := by decide +kernel
theorem dM_product_121 : decode cM_product 121 = .ok (.ifCond .ne 63, 3) := by decide +kernel
theorem dM_product_124 : decode cM_product 124 = .ok (.iconst 0, 1) := by decide +kernel
theorem dM_product_125 : decode cM_product 125 = .ok (.istore_n 3, 1) := by decide +kernel
theorem dM_product_126 : decode cM_product 126 = .ok (.iconst 0, 1) := by decide +kernel
theorem dM_product_127 : decode cM_product 127 = .ok (.istore 4, 2) := by decide +kernel
theorem dM_product_129 : decode cM_product 129 = .ok (.iload 4, 2) := by decide +kernel
theorem dM_product_131 : decode cM_product 131 = .ok (.bipush 64, 2) := by decide +kernel
theorem dM_product_133 : decode cM_product 133 = .ok (.if_icmp .ge 51, 3) := by decide +kernel
theorem dM_product_136 : decode cM_product 136 = .ok (.aload_n 0, 1) := by decide +kernel
theorem dM_product_137 : decode cM_product 137 = .ok (.getfield 7, 3) := by decide +kernel
theorem dM_product_140 : decode cM_product 140 = .ok (.iload_n 2, 1) := by decide +kernel
theorem dM_product_141 : decode cM_product 141 = .ok (.iload 4, 2) := by decide +kernel
theorem dM_product_143 : decode cM_product 143 = .ok (.iadd, 1) := by decide +kernel
theorem dM_product_144 : decode cM_product 144 = .ok (.iaload, 1) := by decide +kernel
theorem dM_product_145 : decode cM_product 145 = .ok (.aload_n 0, 1) := by decide +kernel
theorem dM_product_146 : decode cM_product 146 = .ok (.getfield 36, 3) := by decide +kernel
theorem dM_product_149 : decode cM_product 149 = .ok (.iload 4, 2) := by decide +kernel
theorem dM_product_151 : decode cM_product 151 = .ok (.lshr, 1) := by decide +kernel
theorem dM_product_152 : decode cM_product 152 = .ok (.lconst 1, 1) := by decide +kernel
theorem dM_product_153 : decode cM_product 153 = .ok (.land, 1) := by decide +kernel
theorem dM_product_154 : decode cM_product 154 = .ok (.l2i, 1) := by decide +kernel
theorem dM_product_155 : decode cM_product 155 = .ok (.iadd, 1) := by decide +kernel
theorem dM_product_156 : decode cM_product 156 = .ok (.iload_n 3, 1) := by decide +kernel
theorem dM_product_157 : decode cM_product 157 = .ok (.iadd, 1) := by decide +kernel
theorem dM_product_158 : decode cM_product 158 = .ok (.istore 5, 2) := by decide +kernel
theorem dM_product_160 : decode cM_product 160 = .ok (.aload_n 0, 1) := by decide +kernel
theorem dM_product_161 : decode cM_product 161 = .ok (.getfield 7, 3) := by decide +kernel
theorem dM_product_164 : decode cM_product 164 = .ok (.iload_n 2, 1) := by decide +kernel
theorem dM_product_165 : decode cM_product 165 = .ok (.iload 4, 2) := by decide +kernel
theorem dM_product_167 : decode cM_product 167 = .ok (.iadd, 1) := by decide +kernel
theorem dM_product_168 : decode cM_product 168 = .ok (.iload 5, 2) := by decide +kernel
theorem dM_product_170 : decode cM_product 170 = .ok (.iconst 1, 1) := by decide +kernel
theorem dM_product_171 : decode cM_product 171 = .ok (.iand, 1) := by decide +kernel
theorem dM_product_172 : decode cM_product 172 = .ok (.iastore, 1) := by decide +kernel
theorem dM_product_173 : decode cM_product 173 = .ok (.iload 5, 2) := by decide +kernel
theorem dM_product_175 : decode cM_product 175 = .ok (.iconst 1, 1) := by decide +kernel
theorem dM_product_176 : decode cM_product 176 = .ok (.ishr, 1) := by decide +kernel
theorem dM_product_177 : decode cM_product 177 = .ok (.istore_n 3, 1) := by decide +kernel
theorem dM_product_178 : decode cM_product 178 = .ok (.iinc 4 1, 3) := by decide +kernel
theorem dM_product_181 : decode cM_product 181 = .ok (.goto (-52), 3) := by decide +kernel
theorem dM_product_184 : decode cM_product 184 = .ok (.iinc 2 1, 3) := by decide +kernel
theorem dM_product_187 : decode cM_product 187 = .ok (.goto (-82), 3) := by decide +kernel
theorem dM_product_190 : decode cM_product 190 = .ok (.aload_n 0, 1) := by decide +kernel
theorem dM_product_191 : decode cM_product 191 = .ok (.iload_n 1, 1) := by decide +kernel
theorem dM_product_192 : decode cM_product 192 = .ok (.aload_n 0, 1) := by decide +kernel
theorem dM_product_193 : decode cM_product 193 = .ok (.getfield 40, 3) := by decide +kernel
theorem dM_product_196 : decode cM_product 196 = .ok (.aload_n 0, 1) := by decide +kernel
theorem dM_product_197 : decode cM_product 197 = .ok (.getfield 56, 3) := by decide +kernel
theorem dM_product_200 : decode cM_product 200 = .ok (.iadd, 1) := by decide +kernel
theorem dM_product_201 : decode cM_product 201 = .ok (.iconst 0, 1) := by decide +kernel
theorem dM_product_202 : decode cM_product 202 = .ok (.invokevirtual 121, 3) := by decide +kernel
theorem dM_product_205 : decode cM_product 205 = .ok (.lreturn, 1) := by decide +kernel
theorem dM_quotient_0 : decode cM_quotient 0 = .ok (.aload_n 0, 1) := by decide +kernel
theorem dM_quotient_1 : decode cM_quotient 1 = .ok (.getfield 30, 3) := by decide +kernel
theorem dM_quotient_4 : decode cM_quotient 4 = .ok (.aload_n 0, 1) := by decide +kernel
theorem dM_quotient_5 : decode cM_quotient 5 = .ok (.getfield 50, 3) := by decide +kernel
theorem dM_quotient_8 : decode cM_quotient 8 = .ok (.ixor, 1) := by decide +kernel
theorem dM_quotient_9 : decode cM_quotient 9 = .ok (.istore_n 1, 1) := by decide +kernel
theorem dM_quotient_10 : decode cM_quotient 10 = .ok (.aload_n 0, 1) := by decide +kernel
theorem dM_quotient_11 : decode cM_quotient 11 = .ok (.getfield 33, 3) := by decide +kernel
theorem dM_quotient_14 : decode cM_quotient 14 = .ok (.iconst 1, 1) := by decide +kernel
theorem dM_quotient_15 : decode cM_quotient 15 = .ok (.if_icmp .ne 24, 3) := by decide +kernel
theorem dM_quotient_18 : decode cM_quotient 18 = .ok (.aload_n 0, 1) := by decide +kernel
theorem dM_quotient_19 : decode cM_quotient 19 = .ok (.getfield 47, 3) := by decide +kernel
theorem dM_quotient_22 : decode cM_quotient 22 = .ok (.iconst 1, 1) := by decide +kernel
theorem dM_quotient_23 : decode cM_quotient 23 = .ok (.if_icmp .ne 10, 3) := by decide +kernel
theorem dM_quotient_26 : decode cM_quotient 26 = .ok (.aload_n 0, 1) := by decide +kernel
theorem dM_quotient_27 : decode cM_quotient 27 = .ok (.invokevirtual 111, 3) := by decide +kernel
theorem dM_quotient_30 : decode cM_quotient 30 = .ok (.goto 8, 3) := by decide +kernel
theorem dM_quotient_33 : decode cM_quotient 33 = .ok (.aload_n 0, 1) := by decide +kernel
theorem dM_quotient_34 : decode cM_quotient 34 = .ok (.iload_n 1, 1) := by decide +kernel
theorem dM_quotient_35 : decode cM_quotient 35 = .ok (.invokevirtual 79, 3) := by decide +kernel
theorem dM_quotient_38 : decode cM_quotient 38 = .ok (.lreturn, 1) := by decide +kernel
theorem dM_quotient_39 : decode cM_quotient 39 = .ok (.aload_n 0, 1) := by decide +kernel
theorem dM_quotient_40 : decode cM_quotient 40 = .ok (.getfield 47, 3) := by decide +kernel
theorem dM_quotient_43 : decode cM_quotient 43 = .ok (.iconst 1, 1) := by decide +kernel
theorem dM_quotient_44 : decode cM_quotient 44 = .ok (.if_icmp .ne 11, 3) := by decide +kernel
theorem dM_quotient_47 : decode cM_quotient 47 = .ok (.aload_n 0, 1) := by decide +kernel
theorem dM_quotient_48 : decode cM_quotient 48 = .ok (.iload_n 1, 1) := by decide +kernel
theorem dM_quotient_49 : decode cM_quotient 49 = .ok (.lconst 0, 1) := by decide +kernel
theorem dM_quotient_50 : decode cM_quotient 50 = .ok (.lconst 0, 1) := by decide +kernel
theorem dM_quotient_51 : decode cM_quotient 51 = .ok (.invokevirtual 59, 3) := by decide +kernel
theorem dM_quotient_54 : decode cM_quotient 54 = .ok (.lreturn, 1) := by decide +kernel
theorem dM_quotient_55 : decode cM_quotient 55 = .ok (.aload_n 0, 1) := by decide +kernel
theorem dM_quotient_56 : decode cM_quotient 56 = .ok (.getfield 53, 3) := by decide +kernel
theorem dM_quotient_59 : decode cM_quotient 59 = .ok (.lconst 0, 1) := by decide +kernel
theorem dM_quotient_60 : decode cM_quotient 60 = .ok (.lcmp, 1) := by decide +kernel
theorem dM_quotient_61 : decode cM_quotient 61 = .ok (.ifCond .ne 34, 3) := by decide +kernel
theorem dM_quotient_64 : decode cM_quotient 64 = .ok (.aload_n 0, 1) := by decide +kernel
theorem dM_quotient_65 : decode cM_quotient 65 = .ok (.getfield 36, 3) := by decide +kernel
theorem dM_quotient_68 : decode cM_quotient 68 = .ok (.lconst 0, 1) := by decide +kernel
theorem dM_quotient_69 : decode cM_quotient 69 = .ok (.lcmp, 1) := by decide +kernel
theorem dM_quotient_70 : decode cM_quotient 70 = .ok (.ifCond .ne 8, 3) := by decide +kernel
theorem dM_quotient_73 : decode cM_quotient 73 = .ok (.aload_n 0, 1) := by decide +kernel
theorem dM_quotient_74 : decode cM_quotient 74 = .ok (.invokevirtual 111, 3) := by decide +kernel
theorem dM_quotient_77 : decode cM_quotient 77 = .ok (.lreturn, 1) := by decide +kernel
theorem dM_quotient_78 : decode cM_quotient 78 = .ok (.aload_n 0, 1) := by decide +kernel
theorem dM_quotient_79 : decode cM_quotient 79 = .ok (.dup, 1) := by decide +kernel
theorem dM_quotient_80 : decode cM_quotient 80 = .ok (.getfield 63, 3) := by decide +kernel
theorem dM_quotient_83 : decode cM_quotient 83 = .ok (.bipush 8, 2) := by decide +kernel
theorem dM_quotient_85 : decode cM_quotient 85 = .ok (.ior, 1) := by decide +kernel
theorem dM_quotient_86 : decode cM_quotient 86 = .ok (.putfield 63, 3) := by decide +kernel
theorem dM_quotient_89 : decode cM_quotient 89 = .ok (.aload_n 0, 1) := by decide +kernel
theorem dM_quotient_90 : decode cM_quotient 90 = .ok (.iload_n 1, 1) := by decide +kernel
theorem dM_quotient_91 : decode cM_quotient 91 = .ok (.invokevirtual 79, 3) := by decide +kernel
theorem dM_quotient_94 : decode cM_quotient 94 = .ok (.lreturn, 1) := by decide +kernel
theorem dM_quotient_95 : decode cM_quotient 95 = .ok (.aload_n 0, 1) := by decide +kernel
theorem dM_quotient_96 : decode cM_quotient 96 = .ok (.getfield 36, 3) := by decide +kernel
theorem dM_quotient_99 : decode cM_quotient 99 = .ok (.lconst 0, 1) := by decide +kernel
theorem dM_quotient_100 : decode cM_quotient 100 = .ok (.lcmp, 1) := by decide +kernel
theorem dM_quotient_101 : decode cM_quotient 101 = .ok (.ifCond .ne 11, 3) := by decide +kernel
theorem dM_quotient_104 : decode cM_quotient 104 = .ok (.aload_n 0, 1) := by decide +kernel
theorem dM_quotient_105 : decode cM_quotient 105 = .ok (.iload_n 1, 1) := by decide +kernel
theorem dM_quotient_106 : decode cM_quotient 106 = .ok (.lconst 0, 1) := by decide +kernel
theorem dM_quotient_107 : decode cM_quotient 107 = .ok (.lconst 0, 1) := by decide +kernel
theorem dM_quotient_108 : decode cM_quotient 108 = .ok (.invokevirtual 59, 3) := by decide +kernel
theorem dM_quotient_111 : decode cM_quotient 111 = .ok (.lreturn, 1) := by decide +kernel
theorem dM_quotient_112 : decode cM_quotient 112 = .ok (.aload_n 0, 1) := by decide +kernel
theorem dM_quotient_113 : decode cM_quotient 113 = .ok (.invokevirtual 114, 3) := by decide +kernel
theorem dM_quotient_116 : decode cM_quotient 116 = .ok (.lconst 0, 1) := by decide +kernel
theorem dM_quotient_117 : decode cM_quotient 117 = .ok (.lstore_n 2, 1) := by decide +kernel
theorem dM_quotient_118 : decode cM_quotient 118 = .ok (.sipush 172, 3) := by decide +kernel
theorem dM_quotient_121 : decode cM_quotient 121 = .ok (.istore 4, 2) := by decide +kernel
theorem dM_quotient_123 : decode cM_quotient 123 = .ok (.iload 4, 2) := by decide +kernel
theorem dM_quotient_125 : decode cM_quotient 125 = .ok (.ifCond .lt 63, 3) := by decide +kernel
theorem dM_quotient_128 : decode cM_quotient 128 = .ok (.ldc2_w 74, 3) := by decide +kernel
theorem dM_quotient_131 : decode cM_quotient 131 = .ok (.lload_n 2, 1) := by decide +kernel
theorem dM_quotient_132 : decode cM_quotient 132 = .ok (.lmul, 1) := by decide +kernel
theorem dM_quotient_133 : decode cM_quotient 133 = .ok (.iload 4, 2) := by decide +kernel
theorem dM_quotient_135 : decode cM_quotient 135 = .ok (.bipush 120, 2) := by decide +kernel
theorem dM_quotient_137 : decode cM_quotient 137 = .ok (.if_icmp .lt 18, 3) := by decide +kernel
theorem dM_quotient_140 : decode cM_quotient 140 = .ok (.aload_n 0, 1) := by decide +kernel
theorem dM_quotient_141 : decode cM_quotient 141 = .ok (.getfield 36, 3) := by decide +kernel
theorem dM_quotient_144 : decode cM_quotient 144 = .ok (.iload 4, 2) := by decide +kernel
theorem dM_quotient_146 : decode cM_quotient 146 = .ok (.bipush 120, 2) := by decide +kernel
theorem dM_quotient_148 : decode cM_quotient 148 = .ok (.isub, 1) := by decide +kernel
theorem dM_quotient_149 : decode cM_quotient 149 = .ok (.lshr, 1) := by decide +kernel
theorem dM_quotient_150 : decode cM_quotient 150 = .ok (.lconst 1, 1) := by decide +kernel
theorem dM_quotient_151 : decode cM_quotient 151 = .ok (.land, 1) := by decide +kernel
theorem dM_quotient_152 : decode cM_quotient 152 = .ok (.goto 4, 3) := by decide +kernel
theorem dM_quotient_155 : decode cM_quotient 155 = .ok (.lconst 0, 1) := by decide +kernel
theorem dM_quotient_156 : decode cM_quotient 156 = .ok (.ladd, 1) := by decide +kernel
theorem dM_quotient_157 : decode cM_quotient 157 = .ok (.lstore_n 2, 1) := by decide +kernel
theorem dM_quotient_158 : decode cM_quotient 158 = .ok (.lload_n 2, 1) := by decide +kernel
theorem dM_quotient_159 : decode cM_quotient 159 = .ok (.aload_n 0, 1) := by decide +kernel
theorem dM_quotient_160 : decode cM_quotient 160 = .ok (.getfield 53, 3) := by decide +kernel
theorem dM_quotient_163 : decode cM_quotient 163 = .ok (.lcmp, 1) := by decide +kernel
theorem dM_quotient_164 : decode cM_quotient 164 = .ok (.ifCond .lt 18, 3) := by decide +kernel
theorem dM_quotient_167 : decode cM_quotient 167 = .ok (.lload_n 2, 1) := by decide +kernel
theorem dM_quotient_168 : decode cM_quotient 168 = .ok (.aload_n 0, 1) := by decide +kernel
theorem dM_quotient_169 : decode cM_quotient 169 = .ok (.getfield 53, 3) := by decide +kernel
theorem dM_quotient_172 : decode cM_quotient 172 = .ok (.lsub, 1) := by decide +kernel
theorem dM_quotient_173 : decode cM_quotient 173 = .ok (.lstore_n 2, 1) := by decide +kernel
theorem dM_quotient_174 : decode cM_quotient 174 = .ok (.aload_n 0, 1) := by decide +kernel
theorem dM_quotient_175 : decode cM_quotient 175 = .ok (.getfield 7, 3) := by decide +kernel
theorem dM_quotient_178 : decode cM_quotient 178 = .ok (.iload 4, 2) := by decide +kernel
theorem dM_quotient_180 : decode cM_quotient 180 = .ok (.iconst 1, 1) := by decide +kernel
theorem dM_quotient_181 : decode cM_quotient 181 = .ok (.iastore, 1) := by decide +kernel
theorem dM_quotient_182 : decode cM_quotient 182 = .ok (.iinc 4 (-1), 3) := by decide +kernel
theorem dM_quotient_185 : decode cM_quotient 185 = .ok (.goto (-62), 3) := by decide +kernel
theorem dM_quotient_188 : decode cM_quotient 188 = .ok (.aload_n 0, 1) := by decide +kernel
theorem dM_quotient_189 : decode cM_quotient 189 = .ok (.iload_n 1, 1) := by decide +kernel
theorem dM_quotient_190 : decode cM_quotient 190 = .ok (.aload_n 0, 1) := by decide +kernel
theorem dM_quotient_191 : decode cM_quotient 191 = .ok (.getfield 40, 3) := by decide +kernel
theorem dM_quotient_194 : decode cM_quotient 194 = .ok (.aload_n 0, 1) := by decide +kernel
theorem dM_quotient_195 : decode cM_quotient 195 = .ok (.getfield 56, 3) := by decide +kernel
theorem dM_quotient_198 : decode cM_quotient 198 = .ok (.isub, 1) := by decide +kernel
theorem dM_quotient_199 : decode cM_quotient 199 = .ok (.bipush 120, 2) := by decide +kernel
theorem dM_quotient_201 : decode cM_quotient 201 = .ok (.isub, 1) := by decide +kernel
theorem dM_quotient_202 : decode cM_quotient 202 = .ok (.lload_n 2, 1) := by decide +kernel
theorem dM_quotient_203 : decode cM_quotient 203 = .ok (.lconst 0, 1) := by decide +kernel
theorem dM_quotient_204 : decode cM_quotient 204 = .ok (.lcmp, 1) := by decide +kernel
theorem dM_quotient_205 : decode cM_quotient 205 = .ok (.ifCond .eq 7, 3) := by decide +kernel
theorem dM_quotient_208 : decode cM_quotient 208 = .ok (.iconst 1, 1) := by decide +kernel
theorem dM_quotient_209 : decode cM_quotient 209 = .ok (.goto 4, 3) := by decide +kernel
theorem dM_quotient_212 : decode cM_quotient 212 = .ok (.iconst 0, 1) := by decide +kernel
theorem dM_quotient_213 : decode cM_quotient 213 = .ok (.invokevirtual 121, 3) := by decide +kernel
theorem dM_quotient_216 : decode cM_quotient 216 = .ok (.lreturn, 1) := by decide +kernel
theorem dM_rest_0 : decode cM_rest 0 = .ok (.aload_n 0, 1) := by decide +kernel
theorem dM_rest_1 : decode cM_rest 1 = .ok (.getfield 33, 3) := by decide +kernel
theorem dM_rest_4 : decode cM_rest 4 = .ok (.iconst 1, 1) := by decide +kernel
theorem dM_rest_5 : decode cM_rest 5 = .ok (.if_icmp .eq 20, 3) := by decide +kernel
theorem dM_rest_8 : decode cM_rest 8 = .ok (.aload_n 0, 1) := by decide +kernel
theorem dM_rest_9 : decode cM_rest 9 = .ok (.getfield 47, 3) := by decide +kernel
theorem dM_rest_12 : decode cM_rest 12 = .ok (.iconst 2, 1) := by decide +kernel
theorem dM_rest_13 : decode cM_rest 13 = .ok (.if_icmp .ne 17, 3) := by decide +kernel
theorem dM_rest_16 : decode cM_rest 16 = .ok (.aload_n 0, 1) := by decide +kernel
theorem dM_rest_17 : decode cM_rest 17 = .ok (.getfield 53, 3) := by decide +kernel
theorem dM_rest_20 : decode cM_rest 20 = .ok (.lconst 0, 1) := by decide +kernel
theorem dM_rest_21 : decode cM_rest 21 = .ok (.lcmp, 1) := by decide +kernel
theorem dM_rest_22 : decode cM_rest 22 = .ok (.ifCond .ne 8, 3) := by decide +kernel
theorem dM_rest_25 : decode cM_rest 25 = .ok (.aload_n 0, 1) := by decide +kernel
theorem dM_rest_26 : decode cM_rest 26 = .ok (.invokevirtual 111, 3) := by decide +kernel
theorem dM_rest_29 : decode cM_rest 29 = .ok (.lreturn, 1) := by decide +kernel
theorem dM_rest_30 : decode cM_rest 30 = .ok (.aload_n 0, 1) := by decide +kernel
theorem dM_rest_31 : decode cM_rest 31 = .ok (.getfield 36, 3) := by decide +kernel
theorem dM_rest_34 : decode cM_rest 34 = .ok (.lconst 0, 1) := by decide +kernel
theorem dM_rest_35 : decode cM_rest 35 = .ok (.lcmp, 1) := by decide +kernel
theorem dM_rest_36 : decode cM_rest 36 = .ok (.ifCond .ne 14, 3) := by decide +kernel
theorem dM_rest_39 : decode cM_rest 39 = .ok (.aload_n 0, 1) := by decide +kernel
theorem dM_rest_40 : decode cM_rest 40 = .ok (.aload_n 0, 1) := by decide +kernel
theorem dM_rest_41 : decode cM_rest 41 = .ok (.getfield 30, 3) := by decide +kernel
theorem dM_rest_44 : decode cM_rest 44 = .ok (.lconst 0, 1) := by decide +kernel
theorem dM_rest_45 : decode cM_rest 45 = .ok (.lconst 0, 1) := by decide +kernel
theorem dM_rest_46 : decode cM_rest 46 = .ok (.invokevirtual 59, 3) := by decide +kernel
theorem dM_rest_49 : decode cM_rest 49 = .ok (.lreturn, 1) := by decide +kernel
theorem dM_rest_50 : decode cM_rest 50 = .ok (.aload_n 0, 1) := by decide +kernel
theorem dM_rest_51 : decode cM_rest 51 = .ok (.getfield 36, 3) := by decide +kernel
theorem dM_rest_54 : decode cM_rest 54 = .ok (.lstore_n 1, 1) := by decide +kernel
theorem dM_rest_55 : decode cM_rest 55 = .ok (.aload_n 0, 1) := by decide +kernel
theorem dM_rest_56 : decode cM_rest 56 = .ok (.getfield 40, 3) := by decide +kernel
theorem dM_rest_59 : decode cM_rest 59 = .ok (.istore_n 3, 1) := by decide +kernel
theorem dM_rest_60 : decode cM_rest 60 = .ok (.aload_n 0, 1) := by decide +kernel
theorem dM_rest_61 : decode cM_rest 61 = .ok (.getfield 47, 3) := by decide +kernel
theorem dM_rest_64 : decode cM_rest 64 = .ok (.iconst 2, 1) := by decide +kernel
theorem dM_rest_65 : decode cM_rest 65 = .ok (.if_icmp .ne 64, 3) := by decide +kernel
theorem dM_rest_68 : decode cM_rest 68 = .ok (.aload_n 0, 1) := by decide +kernel
theorem dM_rest_69 : decode cM_rest 69 = .ok (.getfield 40, 3) := by decide +kernel
theorem dM_rest_72 : decode cM_rest 72 = .ok (.aload_n 0, 1) := by decide +kernel
theorem dM_rest_73 : decode cM_rest 73 = .ok (.getfield 56, 3) := by decide +kernel
theorem dM_rest_76 : decode cM_rest 76 = .ok (.if_icmp .lt 53, 3) := by decide +kernel
theorem dM_rest_79 : decode cM_rest 79 = .ok (.aload_n 0, 1) := by decide +kernel
theorem dM_rest_80 : decode cM_rest 80 = .ok (.getfield 36, 3) := by decide +kernel
theorem dM_rest_83 : decode cM_rest 83 = .ok (.aload_n 0, 1) := by decide +kernel
theorem dM_rest_84 : decode cM_rest 84 = .ok (.getfield 53, 3) := by decide +kernel
theorem dM_rest_87 : decode cM_rest 87 = .ok (.lrem, 1) := by decide +kernel
theorem dM_rest_88 : decode cM_rest 88 = .ok (.lstore_n 1, 1) := by decide +kernel
theorem dM_rest_89 : decode cM_rest 89 = .ok (.aload_n 0, 1) := by decide +kernel
theorem dM_rest_90 : decode cM_rest 90 = .ok (.getfield 40, 3) := by decide +kernel
theorem dM_rest_93 : decode cM_rest 93 = .ok (.istore 4, 2) := by decide +kernel
theorem dM_rest_95 : decode cM_rest 95 = .ok (.iload 4, 2) := by decide +kernel
theorem dM_rest_97 : decode cM_rest 97 = .ok (.aload_n 0, 1) := by decide +kernel
theorem dM_rest_98 : decode cM_rest 98 = .ok (.getfield 56, 3) := by decide +kernel
theorem dM_rest_101 : decode cM_rest 101 = .ok (.if_icmp .le 20, 3) := by decide +kernel
theorem dM_rest_104 : decode cM_rest 104 = .ok (.ldc2_w 74, 3) := by decide +kernel
theorem dM_rest_107 : decode cM_rest 107 = .ok (.lload_n 1, 1) := by decide +kernel
theorem dM_rest_108 : decode cM_rest 108 = .ok (.lmul, 1) := by decide +kernel
theorem dM_rest_109 : decode cM_rest 109 = .ok (.aload_n 0, 1) := by decide +kernel
theorem dM_rest_110 : decode cM_rest 110 = .ok (.getfield 53, 3) := by decide +kernel
theorem dM_rest_113 : decode cM_rest 113 = .ok (.lrem, 1) := by decide +kernel
theorem dM_rest_114 : decode cM_rest 114 = .ok (.lstore_n 1, 1) := by decide +kernel
theorem dM_rest_115 : decode cM_rest 115 = .ok (.iinc 4 (-1), 3) := by decide +kernel
theorem dM_rest_118 : decode cM_rest 118 = .ok (.goto (-23), 3) := by decide +kernel
theorem dM_rest_121 : decode cM_rest 121 = .ok (.aload_n 0, 1) := by decide +kernel
theorem dM_rest_122 : decode cM_rest 122 = .ok (.getfield 56, 3) := by decide +kernel
theorem dM_rest_125 : decode cM_rest 125 = .ok (.istore_n 3, 1) := by decide +kernel
theorem dM_rest_126 : decode cM_rest 126 = .ok (.goto 57, 3) := by decide +kernel
theorem dM_rest_129 : decode cM_rest 129 = .ok (.aload_n 0, 1) := by decide +kernel
theorem dM_rest_130 : decode cM_rest 130 = .ok (.getfield 47, 3) := by decide +kernel
theorem dM_rest_133 : decode cM_rest 133 = .ok (.iconst 2, 1) := by decide +kernel
theorem dM_rest_134 : decode cM_rest 134 = .ok (.if_icmp .ne 49, 3) := by decide +kernel
theorem dM_rest_137 : decode cM_rest 137 = .ok (.aload_n 0, 1) := by decide +kernel
theorem dM_rest_138 : decode cM_rest 138 = .ok (.getfield 56, 3) := by decide +kernel
theorem dM_rest_141 : decode cM_rest 141 = .ok (.aload_n 0, 1) := by decide +kernel
theorem dM_rest_142 : decode cM_rest 142 = .ok (.getfield 40, 3) := by decide +kernel
theorem dM_rest_145 : decode cM_rest 145 = .ok (.isub, 1) := by decide +kernel
theorem dM_rest_146 : decode cM_rest 146 = .ok (.istore 4, 2) := by decide +kernel
theorem dM_rest_148 : decode cM_rest 148 = .ok (.iload 4, 2) := by decide +kernel
theorem dM_rest_150 : decode cM_rest 150 = .ok (.bipush 54, 2) := by decide +kernel
theorem dM_rest_152 : decode cM_rest 152 = .ok (.if_icmp .ge 31, 3) := by decide +kernel
theorem dM_rest_155 : decode cM_rest 155 = .ok (.aload_n 0, 1) := by decide +kernel
theorem dM_rest_156 : decode cM_rest 156 = .ok (.getfield 53, 3) := by decide +kernel
theorem dM_rest_159 : decode cM_rest 159 = .ok (.lconst 1, 1) := by decide +kernel
theorem dM_rest_160 : decode cM_rest 160 = .ok (.bipush 62, 2) := by decide +kernel
theorem dM_rest_162 : decode cM_rest 162 = .ok (.iload 4, 2) := by decide +kernel
theorem dM_rest_164 : decode cM_rest 164 = .ok (.isub, 1) := by decide +kernel
theorem dM_rest_165 : decode cM_rest 165 = .ok (.lshl, 1) := by decide +kernel
theorem dM_rest_166 : decode cM_rest 166 = .ok (.lcmp, 1) := by decide +kernel
theorem dM_rest_167 : decode cM_rest 167 = .ok (.ifCond .ge 16, 3) := by decide +kernel
theorem dM_rest_170 : decode cM_rest 170 = .ok (.aload_n 0, 1) := by decide +kernel
theorem dM_rest_171 : decode cM_rest 171 = .ok (.getfield 36, 3) := by decide +kernel
theorem dM_rest_174 : decode cM_rest 174 = .ok (.aload_n 0, 1) := by decide +kernel
theorem dM_rest_175 : decode cM_rest 175 = .ok (.getfield 53, 3) := by decide +kernel
theorem dM_rest_178 : decode cM_rest 178 = .ok (.iload 4, 2) := by decide +kernel
theorem dM_rest_180 : decode cM_rest 180 = .ok (.lshl, 1) := by decide +kernel
theorem dM_rest_181 : decode cM_rest 181 = .ok (.lrem, 1) := by decide +kernel
theorem dM_rest_182 : decode cM_rest 182 = .ok (.lstore_n 1, 1) := by decide +kernel
theorem dM_rest_183 : decode cM_rest 183 = .ok (.lload_n 1, 1) := by decide +kernel
theorem dM_rest_184 : decode cM_rest 184 = .ok (.lconst 0, 1) := by decide +kernel
theorem dM_rest_185 : decode cM_rest 185 = .ok (.lcmp, 1) := by decide +kernel
theorem dM_rest_186 : decode cM_rest 186 = .ok (.ifCond .ne 14, 3) := by decide +kernel
theorem dM_rest_189 : decode cM_rest 189 = .ok (.aload_n 0, 1) := by decide +kernel
theorem dM_rest_190 : decode cM_rest 190 = .ok (.aload_n 0, 1) := by decide +kernel
theorem dM_rest_191 : decode cM_rest 191 = .ok (.getfield 30, 3) := by decide +kernel
theorem dM_rest_194 : decode cM_rest 194 = .ok (.lconst 0, 1) := by decide +kernel
theorem dM_rest_195 : decode cM_rest 195 = .ok (.lconst 0, 1) := by decide +kernel
theorem dM_rest_196 : decode cM_rest 196 = .ok (.invokevirtual 59, 3) := by decide +kernel
theorem dM_rest_199 : decode cM_rest 199 = .ok (.lreturn, 1) := by decide +kernel
theorem dM_rest_200 : decode cM_rest 200 = .ok (.aload_n 0, 1) := by decide +kernel
theorem dM_rest_201 : decode cM_rest 201 = .ok (.invokevirtual 114, 3) := by decide +kernel
theorem dM_rest_204 : decode cM_rest 204 = .ok (.aload_n 0, 1) := by decide +kernel
theorem dM_rest_205 : decode cM_rest 205 = .ok (.lload_n 1, 1) := by decide +kernel
theorem dM_rest_206 : decode cM_rest 206 = .ok (.iconst 0, 1) := by decide +kernel
theorem dM_rest_207 : decode cM_rest 207 = .ok (.invokevirtual 117, 3) := by decide +kernel
theorem dM_rest_210 : decode cM_rest 210 = .ok (.aload_n 0, 1) := by decide +kernel
theorem dM_rest_211 : decode cM_rest 211 = .ok (.aload_n 0, 1) := by decide +kernel
theorem dM_rest_212 : decode cM_rest 212 = .ok (.getfield 30, 3) := by decide +kernel
theorem dM_rest_215 : decode cM_rest 215 = .ok (.iload_n 3, 1) := by decide +kernel
theorem dM_rest_216 : decode cM_rest 216 = .ok (.iconst 0, 1) := by decide +kernel
theorem dM_rest_217 : decode cM_rest 217 = .ok (.invokevirtual 121, 3) := by decide +kernel
theorem dM_rest_220 : decode cM_rest 220 = .ok (.lreturn, 1) := by decide +kernel
theorem dM_compare_0 : decode cM_compare 0 = .ok (.aload_n 0, 1) := by decide +kernel
theorem dM_compare_1 : decode cM_compare 1 = .ok (.iload_n 2, 1) := by decide +kernel
theorem dM_compare_2 : decode cM_compare 2 = .ok (.bipush 15, 2) := by decide +kernel
theorem dM_compare_4 : decode cM_compare 4 = .ok (.invokestatic 83, 3) := by decide +kernel
theorem dM_compare_7 : decode cM_compare 7 = .ok (.ifCond .eq 12, 3) := by decide +kernel
theorem dM_compare_10 : decode cM_compare 10 = .ok (.iload_n 3, 1) := by decide +kernel
theorem dM_compare_11 : decode cM_compare 11 = .ok (.bipush 15, 2) := by decide +kernel
theorem dM_compare_13 : decode cM_compare 13 = .ok (.invokestatic 83, 3) := by decide +kernel
theorem dM_compare_16 : decode cM_compare 16 = .ok (.ifCond .ne 7, 3) := by decide +kernel
theorem dM_compare_19 : decode cM_compare 19 = .ok (.iconst 1, 1) := by decide +kernel
theorem dM_compare_20 : decode cM_compare 20 = .ok (.goto 4, 3) := by decide +kernel
theorem dM_compare_23 : decode cM_compare 23 = .ok (.iconst 0, 1) := by decide +kernel
theorem dM_compare_24 : decode cM_compare 24 = .ok (.invokevirtual 87, 3) := by decide +kernel
theorem dM_compare_27 : decode cM_compare 27 = .ok (.ifCond .eq 5, 3) := by decide +kernel
theorem dM_compare_30 : decode cM_compare 30 = .ok (.iconst 0, 1) := by decide +kernel
theorem dM_compare_31 : decode cM_compare 31 = .ok (.ireturn, 1) := by decide +kernel
theorem dM_compare_32 : decode cM_compare 32 = .ok (.aload_n 0, 1) := by decide +kernel
theorem dM_compare_33 : decode cM_compare 33 = .ok (.iload_n 1, 1) := by decide +kernel
theorem dM_compare_34 : decode cM_compare 34 = .ok (.invokevirtual 91, 3) := by decide +kernel
theorem dM_compare_37 : decode cM_compare 37 = .ok (.aload_n 0, 1) := by decide +kernel
theorem dM_compare_38 : decode cM_compare 38 = .ok (.iload_n 2, 1) := by decide +kernel
theorem dM_compare_39 : decode cM_compare 39 = .ok (.iload_n 3, 1) := by decide +kernel
theorem dM_compare_40 : decode cM_compare 40 = .ok (.invokevirtual 95, 3) := by decide +kernel
theorem dM_compare_43 : decode cM_compare 43 = .ok (.aload_n 0, 1) := by decide +kernel
theorem dM_compare_44 : decode cM_compare 44 = .ok (.getfield 33, 3) := by decide +kernel
theorem dM_compare_47 : decode cM_compare 47 = .ok (.ifCond .eq 10, 3) := by decide +kernel
theorem dM_compare_50 : decode cM_compare 50 = .ok (.aload_n 0, 1) := by decide +kernel
theorem dM_compare_51 : decode cM_compare 51 = .ok (.getfield 47, 3) := by decide +kernel
theorem dM_compare_54 : decode cM_compare 54 = .ok (.ifCond .ne 6, 3) := by decide +kernel
theorem dM_compare_57 : decode cM_compare 57 = .ok (.iload 4, 2) := by decide +kernel
theorem dM_compare_59 : decode cM_compare 59 = .ok (.ireturn, 1) := by decide +kernel
theorem dM_compare_60 : decode cM_compare 60 = .ok (.aload_n 0, 1) := by decide +kernel
theorem dM_compare_61 : decode cM_compare 61 = .ok (.getfield 33, 3) := by decide +kernel
theorem dM_compare_64 : decode cM_compare 64 = .ok (.iconst 2, 1) := by decide +kernel
theorem dM_compare_65 : decode cM_compare 65 = .ok (.if_icmp .ne 16, 3) := by decide +kernel
theorem dM_compare_68 : decode cM_compare 68 = .ok (.aload_n 0, 1) := by decide +kernel
theorem dM_compare_69 : decode cM_compare 69 = .ok (.getfield 36, 3) := by decide +kernel
theorem dM_compare_72 : decode cM_compare 72 = .ok (.lconst 0, 1) := by decide +kernel
theorem dM_compare_73 : decode cM_compare 73 = .ok (.lcmp, 1) := by decide +kernel
theorem dM_compare_74 : decode cM_compare 74 = .ok (.ifCond .ne 7, 3) := by decide +kernel
theorem dM_compare_77 : decode cM_compare 77 = .ok (.iconst 1, 1) := by decide +kernel
theorem dM_compare_78 : decode cM_compare 78 = .ok (.goto 4, 3) := by decide +kernel
theorem dM_compare_81 : decode cM_compare 81 = .ok (.iconst 0, 1) := by decide +kernel
theorem dM_compare_82 : decode cM_compare 82 = .ok (.istore 5, 2) := by decide +kernel
theorem dM_compare_84 : decode cM_compare 84 = .ok (.aload_n 0, 1) := by decide +kernel
theorem dM_compare_85 : decode cM_compare 85 = .ok (.getfield 47, 3) := by decide +kernel
theorem dM_compare_88 : decode cM_compare 88 = .ok (.iconst 2, 1) := by decide +kernel
theorem dM_compare_89 : decode cM_compare 89 = .ok (.if_icmp .ne 16, 3) := by decide +kernel
theorem dM_compare_92 : decode cM_compare 92 = .ok (.aload_n 0, 1) := by decide +kernel
theorem dM_compare_93 : decode cM_compare 93 = .ok (.getfield 53, 3) := by decide +kernel
theorem dM_compare_96 : decode cM_compare 96 = .ok (.lconst 0, 1) := by decide +kernel
theorem dM_compare_97 : decode cM_compare 97 = .ok (.lcmp, 1) := by decide +kernel
theorem dM_compare_98 : decode cM_compare 98 = .ok (.ifCond .ne 7, 3) := by decide +kernel
theorem dM_compare_101 : decode cM_compare 101 = .ok (.iconst 1, 1) := by decide +kernel
theorem dM_compare_102 : decode cM_compare 102 = .ok (.goto 4, 3) := by decide +kernel
theorem dM_compare_105 : decode cM_compare 105 = .ok (.iconst 0, 1) := by decide +kernel
theorem dM_compare_106 : decode cM_compare 106 = .ok (.istore 6, 2) := by decide +kernel
theorem dM_compare_108 : decode cM_compare 108 = .ok (.iload 5, 2) := by decide +kernel
theorem dM_compare_110 : decode cM_compare 110 = .ok (.ifCond .eq 7, 3) := by decide +kernel
theorem dM_compare_113 : decode cM_compare 113 = .ok (.iconst 0, 1) := by decide +kernel
theorem dM_compare_114 : decode cM_compare 114 = .ok (.goto 16, 3) := by decide +kernel
theorem dM_compare_117 : decode cM_compare 117 = .ok (.aload_n 0, 1) := by decide +kernel
theorem dM_compare_118 : decode cM_compare 118 = .ok (.getfield 30, 3) := by decide +kernel
theorem dM_compare_121 : decode cM_compare 121 = .ok (.iconst 1, 1) := by decide +kernel
theorem dM_compare_122 : decode cM_compare 122 = .ok (.if_icmp .ne 7, 3) := by decide +kernel
theorem dM_compare_125 : decode cM_compare 125 = .ok (.iconst (-1), 1) := by decide +kernel
theorem dM_compare_126 : decode cM_compare 126 = .ok (.goto 4, 3) := by decide +kernel
theorem dM_compare_129 : decode cM_compare 129 = .ok (.iconst 1, 1) := by decide +kernel
theorem dM_compare_130 : decode cM_compare 130 = .ok (.istore 7, 2) := by decide +kernel
theorem dM_compare_132 : decode cM_compare 132 = .ok (.iload 6, 2) := by decide +kernel
theorem dM_compare_134 : decode cM_compare 134 = .ok (.ifCond .eq 7, 3) := by decide +kernel
theorem dM_compare_137 : decode cM_compare 137 = .ok (.iconst 0, 1) := by decide +kernel
theorem dM_compare_138 : decode cM_compare 138 = .ok (.goto 16, 3) := by decide +kernel
theorem dM_compare_141 : decode cM_compare 141 = .ok (.aload_n 0, 1) := by decide +kernel
theorem dM_compare_142 : decode cM_compare 142 = .ok (.getfield 50, 3) := by decide +kernel
theorem dM_compare_145 : decode cM_compare 145 = .ok (.iconst 1, 1) := by decide +kernel
theorem dM_compare_146 : decode cM_compare 146 = .ok (.if_icmp .ne 7, 3) := by decide +kernel
theorem dM_compare_149 : decode cM_compare 149 = .ok (.iconst (-1), 1) := by decide +kernel
theorem dM_compare_150 : decode cM_compare 150 = .ok (.goto 4, 3) := by decide +kernel
theorem dM_compare_153 : decode cM_compare 153 = .ok (.iconst 1, 1) := by decide +kernel
theorem dM_compare_154 : decode cM_compare 154 = .ok (.istore 8, 2) := by decide +kernel
theorem dM_compare_156 : decode cM_compare 156 = .ok (.iload 7, 2) := by decide +kernel
theorem dM_compare_158 : decode cM_compare 158 = .ok (.iload 8, 2) := by decide +kernel
theorem dM_compare_160 : decode cM_compare 160 = .ok (.if_icmp .eq 16, 3) := by decide +kernel
theorem dM_compare_163 : decode cM_compare 163 = .ok (.iload 7, 2) := by decide +kernel
theorem dM_compare_165 : decode cM_compare 165 = .ok (.iload 8, 2) := by decide +kernel
theorem dM_compare_167 : decode cM_compare 167 = .ok (.if_icmp .ge 7, 3) := by decide +kernel
theorem dM_compare_170 : decode cM_compare 170 = .ok (.iconst (-1), 1) := by decide +kernel
theorem dM_compare_171 : decode cM_compare 171 = .ok (.goto 4, 3) := by decide +kernel
theorem dM_compare_174 : decode cM_compare 174 = .ok (.iconst 1, 1) := by decide +kernel
theorem dM_compare_175 : decode cM_compare 175 = .ok (.ireturn, 1) := by decide +kernel
theorem dM_compare_176 : decode cM_compare 176 = .ok (.iload 7, 2) := by decide +kernel
theorem dM_compare_178 : decode cM_compare 178 = .ok (.ifCond .ne 5, 3) := by decide +kernel
theorem dM_compare_181 : decode cM_compare 181 = .ok (.iconst 0, 1) := by decide +kernel
theorem dM_compare_182 : decode cM_compare 182 = .ok (.ireturn, 1) := by decide +kernel
theorem dM_compare_183 : decode cM_compare 183 = .ok (.iconst 0, 1) := by decide +kernel
theorem dM_compare_184 : decode cM_compare 184 = .ok (.istore 9, 2) := by decide +kernel
theorem dM_compare_186 : decode cM_compare 186 = .ok (.aload_n 0, 1) := by decide +kernel
theorem dM_compare_187 : decode cM_compare 187 = .ok (.getfield 33, 3) := by decide +kernel
theorem dM_compare_190 : decode cM_compare 190 = .ok (.iconst 1, 1) := by decide +kernel
theorem dM_compare_191 : decode cM_compare 191 = .ok (.if_icmp .eq 11, 3) := by decide +kernel
theorem dM_compare_194 : decode cM_compare 194 = .ok (.aload_n 0, 1) := by decide +kernel
theorem dM_compare_195 : decode cM_compare 195 = .ok (.getfield 47, 3) := by decide +kernel
theorem dM_compare_198 : decode cM_compare 198 = .ok (.iconst 1, 1) := by decide +kernel
theorem dM_compare_199 : decode cM_compare 199 = .ok (.if_icmp .ne 17, 3) := by decide +kernel
theorem dM_compare_202 : decode cM_compare 202 = .ok (.aload_n 0, 1) := by decide +kernel
theorem dM_compare_203 : decode cM_compare 203 = .ok (.getfield 47, 3) := by decide +kernel
theorem dM_compare_206 : decode cM_compare 206 = .ok (.aload_n 0, 1) := by decide +kernel
theorem dM_compare_207 : decode cM_compare 207 = .ok (.getfield 33, 3) := by decide +kernel
theorem dM_compare_210 : decode cM_compare 210 = .ok (.isub, 1) := by decide +kernel
theorem dM_compare_211 : decode cM_compare 211 = .ok (.istore 9, 2) := by decide +kernel
theorem dM_compare_213 : decode cM_compare 213 = .ok (.goto 69, 3) := by decide +kernel
theorem dM_compare_216 : decode cM_compare 216 = .ok (.aload_n 0, 1) := by decide +kernel
theorem dM_compare_217 : decode cM_compare 217 = .ok (.getfield 27, 3) := by decide +kernel
theorem dM_compare_220 : decode cM_compare 220 = .ok (.istore 10, 2) := by decide +kernel
theorem dM_compare_222 : decode cM_compare 222 = .ok (.iload 10, 2) := by decide +kernel
theorem dM_compare_224 : decode cM_compare 224 = .ok (.iconst 1, 1) := by decide +kernel
theorem dM_compare_225 : decode cM_compare 225 = .ok (.aload_n 0, 1) := by decide +kernel
theorem dM_compare_226 : decode cM_compare 226 = .ok (.getfield 27, 3) := by decide +kernel
theorem dM_compare_229 : decode cM_compare 229 = .ok (.isub, 1) := by decide +kernel
theorem dM_compare_230 : decode cM_compare 230 = .ok (.aload_n 0, 1) := by decide +kernel
theorem dM_compare_231 : decode cM_compare 231 = .ok (.getfield 24, 3) := by decide +kernel
theorem dM_compare_234 : decode cM_compare 234 = .ok (.iconst 1, 1) := by decide +kernel
theorem dM_compare_235 : decode cM_compare 235 = .ok (.isub, 1) := by decide +kernel
theorem dM_compare_236 : decode cM_compare 236 = .ok (.isub, 1) := by decide +kernel
theorem dM_compare_237 : decode cM_compare 237 = .ok (.if_icmp .lt 45, 3) := by decide +kernel
theorem dM_compare_240 : decode cM_compare 240 = .ok (.iload 9, 2) := by decide +kernel
theorem dM_compare_242 : decode cM_compare 242 = .ok (.ifCond .ne 40, 3) := by decide +kernel
theorem dM_compare_245 : decode cM_compare 245 = .ok (.aload_n 0, 1) := by decide +kernel
theorem dM_compare_246 : decode cM_compare 246 = .ok (.getfield 36, 3) := by decide +kernel
theorem dM_compare_249 : decode cM_compare 249 = .ok (.iload 10, 2) := by decide +kernel
theorem dM_compare_251 : decode cM_compare 251 = .ok (.aload_n 0, 1) := by decide +kernel
theorem dM_compare_252 : decode cM_compare 252 = .ok (.getfield 40, 3) := by decide +kernel
theorem dM_compare_255 : decode cM_compare 255 = .ok (.isub, 1) := by decide +kernel
theorem dM_compare_256 : decode cM_compare 256 = .ok (.invokestatic 125, 3) := by decide +kernel
theorem dM_compare_259 : decode cM_compare 259 = .ok (.aload_n 0, 1) := by decide +kernel
theorem dM_compare_260 : decode cM_compare 260 = .ok (.getfield 53, 3) := by decide +kernel
theorem dM_compare_263 : decode cM_compare 263 = .ok (.iload 10, 2) := by decide +kernel
theorem dM_compare_265 : decode cM_compare 265 = .ok (.aload_n 0, 1) := by decide +kernel
theorem dM_compare_266 : decode cM_compare 266 = .ok (.getfield 56, 3) := by decide +kernel
theorem dM_compare_269 : decode cM_compare 269 = .ok (.isub, 1) := by decide +kernel
theorem dM_compare_270 : decode cM_compare 270 = .ok (.invokestatic 125, 3) := by decide +kernel
theorem dM_compare_273 : decode cM_compare 273 = .ok (.isub, 1) := by decide +kernel
theorem dM_compare_274 : decode cM_compare 274 = .ok (.istore 9, 2) := by decide +kernel
theorem dM_compare_276 : decode cM_compare 276 = .ok (.iinc 10 (-1), 3) := by decide +kernel
theorem dM_compare_279 : decode cM_compare 279 = .ok (.goto (-57), 3) := by decide +kernel
theorem dM_compare_282 : decode cM_compare 282 = .ok (.iload 9, 2) := by decide +kernel
theorem dM_compare_284 : decode cM_compare 284 = .ok (.ifCond .ne 7, 3) := by decide +kernel
theorem dM_compare_287 : decode cM_compare 287 = .ok (.iconst 0, 1) := by decide +kernel
theorem dM_compare_288 : decode cM_compare 288 = .ok (.goto 31, 3) := by decide +kernel
theorem dM_compare_291 : decode cM_compare 291 = .ok (.iload 9, 2) := by decide +kernel
theorem dM_compare_293 : decode cM_compare 293 = .ok (.ifCond .le 7, 3) := by decide +kernel
theorem dM_compare_296 : decode cM_compare 296 = .ok (.iconst 1, 1) := by decide +kernel
theorem dM_compare_297 : decode cM_compare 297 = .ok (.goto 4, 3) := by decide +kernel
theorem dM_compare_300 : decode cM_compare 300 = .ok (.iconst 0, 1) := by decide +kernel
theorem dM_compare_301 : decode cM_compare 301 = .ok (.iload 7, 2) := by decide +kernel
theorem dM_compare_303 : decode cM_compare 303 = .ok (.ifCond .le 7, 3) := by decide +kernel
theorem dM_compare_306 : decode cM_compare 306 = .ok (.iconst 1, 1) := by decide +kernel
theorem dM_compare_307 : decode cM_compare 307 = .ok (.goto 4, 3) := by decide +kernel
theorem dM_compare_310 : decode cM_compare 310 = .ok (.iconst 0, 1) := by decide +kernel
theorem dM_compare_311 : decode cM_compare 311 = .ok (.if_icmp .ne 7, 3) := by decide +kernel
theorem dM_compare_314 : decode cM_compare 314 = .ok (.iconst 1, 1) := by decide +kernel
theorem dM_compare_315 : decode cM_compare 315 = .ok (.goto 4, 3) := by decide +kernel
theorem dM_compare_318 : decode cM_compare 318 = .ok (.iconst (-1), 1) := by decide +kernel
theorem dM_compare_319 : decode cM_compare 319 = .ok (.ireturn, 1) := by decide +kernel
theorem dM_bit_0 : decode cM_bit 0 = .ok (.iload_n 2, 1) := by decide +kernel
theorem dM_bit_1 : decode cM_bit 1 = .ok (.ifCond .lt 9, 3) := by decide +kernel
theorem dM_bit_4 : decode cM_bit 4 = .ok (.iload_n 2, 1) := by decide +kernel
theorem dM_bit_5 : decode cM_bit 5 = .ok (.bipush 62, 2) := by decide +kernel
theorem dM_bit_7 : decode cM_bit 7 = .ok (.if_icmp .le 7, 3) := by decide +kernel
theorem dM_bit_10 : decode cM_bit 10 = .ok (.iconst 0, 1) := by decide +kernel
theorem dM_bit_11 : decode cM_bit 11 = .ok (.goto 9, 3) := by decide +kernel
theorem dM_bit_14 : decode cM_bit 14 = .ok (.lload_n 0, 1) := by decide +kernel
theorem dM_bit_15 : decode cM_bit 15 = .ok (.iload_n 2, 1) := by decide +kernel
theorem dM_bit_16 : decode cM_bit 16 = .ok (.lshr, 1) := by decide +kernel
theorem dM_bit_17 : decode cM_bit 17 = .ok (.lconst 1, 1) := by decide +kernel
theorem dM_bit_18 : decode cM_bit 18 = .ok (.land, 1) := by decide +kernel
theorem dM_bit_19 : decode cM_bit 19 = .ok (.l2i, 1) := by decide +kernel
theorem dM_bit_20 : decode cM_bit 20 = .ok (.ireturn, 1) := by decide +kernel
theorem dM_of_0 : decode cM_of 0 = .ok (.aload_n 0, 1) := by decide +kernel
theorem dM_of_1 : decode cM_of 1 = .ok (.iload_n 2, 1) := by decide +kernel
theorem dM_of_2 : decode cM_of 2 = .ok (.bipush 15, 2) := by decide +kernel
theorem dM_of_4 : decode cM_of 4 = .ok (.invokestatic 83, 3) := by decide +kernel
theorem dM_of_7 : decode cM_of 7 = .ok (.ifCond .ne 7, 3) := by decide +kernel
theorem dM_of_10 : decode cM_of 10 = .ok (.iconst 1, 1) := by decide +kernel
theorem dM_of_11 : decode cM_of 11 = .ok (.goto 4, 3) := by decide +kernel
theorem dM_of_14 : decode cM_of 14 = .ok (.iconst 0, 1) := by decide +kernel
theorem dM_of_15 : decode cM_of 15 = .ok (.invokevirtual 87, 3) := by decide +kernel
theorem dM_of_18 : decode cM_of 18 = .ok (.ifCond .eq 5, 3) := by decide +kernel
theorem dM_of_21 : decode cM_of 21 = .ok (.lconst 0, 1) := by decide +kernel
theorem dM_of_22 : decode cM_of 22 = .ok (.lreturn, 1) := by decide +kernel
theorem dM_of_23 : decode cM_of 23 = .ok (.aload_n 0, 1) := by decide +kernel
theorem dM_of_24 : decode cM_of 24 = .ok (.iload_n 1, 1) := by decide +kernel
theorem dM_of_25 : decode cM_of 25 = .ok (.invokevirtual 91, 3) := by decide +kernel
theorem dM_of_28 : decode cM_of 28 = .ok (.lconst 0, 1) := by decide +kernel
theorem dM_of_29 : decode cM_of 29 = .ok (.lstore 5, 2) := by decide +kernel
theorem dM_of_31 : decode cM_of 31 = .ok (.lload_n 3, 1) := by decide +kernel
theorem dM_of_32 : decode cM_of 32 = .ok (.lconst 0, 1) := by decide +kernel
theorem dM_of_33 : decode cM_of 33 = .ok (.lcmp, 1) := by decide +kernel
theorem dM_of_34 : decode cM_of 34 = .ok (.ifCond .eq 43, 3) := by decide +kernel
theorem dM_of_37 : decode cM_of 37 = .ok (.aload_n 0, 1) := by decide +kernel
theorem dM_of_38 : decode cM_of 38 = .ok (.invokevirtual 114, 3) := by decide +kernel
theorem dM_of_41 : decode cM_of 41 = .ok (.aload_n 0, 1) := by decide +kernel
theorem dM_of_42 : decode cM_of 42 = .ok (.lload_n 3, 1) := by decide +kernel
theorem dM_of_43 : decode cM_of 43 = .ok (.lconst 0, 1) := by decide +kernel
theorem dM_of_44 : decode cM_of 44 = .ok (.lcmp, 1) := by decide +kernel
theorem dM_of_45 : decode cM_of 45 = .ok (.ifCond .ge 8, 3) := by decide +kernel
theorem dM_of_48 : decode cM_of 48 = .ok (.lload_n 3, 1) := by decide +kernel
theorem dM_of_49 : decode cM_of 49 = .ok (.lneg, 1) := by decide +kernel
theorem dM_of_50 : decode cM_of 50 = .ok (.goto 4, 3) := by decide +kernel
theorem dM_of_53 : decode cM_of 53 = .ok (.lload_n 3, 1) := by decide +kernel
theorem dM_of_54 : decode cM_of 54 = .ok (.iconst 0, 1) := by decide +kernel
theorem dM_of_55 : decode cM_of 55 = .ok (.invokevirtual 117, 3) := by decide +kernel
theorem dM_of_58 : decode cM_of 58 = .ok (.aload_n 0, 1) := by decide +kernel
theorem dM_of_59 : decode cM_of 59 = .ok (.lload_n 3, 1) := by decide +kernel
theorem dM_of_60 : decode cM_of 60 = .ok (.lconst 0, 1) := by decide +kernel
theorem dM_of_61 : decode cM_of 61 = .ok (.lcmp, 1) := by decide +kernel
theorem dM_of_62 : decode cM_of 62 = .ok (.ifCond .ge 7, 3) := by decide +kernel
theorem dM_of_65 : decode cM_of 65 = .ok (.iconst 1, 1) := by decide +kernel
theorem dM_of_66 : decode cM_of 66 = .ok (.goto 4, 3) := by decide +kernel
theorem dM_of_69 : decode cM_of 69 = .ok (.iconst 0, 1) := by decide +kernel
theorem dM_of_70 : decode cM_of 70 = .ok (.iconst 0, 1) := by decide +kernel
theorem dM_of_71 : decode cM_of 71 = .ok (.iconst 0, 1) := by decide +kernel
theorem dM_of_72 : decode cM_of 72 = .ok (.invokevirtual 121, 3) := by decide +kernel
theorem dM_of_75 : decode cM_of 75 = .ok (.lstore 5, 2) := by decide +kernel
theorem dM_of_77 : decode cM_of 77 = .ok (.aload_n 0, 1) := by decide +kernel
theorem dM_of_78 : decode cM_of 78 = .ok (.getfield 16, 3) := by decide +kernel
theorem dM_of_81 : decode cM_of 81 = .ok (.iload_n 2, 1) := by decide +kernel
theorem dM_of_82 : decode cM_of 82 = .ok (.lload 5, 2) := by decide +kernel
theorem dM_of_84 : decode cM_of 84 = .ok (.lastore, 1) := by decide +kernel
theorem dM_of_85 : decode cM_of 85 = .ok (.lload 5, 2) := by decide +kernel
theorem dM_of_87 : decode cM_of 87 = .ok (.lreturn, 1) := by decide +kernel
theorem dM_whole_0 : decode cM_whole 0 = .ok (.aload_n 0, 1) := by decide +kernel
theorem dM_whole_1 : decode cM_whole 1 = .ok (.iload_n 2, 1) := by decide +kernel
theorem dM_whole_2 : decode cM_whole 2 = .ok (.bipush 15, 2) := by decide +kernel
theorem dM_whole_4 : decode cM_whole 4 = .ok (.invokestatic 83, 3) := by decide +kernel
theorem dM_whole_7 : decode cM_whole 7 = .ok (.ifCond .ne 7, 3) := by decide +kernel
theorem dM_whole_10 : decode cM_whole 10 = .ok (.iconst 1, 1) := by decide +kernel
theorem dM_whole_11 : decode cM_whole 11 = .ok (.goto 4, 3) := by decide +kernel
theorem dM_whole_14 : decode cM_whole 14 = .ok (.iconst 0, 1) := by decide +kernel
theorem dM_whole_15 : decode cM_whole 15 = .ok (.invokevirtual 87, 3) := by decide +kernel
theorem dM_whole_18 : decode cM_whole 18 = .ok (.ifCond .eq 5, 3) := by decide +kernel
theorem dM_whole_21 : decode cM_whole 21 = .ok (.lconst 0, 1) := by decide +kernel
theorem dM_whole_22 : decode cM_whole 22 = .ok (.lreturn, 1) := by decide +kernel
theorem dM_whole_23 : decode cM_whole 23 = .ok (.aload_n 0, 1) := by decide +kernel
theorem dM_whole_24 : decode cM_whole 24 = .ok (.iload_n 1, 1) := by decide +kernel
theorem dM_whole_25 : decode cM_whole 25 = .ok (.invokevirtual 91, 3) := by decide +kernel
theorem dM_whole_28 : decode cM_whole 28 = .ok (.aload_n 0, 1) := by decide +kernel
theorem dM_whole_29 : decode cM_whole 29 = .ok (.iload_n 2, 1) := by decide +kernel
theorem dM_whole_30 : decode cM_whole 30 = .ok (.invokevirtual 43, 3) := by decide +kernel
theorem dM_whole_33 : decode cM_whole 33 = .ok (.iload_n 3, 1) := by decide +kernel
theorem dM_whole_34 : decode cM_whole 34 = .ok (.ifCond .eq 8, 3) := by decide +kernel
theorem dM_whole_37 : decode cM_whole 37 = .ok (.bipush 31, 2) := by decide +kernel
theorem dM_whole_39 : decode cM_whole 39 = .ok (.goto 5, 3) := by decide +kernel
theorem dM_whole_42 : decode cM_whole 42 = .ok (.bipush 63, 2) := by decide +kernel
theorem dM_whole_44 : decode cM_whole 44 = .ok (.istore 4, 2) := by decide +kernel
theorem dM_whole_46 : decode cM_whole 46 = .ok (.iload_n 3, 1) := by decide +kernel
theorem dM_whole_47 : decode cM_whole 47 = .ok (.ifCond .eq 9, 3) := by decide +kernel
theorem dM_whole_50 : decode cM_whole 50 = .ok (.ldc2_w 129, 3) := by decide +kernel
theorem dM_whole_53 : decode cM_whole 53 = .ok (.goto 6, 3) := by decide +kernel
theorem dM_whole_56 : decode cM_whole 56 = .ok (.ldc2_w 131, 3) := by decide +kernel
theorem dM_whole_59 : decode cM_whole 59 = .ok (.lstore 5, 2) := by decide +kernel
theorem dM_whole_61 : decode cM_whole 61 = .ok (.lload 5, 2) := by decide +kernel
theorem dM_whole_63 : decode cM_whole 63 = .ok (.lneg, 1) := by decide +kernel
theorem dM_whole_64 : decode cM_whole 64 = .ok (.lconst 1, 1) := by decide +kernel
theorem dM_whole_65 : decode cM_whole 65 = .ok (.lsub, 1) := by decide +kernel
theorem dM_whole_66 : decode cM_whole 66 = .ok (.lstore 7, 2) := by decide +kernel
theorem dM_whole_68 : decode cM_whole 68 = .ok (.aload_n 0, 1) := by decide +kernel
theorem dM_whole_69 : decode cM_whole 69 = .ok (.getfield 33, 3) := by decide +kernel
theorem dM_whole_72 : decode cM_whole 72 = .ok (.ifCond .ne 16, 3) := by decide +kernel
theorem dM_whole_75 : decode cM_whole 75 = .ok (.aload_n 0, 1) := by decide +kernel
theorem dM_whole_76 : decode cM_whole 76 = .ok (.dup, 1) := by decide +kernel
theorem dM_whole_77 : decode cM_whole 77 = .ok (.getfield 63, 3) := by decide +kernel
theorem dM_whole_80 : decode cM_whole 80 = .ok (.bipush 16, 2) := by decide +kernel
theorem dM_whole_82 : decode cM_whole 82 = .ok (.ior, 1) := by decide +kernel
theorem dM_whole_83 : decode cM_whole 83 = .ok (.putfield 63, 3) := by decide +kernel
theorem dM_whole_86 : decode cM_whole 86 = .ok (.lconst 0, 1) := by decide +kernel
theorem dM_whole_87 : decode cM_whole 87 = .ok (.lreturn, 1) := by decide +kernel
theorem dM_whole_88 : decode cM_whole 88 = .ok (.lconst 0, 1) := by decide +kernel
theorem dM_whole_89 : decode cM_whole 89 = .ok (.lstore 9, 2) := by decide +kernel
theorem dM_whole_91 : decode cM_whole 91 = .ok (.iconst 0, 1) := by decide +kernel
theorem dM_whole_92 : decode cM_whole 92 = .ok (.istore 11, 2) := by decide +kernel
theorem dM_whole_94 : decode cM_whole 94 = .ok (.aload_n 0, 1) := by decide +kernel
theorem dM_whole_95 : decode cM_whole 95 = .ok (.getfield 33, 3) := by decide +kernel
theorem dM_whole_98 : decode cM_whole 98 = .ok (.iconst 1, 1) := by decide +kernel
theorem dM_whole_99 : decode cM_whole 99 = .ok (.if_icmp .ne 7, 3) := by decide +kernel
theorem dM_whole_102 : decode cM_whole 102 = .ok (.iconst 1, 1) := by decide +kernel
theorem dM_whole_103 : decode cM_whole 103 = .ok (.goto 4, 3) := by decide +kernel
theorem dM_whole_106 : decode cM_whole 106 = .ok (.iconst 0, 1) := by decide +kernel
theorem dM_whole_107 : decode cM_whole 107 = .ok (.istore 12, 2) := by decide +kernel
theorem dM_whole_109 : decode cM_whole 109 = .ok (.iconst 0, 1) := by decide +kernel
theorem dM_whole_110 : decode cM_whole 110 = .ok (.istore 13, 2) := by decide +kernel
theorem dM_whole_112 : decode cM_whole 112 = .ok (.iload 13, 2) := by decide +kernel
theorem dM_whole_114 : decode cM_whole 114 = .ok (.bipush 53, 2) := by decide +kernel
theorem dM_whole_116 : decode cM_whole 116 = .ok (.if_icmp .ge 70, 3) := by decide +kernel
theorem dM_whole_119 : decode cM_whole 119 = .ok (.iload 12, 2) := by decide +kernel
theorem dM_whole_121 : decode cM_whole 121 = .ok (.ifCond .ne 65, 3) := by decide +kernel
theorem dM_whole_124 : decode cM_whole 124 = .ok (.aload_n 0, 1) := by decide +kernel
theorem dM_whole_125 : decode cM_whole 125 = .ok (.getfield 36, 3) := by decide +kernel
theorem dM_whole_128 : decode cM_whole 128 = .ok (.iload 13, 2) := by decide +kernel
theorem dM_whole_130 : decode cM_whole 130 = .ok (.lshr, 1) := by decide +kernel
theorem dM_whole_131 : decode cM_whole 131 = .ok (.lconst 1, 1) := by decide +kernel
theorem dM_whole_132 : decode cM_whole 132 = .ok (.land, 1) := by decide +kernel
theorem dM_whole_133 : decode cM_whole 133 = .ok (.lconst 1, 1) := by decide +kernel
theorem dM_whole_134 : decode cM_whole 134 = .ok (.lcmp, 1) := by decide +kernel
theorem dM_whole_135 : decode cM_whole 135 = .ok (.ifCond .ne 45, 3) := by decide +kernel
theorem dM_whole_138 : decode cM_whole 138 = .ok (.aload_n 0, 1) := by decide +kernel
theorem dM_whole_139 : decode cM_whole 139 = .ok (.getfield 40, 3) := by decide +kernel
theorem dM_whole_142 : decode cM_whole 142 = .ok (.iload 13, 2) := by decide +kernel
theorem dM_whole_144 : decode cM_whole 144 = .ok (.iadd, 1) := by decide +kernel
theorem dM_whole_145 : decode cM_whole 145 = .ok (.istore 14, 2) := by decide +kernel
theorem dM_whole_147 : decode cM_whole 147 = .ok (.iload 14, 2) := by decide +kernel
theorem dM_whole_149 : decode cM_whole 149 = .ok (.ifCond .ge 9, 3) := by decide +kernel
theorem dM_whole_152 : decode cM_whole 152 = .ok (.iconst 1, 1) := by decide +kernel
theorem dM_whole_153 : decode cM_whole 153 = .ok (.istore 11, 2) := by decide +kernel
theorem dM_whole_155 : decode cM_whole 155 = .ok (.goto 25, 3) := by decide +kernel
theorem dM_whole_158 : decode cM_whole 158 = .ok (.iload 14, 2) := by decide +kernel
theorem dM_whole_160 : decode cM_whole 160 = .ok (.iload 4, 2) := by decide +kernel
theorem dM_whole_162 : decode cM_whole 162 = .ok (.if_icmp .le 9, 3) := by decide +kernel
theorem dM_whole_165 : decode cM_whole 165 = .ok (.iconst 1, 1) := by decide +kernel
theorem dM_whole_166 : decode cM_whole 166 = .ok (.istore 12, 2) := by decide +kernel
theorem dM_whole_168 : decode cM_whole 168 = .ok (.goto 12, 3) := by decide +kernel
theorem dM_whole_171 : decode cM_whole 171 = .ok (.lload 9, 2) := by decide +kernel
theorem dM_whole_173 : decode cM_whole 173 = .ok (.lconst 1, 1) := by decide +kernel
theorem dM_whole_174 : decode cM_whole 174 = .ok (.iload 14, 2) := by decide +kernel
theorem dM_whole_176 : decode cM_whole 176 = .ok (.lshl, 1) := by decide +kernel
theorem dM_whole_177 : decode cM_whole 177 = .ok (.ladd, 1) := by decide +kernel
theorem dM_whole_178 : decode cM_whole 178 = .ok (.lstore 9, 2) := by decide +kernel
theorem dM_whole_180 : decode cM_whole 180 = .ok (.iinc 13 1, 3) := by decide +kernel
theorem dM_whole_183 : decode cM_whole 183 = .ok (.goto (-71), 3) := by decide +kernel
theorem dM_whole_186 : decode cM_whole 186 = .ok (.iload 12, 2) := by decide +kernel
theorem dM_whole_188 : decode cM_whole 188 = .ok (.ifCond .ne 39, 3) := by decide +kernel
theorem dM_whole_191 : decode cM_whole 191 = .ok (.lload 9, 2) := by decide +kernel
theorem dM_whole_193 : decode cM_whole 193 = .ok (.lconst 1, 1) := by decide +kernel
theorem dM_whole_194 : decode cM_whole 194 = .ok (.iload 4, 2) := by decide +kernel
theorem dM_whole_196 : decode cM_whole 196 = .ok (.lshl, 1) := by decide +kernel
theorem dM_whole_197 : decode cM_whole 197 = .ok (.lcmp, 1) := by decide +kernel
theorem dM_whole_198 : decode cM_whole 198 = .ok (.ifCond .ne 29, 3) := by decide +kernel
theorem dM_whole_201 : decode cM_whole 201 = .ok (.aload_n 0, 1) := by decide +kernel
theorem dM_whole_202 : decode cM_whole 202 = .ok (.getfield 30, 3) := by decide +kernel
theorem dM_whole_205 : decode cM_whole 205 = .ok (.iconst 1, 1) := by decide +kernel
theorem dM_whole_206 : decode cM_whole 206 = .ok (.if_icmp .ne 21, 3) := by decide +kernel
theorem dM_whole_209 : decode cM_whole 209 = .ok (.iload 11, 2) := by decide +kernel
theorem dM_whole_211 : decode cM_whole 211 = .ok (.ifCond .eq 13, 3) := by decide +kernel
theorem dM_whole_214 : decode cM_whole 214 = .ok (.aload_n 0, 1) := by decide +kernel
theorem dM_whole_215 : decode cM_whole 215 = .ok (.dup, 1) := by decide +kernel
theorem dM_whole_216 : decode cM_whole 216 = .ok (.getfield 63, 3) := by decide +kernel
theorem dM_whole_219 : decode cM_whole 219 = .ok (.iconst 1, 1) := by decide +kernel
theorem dM_whole_220 : decode cM_whole 220 = .ok (.ior, 1) := by decide +kernel
theorem dM_whole_221 : decode cM_whole 221 = .ok (.putfield 63, 3) := by decide +kernel
theorem dM_whole_224 : decode cM_whole 224 = .ok (.lload 7, 2) := by decide +kernel
theorem dM_whole_226 : decode cM_whole 226 = .ok (.lreturn, 1) := by decide +kernel
theorem dM_whole_227 : decode cM_whole 227 = .ok (.iload 12, 2) := by decide +kernel
theorem dM_whole_229 : decode cM_whole 229 = .ok (.ifCond .ne 18, 3) := by decide +kernel
theorem dM_whole_232 : decode cM_whole 232 = .ok (.lload 9, 2) := by decide +kernel
theorem dM_whole_234 : decode cM_whole 234 = .ok (.lconst 0, 1) := by decide +kernel
theorem dM_whole_235 : decode cM_whole 235 = .ok (.lcmp, 1) := by decide +kernel
theorem dM_whole_236 : decode cM_whole 236 = .ok (.ifCond .lt 11, 3) := by decide +kernel
theorem dM_whole_239 : decode cM_whole 239 = .ok (.lload 9, 2) := by decide +kernel
theorem dM_whole_241 : decode cM_whole 241 = .ok (.lload 5, 2) := by decide +kernel
theorem dM_whole_243 : decode cM_whole 243 = .ok (.lcmp, 1) := by decide +kernel
theorem dM_whole_244 : decode cM_whole 244 = .ok (.ifCond .le 30, 3) := by decide +kernel
theorem dM_whole_247 : decode cM_whole 247 = .ok (.aload_n 0, 1) := by decide +kernel
theorem dM_whole_248 : decode cM_whole 248 = .ok (.dup, 1) := by decide +kernel
theorem dM_whole_249 : decode cM_whole 249 = .ok (.getfield 63, 3) := by decide +kernel
theorem dM_whole_252 : decode cM_whole 252 = .ok (.bipush 16, 2) := by decide +kernel
theorem dM_whole_254 : decode cM_whole 254 = .ok (.ior, 1) := by decide +kernel
theorem dM_whole_255 : decode cM_whole 255 = .ok (.putfield 63, 3) := by decide +kernel
theorem dM_whole_258 : decode cM_whole 258 = .ok (.aload_n 0, 1) := by decide +kernel
theorem dM_whole_259 : decode cM_whole 259 = .ok (.getfield 30, 3) := by decide +kernel
theorem dM_whole_262 : decode cM_whole 262 = .ok (.iconst 1, 1) := by decide +kernel
theorem dM_whole_263 : decode cM_whole 263 = .ok (.if_icmp .ne 8, 3) := by decide +kernel
theorem dM_whole_266 : decode cM_whole 266 = .ok (.lload 7, 2) := by decide +kernel
theorem dM_whole_268 : decode cM_whole 268 = .ok (.goto 5, 3) := by decide +kernel
theorem dM_whole_271 : decode cM_whole 271 = .ok (.lload 5, 2) := by decide +kernel
theorem dM_whole_273 : decode cM_whole 273 = .ok (.lreturn, 1) := by decide +kernel
theorem dM_whole_274 : decode cM_whole 274 = .ok (.iload 11, 2) := by decide +kernel
theorem dM_whole_276 : decode cM_whole 276 = .ok (.ifCond .eq 13, 3) := by decide +kernel
theorem dM_whole_279 : decode cM_whole 279 = .ok (.aload_n 0, 1) := by decide +kernel
theorem dM_whole_280 : decode cM_whole 280 = .ok (.dup, 1) := by decide +kernel
theorem dM_whole_281 : decode cM_whole 281 = .ok (.getfield 63, 3) := by decide +kernel
theorem dM_whole_284 : decode cM_whole 284 = .ok (.iconst 1, 1) := by decide +kernel
theorem dM_whole_285 : decode cM_whole 285 = .ok (.ior, 1) := by decide +kernel
theorem dM_whole_286 : decode cM_whole 286 = .ok (.putfield 63, 3) := by decide +kernel
theorem dM_whole_289 : decode cM_whole 289 = .ok (.aload_n 0, 1) := by decide +kernel
theorem dM_whole_290 : decode cM_whole 290 = .ok (.getfield 30, 3) := by decide +kernel
theorem dM_whole_293 : decode cM_whole 293 = .ok (.iconst 1, 1) := by decide +kernel
theorem dM_whole_294 : decode cM_whole 294 = .ok (.if_icmp .ne 9, 3) := by decide +kernel
theorem dM_whole_297 : decode cM_whole 297 = .ok (.lload 9, 2) := by decide +kernel
theorem dM_whole_299 : decode cM_whole 299 = .ok (.lneg, 1) := by decide +kernel
theorem dM_whole_300 : decode cM_whole 300 = .ok (.goto 5, 3) := by decide +kernel
theorem dM_whole_303 : decode cM_whole 303 = .ok (.lload 9, 2) := by decide +kernel
theorem dM_whole_305 : decode cM_whole 305 = .ok (.lreturn, 1) := by decide +kernel
theorem dM_turn_0 : decode cM_turn 0 = .ok (.aload_n 0, 1) := by decide +kernel
theorem dM_turn_1 : decode cM_turn 1 = .ok (.iload_n 2, 1) := by decide +kernel
theorem dM_turn_2 : decode cM_turn 2 = .ok (.bipush 15, 2) := by decide +kernel
theorem dM_turn_4 : decode cM_turn 4 = .ok (.invokestatic 83, 3) := by decide +kernel
theorem dM_turn_7 : decode cM_turn 7 = .ok (.ifCond .eq 12, 3) := by decide +kernel
theorem dM_turn_10 : decode cM_turn 10 = .ok (.iload_n 3, 1) := by decide +kernel
theorem dM_turn_11 : decode cM_turn 11 = .ok (.bipush 15, 2) := by decide +kernel
theorem dM_turn_13 : decode cM_turn 13 = .ok (.invokestatic 83, 3) := by decide +kernel
theorem dM_turn_16 : decode cM_turn 16 = .ok (.ifCond .ne 7, 3) := by decide +kernel
theorem dM_turn_19 : decode cM_turn 19 = .ok (.iconst 1, 1) := by decide +kernel
theorem dM_turn_20 : decode cM_turn 20 = .ok (.goto 4, 3) := by decide +kernel
theorem dM_turn_23 : decode cM_turn 23 = .ok (.iconst 0, 1) := by decide +kernel
theorem dM_turn_24 : decode cM_turn 24 = .ok (.invokevirtual 87, 3) := by decide +kernel
theorem dM_turn_27 : decode cM_turn 27 = .ok (.ifCond .eq 5, 3) := by decide +kernel
theorem dM_turn_30 : decode cM_turn 30 = .ok (.lconst 0, 1) := by decide +kernel
theorem dM_turn_31 : decode cM_turn 31 = .ok (.lreturn, 1) := by decide +kernel
theorem dM_turn_32 : decode cM_turn 32 = .ok (.aload_n 0, 1) := by decide +kernel
theorem dM_turn_33 : decode cM_turn 33 = .ok (.iload_n 1, 1) := by decide +kernel
theorem dM_turn_34 : decode cM_turn 34 = .ok (.invokevirtual 91, 3) := by decide +kernel
theorem dM_turn_37 : decode cM_turn 37 = .ok (.aload_n 0, 1) := by decide +kernel
theorem dM_turn_38 : decode cM_turn 38 = .ok (.iload_n 3, 1) := by decide +kernel
theorem dM_turn_39 : decode cM_turn 39 = .ok (.invokevirtual 43, 3) := by decide +kernel
theorem dM_turn_42 : decode cM_turn 42 = .ok (.aload_n 0, 1) := by decide +kernel
theorem dM_turn_43 : decode cM_turn 43 = .ok (.iload_n 1, 1) := by decide +kernel
theorem dM_turn_44 : decode cM_turn 44 = .ok (.ifCond .ne 7, 3) := by decide +kernel
theorem dM_turn_47 : decode cM_turn 47 = .ok (.iconst 1, 1) := by decide +kernel
theorem dM_turn_48 : decode cM_turn 48 = .ok (.goto 4, 3) := by decide +kernel
theorem dM_turn_51 : decode cM_turn 51 = .ok (.iconst 0, 1) := by decide +kernel
theorem dM_turn_52 : decode cM_turn 52 = .ok (.invokevirtual 91, 3) := by decide +kernel
theorem dM_turn_55 : decode cM_turn 55 = .ok (.aload_n 0, 1) := by decide +kernel
theorem dM_turn_56 : decode cM_turn 56 = .ok (.getfield 33, 3) := by decide +kernel
theorem dM_turn_59 : decode cM_turn 59 = .ok (.ifCond .ne 12, 3) := by decide +kernel
theorem dM_turn_62 : decode cM_turn 62 = .ok (.aload_n 0, 1) := by decide +kernel
theorem dM_turn_63 : decode cM_turn 63 = .ok (.invokevirtual 66, 3) := by decide +kernel
theorem dM_turn_66 : decode cM_turn 66 = .ok (.lstore 4, 2) := by decide +kernel
theorem dM_turn_68 : decode cM_turn 68 = .ok (.goto 76, 3) := by decide +kernel
theorem dM_turn_71 : decode cM_turn 71 = .ok (.aload_n 0, 1) := by decide +kernel
theorem dM_turn_72 : decode cM_turn 72 = .ok (.getfield 33, 3) := by decide +kernel
theorem dM_turn_75 : decode cM_turn 75 = .ok (.iconst 1, 1) := by decide +kernel
theorem dM_turn_76 : decode cM_turn 76 = .ok (.if_icmp .ne 16, 3) := by decide +kernel
theorem dM_turn_79 : decode cM_turn 79 = .ok (.aload_n 0, 1) := by decide +kernel
theorem dM_turn_80 : decode cM_turn 80 = .ok (.aload_n 0, 1) := by decide +kernel
theorem dM_turn_81 : decode cM_turn 81 = .ok (.getfield 30, 3) := by decide +kernel
theorem dM_turn_84 : decode cM_turn 84 = .ok (.invokevirtual 79, 3) := by decide +kernel
theorem dM_turn_87 : decode cM_turn 87 = .ok (.lstore 4, 2) := by decide +kernel
theorem dM_turn_89 : decode cM_turn 89 = .ok (.goto 55, 3) := by decide +kernel
theorem dM_turn_92 : decode cM_turn 92 = .ok (.aload_n 0, 1) := by decide +kernel
theorem dM_turn_93 : decode cM_turn 93 = .ok (.getfield 36, 3) := by decide +kernel
theorem dM_turn_96 : decode cM_turn 96 = .ok (.lconst 0, 1) := by decide +kernel
theorem dM_turn_97 : decode cM_turn 97 = .ok (.lcmp, 1) := by decide +kernel
theorem dM_turn_98 : decode cM_turn 98 = .ok (.ifCond .ne 18, 3) := by decide +kernel
theorem dM_turn_101 : decode cM_turn 101 = .ok (.aload_n 0, 1) := by decide +kernel
theorem dM_turn_102 : decode cM_turn 102 = .ok (.aload_n 0, 1) := by decide +kernel
theorem dM_turn_103 : decode cM_turn 103 = .ok (.getfield 30, 3) := by decide +kernel
theorem dM_turn_106 : decode cM_turn 106 = .ok (.lconst 0, 1) := by decide +kernel
theorem dM_turn_107 : decode cM_turn 107 = .ok (.lconst 0, 1) := by decide +kernel
theorem dM_turn_108 : decode cM_turn 108 = .ok (.invokevirtual 59, 3) := by decide +kernel
theorem dM_turn_111 : decode cM_turn 111 = .ok (.lstore 4, 2) := by decide +kernel
theorem dM_turn_113 : decode cM_turn 113 = .ok (.goto 31, 3) := by decide +kernel
theorem dM_turn_116 : decode cM_turn 116 = .ok (.aload_n 0, 1) := by decide +kernel
theorem dM_turn_117 : decode cM_turn 117 = .ok (.invokevirtual 114, 3) := by decide +kernel
theorem dM_turn_120 : decode cM_turn 120 = .ok (.aload_n 0, 1) := by decide +kernel
theorem dM_turn_121 : decode cM_turn 121 = .ok (.aload_n 0, 1) := by decide +kernel
theorem dM_turn_122 : decode cM_turn 122 = .ok (.getfield 36, 3) := by decide +kernel
theorem dM_turn_125 : decode cM_turn 125 = .ok (.iconst 0, 1) := by decide +kernel
theorem dM_turn_126 : decode cM_turn 126 = .ok (.invokevirtual 117, 3) := by decide +kernel
theorem dM_turn_129 : decode cM_turn 129 = .ok (.aload_n 0, 1) := by decide +kernel
theorem dM_turn_130 : decode cM_turn 130 = .ok (.aload_n 0, 1) := by decide +kernel
theorem dM_turn_131 : decode cM_turn 131 = .ok (.getfield 30, 3) := by decide +kernel
theorem dM_turn_134 : decode cM_turn 134 = .ok (.aload_n 0, 1) := by decide +kernel
theorem dM_turn_135 : decode cM_turn 135 = .ok (.getfield 40, 3) := by decide +kernel
theorem dM_turn_138 : decode cM_turn 138 = .ok (.iconst 0, 1) := by decide +kernel
theorem dM_turn_139 : decode cM_turn 139 = .ok (.invokevirtual 121, 3) := by decide +kernel
theorem dM_turn_142 : decode cM_turn 142 = .ok (.lstore 4, 2) := by decide +kernel
theorem dM_turn_144 : decode cM_turn 144 = .ok (.aload_n 0, 1) := by decide +kernel
theorem dM_turn_145 : decode cM_turn 145 = .ok (.getfield 16, 3) := by decide +kernel
theorem dM_turn_148 : decode cM_turn 148 = .ok (.iload_n 2, 1) := by decide +kernel
theorem dM_turn_149 : decode cM_turn 149 = .ok (.lload 4, 2) := by decide +kernel
theorem dM_turn_151 : decode cM_turn 151 = .ok (.lastore, 1) := by decide +kernel
theorem dM_turn_152 : decode cM_turn 152 = .ok (.lload 4, 2) := by decide +kernel
theorem dM_turn_154 : decode cM_turn 154 = .ok (.lreturn, 1) := by decide +kernel
theorem dM_kind_0 : decode cM_kind 0 = .ok (.aload_n 0, 1) := by decide +kernel
theorem dM_kind_1 : decode cM_kind 1 = .ok (.iload_n 2, 1) := by decide +kernel
theorem dM_kind_2 : decode cM_kind 2 = .ok (.bipush 15, 2) := by decide +kernel
theorem dM_kind_4 : decode cM_kind 4 = .ok (.invokestatic 83, 3) := by decide +kernel
theorem dM_kind_7 : decode cM_kind 7 = .ok (.ifCond .ne 7, 3) := by decide +kernel
theorem dM_kind_10 : decode cM_kind 10 = .ok (.iconst 1, 1) := by decide +kernel
theorem dM_kind_11 : decode cM_kind 11 = .ok (.goto 4, 3) := by decide +kernel
theorem dM_kind_14 : decode cM_kind 14 = .ok (.iconst 0, 1) := by decide +kernel
theorem dM_kind_15 : decode cM_kind 15 = .ok (.invokevirtual 87, 3) := by decide +kernel
theorem dM_kind_18 : decode cM_kind 18 = .ok (.ifCond .eq 5, 3) := by decide +kernel
theorem dM_kind_21 : decode cM_kind 21 = .ok (.iconst 0, 1) := by decide +kernel
theorem dM_kind_22 : decode cM_kind 22 = .ok (.ireturn, 1) := by decide +kernel
theorem dM_kind_23 : decode cM_kind 23 = .ok (.aload_n 0, 1) := by decide +kernel
theorem dM_kind_24 : decode cM_kind 24 = .ok (.iload_n 1, 1) := by decide +kernel
theorem dM_kind_25 : decode cM_kind 25 = .ok (.invokevirtual 91, 3) := by decide +kernel
theorem dM_kind_28 : decode cM_kind 28 = .ok (.aload_n 0, 1) := by decide +kernel
theorem dM_kind_29 : decode cM_kind 29 = .ok (.iload_n 2, 1) := by decide +kernel
theorem dM_kind_30 : decode cM_kind 30 = .ok (.invokevirtual 43, 3) := by decide +kernel
theorem dM_kind_33 : decode cM_kind 33 = .ok (.aload_n 0, 1) := by decide +kernel
theorem dM_kind_34 : decode cM_kind 34 = .ok (.getfield 33, 3) := by decide +kernel
theorem dM_kind_37 : decode cM_kind 37 = .ok (.ifCond .ne 7, 3) := by decide +kernel
theorem dM_kind_40 : decode cM_kind 40 = .ok (.iconst 0, 1) := by decide +kernel
theorem dM_kind_41 : decode cM_kind 41 = .ok (.goto 49, 3) := by decide +kernel
theorem dM_kind_44 : decode cM_kind 44 = .ok (.aload_n 0, 1) := by decide +kernel
theorem dM_kind_45 : decode cM_kind 45 = .ok (.getfield 33, 3) := by decide +kernel
theorem dM_kind_48 : decode cM_kind 48 = .ok (.iconst 1, 1) := by decide +kernel
theorem dM_kind_49 : decode cM_kind 49 = .ok (.if_icmp .ne 7, 3) := by decide +kernel
theorem dM_kind_52 : decode cM_kind 52 = .ok (.iconst 1, 1) := by decide +kernel
theorem dM_kind_53 : decode cM_kind 53 = .ok (.goto 37, 3) := by decide +kernel
theorem dM_kind_56 : decode cM_kind 56 = .ok (.aload_n 0, 1) := by decide +kernel
theorem dM_kind_57 : decode cM_kind 57 = .ok (.getfield 36, 3) := by decide +kernel
theorem dM_kind_60 : decode cM_kind 60 = .ok (.lconst 0, 1) := by decide +kernel
theorem dM_kind_61 : decode cM_kind 61 = .ok (.lcmp, 1) := by decide +kernel
theorem dM_kind_62 : decode cM_kind 62 = .ok (.ifCond .ne 7, 3) := by decide +kernel
theorem dM_kind_65 : decode cM_kind 65 = .ok (.iconst 4, 1) := by decide +kernel
theorem dM_kind_66 : decode cM_kind 66 = .ok (.goto 24, 3) := by decide +kernel
theorem dM_kind_69 : decode cM_kind 69 = .ok (.aload_n 0, 1) := by decide +kernel
theorem dM_kind_70 : decode cM_kind 70 = .ok (.getfield 36, 3) := by decide +kernel
theorem dM_kind_73 : decode cM_kind 73 = .ok (.lconst 1, 1) := by decide +kernel
theorem dM_kind_74 : decode cM_kind 74 = .ok (.aload_n 0, 1) := by decide +kernel
theorem dM_kind_75 : decode cM_kind 75 = .ok (.getfield 24, 3) := by decide +kernel
theorem dM_kind_78 : decode cM_kind 78 = .ok (.iconst 1, 1) := by decide +kernel
theorem dM_kind_79 : decode cM_kind 79 = .ok (.isub, 1) := by decide +kernel
theorem dM_kind_80 : decode cM_kind 80 = .ok (.lshl, 1) := by decide +kernel
theorem dM_kind_81 : decode cM_kind 81 = .ok (.lcmp, 1) := by decide +kernel
theorem dM_kind_82 : decode cM_kind 82 = .ok (.ifCond .lt 7, 3) := by decide +kernel
theorem dM_kind_85 : decode cM_kind 85 = .ok (.iconst 2, 1) := by decide +kernel
theorem dM_kind_86 : decode cM_kind 86 = .ok (.goto 4, 3) := by decide +kernel
theorem dM_kind_89 : decode cM_kind 89 = .ok (.iconst 3, 1) := by decide +kernel
theorem dM_kind_90 : decode cM_kind 90 = .ok (.istore_n 3, 1) := by decide +kernel
theorem dM_kind_91 : decode cM_kind 91 = .ok (.aload_n 0, 1) := by decide +kernel
theorem dM_kind_92 : decode cM_kind 92 = .ok (.getfield 30, 3) := by decide +kernel
theorem dM_kind_95 : decode cM_kind 95 = .ok (.iconst 1, 1) := by decide +kernel
theorem dM_kind_96 : decode cM_kind 96 = .ok (.if_icmp .ne 10, 3) := by decide +kernel
theorem dM_kind_99 : decode cM_kind 99 = .ok (.iload_n 3, 1) := by decide +kernel
theorem dM_kind_100 : decode cM_kind 100 = .ok (.bipush 8, 2) := by decide +kernel
theorem dM_kind_102 : decode cM_kind 102 = .ok (.iadd, 1) := by decide +kernel
theorem dM_kind_103 : decode cM_kind 103 = .ok (.goto 4, 3) := by decide +kernel
theorem dM_kind_106 : decode cM_kind 106 = .ok (.iload_n 3, 1) := by decide +kernel
theorem dM_kind_107 : decode cM_kind 107 = .ok (.ireturn, 1) := by decide +kernel
theorem dM_negate_0 : decode cM_negate 0 = .ok (.aload_n 0, 1) := by decide +kernel
theorem dM_negate_1 : decode cM_negate 1 = .ok (.iload_n 2, 1) := by decide +kernel
theorem dM_negate_2 : decode cM_negate 2 = .ok (.bipush 15, 2) := by decide +kernel
theorem dM_negate_4 : decode cM_negate 4 = .ok (.invokestatic 83, 3) := by decide +kernel
theorem dM_negate_7 : decode cM_negate 7 = .ok (.ifCond .eq 12, 3) := by decide +kernel
theorem dM_negate_10 : decode cM_negate 10 = .ok (.iload_n 3, 1) := by decide +kernel
theorem dM_negate_11 : decode cM_negate 11 = .ok (.bipush 15, 2) := by decide +kernel
theorem dM_negate_13 : decode cM_negate 13 = .ok (.invokestatic 83, 3) := by decide +kernel
theorem dM_negate_16 : decode cM_negate 16 = .ok (.ifCond .ne 7, 3) := by decide +kernel
theorem dM_negate_19 : decode cM_negate 19 = .ok (.iconst 1, 1) := by decide +kernel
theorem dM_negate_20 : decode cM_negate 20 = .ok (.goto 4, 3) := by decide +kernel
theorem dM_negate_23 : decode cM_negate 23 = .ok (.iconst 0, 1) := by decide +kernel
theorem dM_negate_24 : decode cM_negate 24 = .ok (.invokevirtual 87, 3) := by decide +kernel
theorem dM_negate_27 : decode cM_negate 27 = .ok (.ifCond .eq 5, 3) := by decide +kernel
theorem dM_negate_30 : decode cM_negate 30 = .ok (.lconst 0, 1) := by decide +kernel
theorem dM_negate_31 : decode cM_negate 31 = .ok (.lreturn, 1) := by decide +kernel
theorem dM_negate_32 : decode cM_negate 32 = .ok (.aload_n 0, 1) := by decide +kernel
theorem dM_negate_33 : decode cM_negate 33 = .ok (.iload_n 1, 1) := by decide +kernel
theorem dM_negate_34 : decode cM_negate 34 = .ok (.invokevirtual 91, 3) := by decide +kernel
theorem dM_negate_37 : decode cM_negate 37 = .ok (.aload_n 0, 1) := by decide +kernel
theorem dM_negate_38 : decode cM_negate 38 = .ok (.iload_n 3, 1) := by decide +kernel
theorem dM_negate_39 : decode cM_negate 39 = .ok (.invokevirtual 43, 3) := by decide +kernel
theorem dM_negate_42 : decode cM_negate 42 = .ok (.aload_n 0, 1) := by decide +kernel
theorem dM_negate_43 : decode cM_negate 43 = .ok (.getfield 33, 3) := by decide +kernel
theorem dM_negate_46 : decode cM_negate 46 = .ok (.ifCond .ne 10, 3) := by decide +kernel
theorem dM_negate_49 : decode cM_negate 49 = .ok (.aload_n 0, 1) := by decide +kernel
theorem dM_negate_50 : decode cM_negate 50 = .ok (.invokevirtual 66, 3) := by decide +kernel
theorem dM_negate_53 : decode cM_negate 53 = .ok (.goto 86, 3) := by decide +kernel
theorem dM_negate_56 : decode cM_negate 56 = .ok (.aload_n 0, 1) := by decide +kernel
theorem dM_negate_57 : decode cM_negate 57 = .ok (.getfield 33, 3) := by decide +kernel
theorem dM_negate_60 : decode cM_negate 60 = .ok (.iconst 1, 1) := by decide +kernel
theorem dM_negate_61 : decode cM_negate 61 = .ok (.if_icmp .ne 16, 3) := by decide +kernel
theorem dM_negate_64 : decode cM_negate 64 = .ok (.aload_n 0, 1) := by decide +kernel
theorem dM_negate_65 : decode cM_negate 65 = .ok (.iconst 1, 1) := by decide +kernel
theorem dM_negate_66 : decode cM_negate 66 = .ok (.aload_n 0, 1) := by decide +kernel
theorem dM_negate_67 : decode cM_negate 67 = .ok (.getfield 30, 3) := by decide +kernel
theorem dM_negate_70 : decode cM_negate 70 = .ok (.isub, 1) := by decide +kernel
theorem dM_negate_71 : decode cM_negate 71 = .ok (.invokevirtual 79, 3) := by decide +kernel
theorem dM_negate_74 : decode cM_negate 74 = .ok (.goto 65, 3) := by decide +kernel
theorem dM_negate_77 : decode cM_negate 77 = .ok (.aload_n 0, 1) := by decide +kernel
theorem dM_negate_78 : decode cM_negate 78 = .ok (.iconst 1, 1) := by decide +kernel
theorem dM_negate_79 : decode cM_negate 79 = .ok (.aload_n 0, 1) := by decide +kernel
theorem dM_negate_80 : decode cM_negate 80 = .ok (.getfield 30, 3) := by decide +kernel
theorem dM_negate_83 : decode cM_negate 83 = .ok (.isub, 1) := by decide +kernel
theorem dM_negate_84 : decode cM_negate 84 = .ok (.aload_n 0, 1) := by decide +kernel
theorem dM_negate_85 : decode cM_negate 85 = .ok (.getfield 36, 3) := by decide +kernel
theorem dM_negate_88 : decode cM_negate 88 = .ok (.lconst 1, 1) := by decide +kernel
theorem dM_negate_89 : decode cM_negate 89 = .ok (.aload_n 0, 1) := by decide +kernel
theorem dM_negate_90 : decode cM_negate 90 = .ok (.getfield 24, 3) := by decide +kernel
theorem dM_negate_93 : decode cM_negate 93 = .ok (.iconst 1, 1) := by decide +kernel
theorem dM_negate_94 : decode cM_negate 94 = .ok (.isub, 1) := by decide +kernel
theorem dM_negate_95 : decode cM_negate 95 = .ok (.lshl, 1) := by decide +kernel
theorem dM_negate_96 : decode cM_negate 96 = .ok (.lcmp, 1) := by decide +kernel
theorem dM_negate_97 : decode cM_negate 97 = .ok (.ifCond .lt 23, 3) := by decide +kernel
theorem dM_negate_100 : decode cM_negate 100 = .ok (.aload_n 0, 1) := by decide +kernel
theorem dM_negate_101 : decode cM_negate 101 = .ok (.getfield 40, 3) := by decide +kernel
theorem dM_negate_104 : decode cM_negate 104 = .ok (.aload_n 0, 1) := by decide +kernel
theorem dM_negate_105 : decode cM_negate 105 = .ok (.getfield 24, 3) := by decide +kernel
theorem dM_negate_108 : decode cM_negate 108 = .ok (.iadd, 1) := by decide +kernel
theorem dM_negate_109 : decode cM_negate 109 = .ok (.iconst 1, 1) := by decide +kernel
theorem dM_negate_110 : decode cM_negate 110 = .ok (.isub, 1) := by decide +kernel
theorem dM_negate_111 : decode cM_negate 111 = .ok (.aload_n 0, 1) := by decide +kernel
theorem dM_negate_112 : decode cM_negate 112 = .ok (.getfield 27, 3) := by decide +kernel
theorem dM_negate_115 : decode cM_negate 115 = .ok (.iadd, 1) := by decide +kernel
theorem dM_negate_116 : decode cM_negate 116 = .ok (.i2l, 1) := by decide +kernel
theorem dM_negate_117 : decode cM_negate 117 = .ok (.goto 4, 3) := by decide +kernel
theorem dM_negate_120 : decode cM_negate 120 = .ok (.lconst 0, 1) := by decide +kernel
theorem dM_negate_121 : decode cM_negate 121 = .ok (.aload_n 0, 1) := by decide +kernel
theorem dM_negate_122 : decode cM_negate 122 = .ok (.getfield 36, 3) := by decide +kernel
theorem dM_negate_125 : decode cM_negate 125 = .ok (.lconst 1, 1) := by decide +kernel
theorem dM_negate_126 : decode cM_negate 126 = .ok (.aload_n 0, 1) := by decide +kernel
theorem dM_negate_127 : decode cM_negate 127 = .ok (.getfield 24, 3) := by decide +kernel
theorem dM_negate_130 : decode cM_negate 130 = .ok (.iconst 1, 1) := by decide +kernel
theorem dM_negate_131 : decode cM_negate 131 = .ok (.isub, 1) := by decide +kernel
theorem dM_negate_132 : decode cM_negate 132 = .ok (.lshl, 1) := by decide +kernel
theorem dM_negate_133 : decode cM_negate 133 = .ok (.lconst 1, 1) := by decide +kernel
theorem dM_negate_134 : decode cM_negate 134 = .ok (.lsub, 1) := by decide +kernel
theorem dM_negate_135 : decode cM_negate 135 = .ok (.land, 1) := by decide +kernel
theorem dM_negate_136 : decode cM_negate 136 = .ok (.invokevirtual 59, 3) := by decide +kernel
theorem dM_negate_139 : decode cM_negate 139 = .ok (.lstore 4, 2) := by decide +kernel
theorem dM_negate_141 : decode cM_negate 141 = .ok (.aload_n 0, 1) := by decide +kernel
theorem dM_negate_142 : decode cM_negate 142 = .ok (.getfield 16, 3) := by decide +kernel
theorem dM_negate_145 : decode cM_negate 145 = .ok (.iload_n 2, 1) := by decide +kernel
theorem dM_negate_146 : decode cM_negate 146 = .ok (.lload 4, 2) := by decide +kernel
theorem dM_negate_148 : decode cM_negate 148 = .ok (.lastore, 1) := by decide +kernel
theorem dM_negate_149 : decode cM_negate 149 = .ok (.lload 4, 2) := by decide +kernel
theorem dM_negate_151 : decode cM_negate 151 = .ok (.lreturn, 1) := by decide +kernel
