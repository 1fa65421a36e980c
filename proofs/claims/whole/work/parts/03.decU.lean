/-! Decode rows (by program). -/
theorem dU_init_0 : decode cU_init 0 = .ok (.aload_n 0, 1) := by decide +kernel
theorem dU_init_1 : decode cU_init 1 = .ok (.invokespecial 3, 3) := by decide +kernel
theorem dU_init_4 : decode cU_init 4 = .ok (.aload_n 0, 1) := by decide +kernel
theorem dU_init_5 : decode cU_init 5 = .ok (.bipush 16, 2) := by decide +kernel
theorem dU_init_7 : decode cU_init 7 = .ok (.newarray .long, 2) := by decide +kernel
theorem dU_init_9 : decode cU_init 9 = .ok (.putfield 9, 3) := by decide +kernel
theorem dU_init_12 : decode cU_init 12 = .ok (.aload_n 0, 1) := by decide +kernel
theorem dU_init_13 : decode cU_init 13 = .ok (.iconst 0, 1) := by decide +kernel
theorem dU_init_14 : decode cU_init 14 = .ok (.putfield 13, 3) := by decide +kernel
theorem dU_init_17 : decode cU_init 17 = .ok (.aload_n 0, 1) := by decide +kernel
theorem dU_init_18 : decode cU_init 18 = .ok (.iconst 0, 1) := by decide +kernel
theorem dU_init_19 : decode cU_init 19 = .ok (.putfield 17, 3) := by decide +kernel
theorem dU_init_22 : decode cU_init 22 = .ok (.return_, 1) := by decide +kernel
theorem dU_flags_0 : decode cU_flags 0 = .ok (.aload_n 0, 1) := by decide +kernel
theorem dU_flags_1 : decode cU_flags 1 = .ok (.getfield 17, 3) := by decide +kernel
theorem dU_flags_4 : decode cU_flags 4 = .ok (.istore_n 2, 1) := by decide +kernel
theorem dU_flags_5 : decode cU_flags 5 = .ok (.aload_n 0, 1) := by decide +kernel
theorem dU_flags_6 : decode cU_flags 6 = .ok (.dup, 1) := by decide +kernel
theorem dU_flags_7 : decode cU_flags 7 = .ok (.getfield 17, 3) := by decide +kernel
theorem dU_flags_10 : decode cU_flags 10 = .ok (.iload_n 1, 1) := by decide +kernel
theorem dU_flags_11 : decode cU_flags 11 = .ok (.iconst (-1), 1) := by decide +kernel
theorem dU_flags_12 : decode cU_flags 12 = .ok (.ixor, 1) := by decide +kernel
theorem dU_flags_13 : decode cU_flags 13 = .ok (.iand, 1) := by decide +kernel
theorem dU_flags_14 : decode cU_flags 14 = .ok (.putfield 17, 3) := by decide +kernel
theorem dU_flags_17 : decode cU_flags 17 = .ok (.iload_n 2, 1) := by decide +kernel
theorem dU_flags_18 : decode cU_flags 18 = .ok (.ireturn, 1) := by decide +kernel
theorem dU_put_0 : decode cU_put 0 = .ok (.iload_n 1, 1) := by decide +kernel
theorem dU_put_1 : decode cU_put 1 = .ok (.invokestatic 20, 3) := by decide +kernel
theorem dU_put_4 : decode cU_put 4 = .ok (.aload_n 0, 1) := by decide +kernel
theorem dU_put_5 : decode cU_put 5 = .ok (.getfield 9, 3) := by decide +kernel
theorem dU_put_8 : decode cU_put 8 = .ok (.iload_n 1, 1) := by decide +kernel
theorem dU_put_9 : decode cU_put 9 = .ok (.laload, 1) := by decide +kernel
theorem dU_put_10 : decode cU_put 10 = .ok (.lstore 4, 2) := by decide +kernel
theorem dU_put_12 : decode cU_put 12 = .ok (.aload_n 0, 1) := by decide +kernel
theorem dU_put_13 : decode cU_put 13 = .ok (.getfield 9, 3) := by decide +kernel
theorem dU_put_16 : decode cU_put 16 = .ok (.iload_n 1, 1) := by decide +kernel
theorem dU_put_17 : decode cU_put 17 = .ok (.lload_n 2, 1) := by decide +kernel
theorem dU_put_18 : decode cU_put 18 = .ok (.lastore, 1) := by decide +kernel
theorem dU_put_19 : decode cU_put 19 = .ok (.lload 4, 2) := by decide +kernel
theorem dU_put_21 : decode cU_put 21 = .ok (.lreturn, 1) := by decide +kernel
theorem dU_requireRegister_0 : decode cU_requireRegister 0 = .ok (.iload_n 0, 1) := by decide +kernel
theorem dU_requireRegister_1 : decode cU_requireRegister 1 = .ok (.ifCond .lt 9, 3) := by decide +kernel
theorem dU_requireRegister_4 : decode cU_requireRegister 4 = .ok (.iload_n 0, 1) := by decide +kernel
theorem dU_requireRegister_5 : decode cU_requireRegister 5 = .ok (.bipush 16, 2) := by decide +kernel
theorem dU_requireRegister_7 : decode cU_requireRegister 7 = .ok (.if_icmp .lt 13, 3) := by decide +kernel
theorem dU_requireRegister_10 : decode cU_requireRegister 10 = .ok (.new 24, 3) := by decide +kernel
theorem dU_requireRegister_13 : decode cU_requireRegister 13 = .ok (.dup, 1) := by decide +kernel
theorem dU_requireRegister_14 : decode cU_requireRegister 14 = .ok (.ldc 95, 2) := by decide +kernel
theorem dU_requireRegister_16 : decode cU_requireRegister 16 = .ok (.invokespecial 28, 3) := by decide +kernel
theorem dU_requireRegister_19 : decode cU_requireRegister 19 = .ok (.athrow, 1) := by decide +kernel
theorem dU_requireRegister_20 : decode cU_requireRegister 20 = .ok (.return_, 1) := by decide +kernel
theorem dU_bits_0 : decode cU_bits 0 = .ok (.iload_n 1, 1) := by decide +kernel
theorem dU_bits_1 : decode cU_bits 1 = .ok (.invokestatic 20, 3) := by decide +kernel
theorem dU_bits_4 : decode cU_bits 4 = .ok (.aload_n 0, 1) := by decide +kernel
theorem dU_bits_5 : decode cU_bits 5 = .ok (.getfield 9, 3) := by decide +kernel
theorem dU_bits_8 : decode cU_bits 8 = .ok (.iload_n 1, 1) := by decide +kernel
theorem dU_bits_9 : decode cU_bits 9 = .ok (.laload, 1) := by decide +kernel
theorem dU_bits_10 : decode cU_bits 10 = .ok (.lreturn, 1) := by decide +kernel
theorem dU_mode_0 : decode cU_mode 0 = .ok (.iload_n 1, 1) := by decide +kernel
theorem dU_mode_1 : decode cU_mode 1 = .ok (.ifCond .lt 8, 3) := by decide +kernel
theorem dU_mode_4 : decode cU_mode 4 = .ok (.iload_n 1, 1) := by decide +kernel
theorem dU_mode_5 : decode cU_mode 5 = .ok (.iconst 3, 1) := by decide +kernel
theorem dU_mode_6 : decode cU_mode 6 = .ok (.if_icmp .le 13, 3) := by decide +kernel
theorem dU_mode_9 : decode cU_mode 9 = .ok (.new 24, 3) := by decide +kernel
theorem dU_mode_12 : decode cU_mode 12 = .ok (.dup, 1) := by decide +kernel
theorem dU_mode_13 : decode cU_mode 13 = .ok (.ldc 26, 2) := by decide +kernel
theorem dU_mode_15 : decode cU_mode 15 = .ok (.invokespecial 28, 3) := by decide +kernel
theorem dU_mode_18 : decode cU_mode 18 = .ok (.athrow, 1) := by decide +kernel
theorem dU_mode_19 : decode cU_mode 19 = .ok (.aload_n 0, 1) := by decide +kernel
theorem dU_mode_20 : decode cU_mode 20 = .ok (.getfield 13, 3) := by decide +kernel
theorem dU_mode_23 : decode cU_mode 23 = .ok (.istore_n 2, 1) := by decide +kernel
theorem dU_mode_24 : decode cU_mode 24 = .ok (.aload_n 0, 1) := by decide +kernel
theorem dU_mode_25 : decode cU_mode 25 = .ok (.iload_n 1, 1) := by decide +kernel
theorem dU_mode_26 : decode cU_mode 26 = .ok (.putfield 13, 3) := by decide +kernel
theorem dU_mode_29 : decode cU_mode 29 = .ok (.iload_n 2, 1) := by decide +kernel
theorem dU_mode_30 : decode cU_mode 30 = .ok (.ireturn, 1) := by decide +kernel
theorem dU_work_0 : decode cU_work 0 = .ok (.iload_n 3, 1) := by decide +kernel
theorem dU_work_1 : decode cU_work 1 = .ok (.invokestatic 20, 3) := by decide +kernel
theorem dU_work_4 : decode cU_work 4 = .ok (.iload 4, 2) := by decide +kernel
theorem dU_work_6 : decode cU_work 6 = .ok (.invokestatic 20, 3) := by decide +kernel
theorem dU_work_9 : decode cU_work 9 = .ok (.iload 5, 2) := by decide +kernel
theorem dU_work_11 : decode cU_work 11 = .ok (.invokestatic 20, 3) := by decide +kernel
theorem dU_work_14 : decode cU_work 14 = .ok (.iload_n 1, 1) := by decide +kernel
theorem dU_work_15 : decode cU_work 15 = .ok (.ifCond .lt 8, 3) := by decide +kernel
theorem dU_work_18 : decode cU_work 18 = .ok (.iload_n 1, 1) := by decide +kernel
theorem dU_work_19 : decode cU_work 19 = .ok (.iconst 4, 1) := by decide +kernel
theorem dU_work_20 : decode cU_work 20 = .ok (.if_icmp .le 13, 3) := by decide +kernel
theorem dU_work_23 : decode cU_work 23 = .ok (.new 24, 3) := by decide +kernel
theorem dU_work_26 : decode cU_work 26 = .ok (.dup, 1) := by decide +kernel
theorem dU_work_27 : decode cU_work 27 = .ok (.ldc 31, 2) := by decide +kernel
theorem dU_work_29 : decode cU_work 29 = .ok (.invokespecial 28, 3) := by decide +kernel
theorem dU_work_32 : decode cU_work 32 = .ok (.athrow, 1) := by decide +kernel
theorem dU_work_33 : decode cU_work 33 = .ok (.iload_n 2, 1) := by decide +kernel
theorem dU_work_34 : decode cU_work 34 = .ok (.invokestatic 33, 3) := by decide +kernel
theorem dU_work_37 : decode cU_work 37 = .ok (.astore 6, 2) := by decide +kernel
theorem dU_work_39 : decode cU_work 39 = .ok (.aload_n 0, 1) := by decide +kernel
theorem dU_work_40 : decode cU_work 40 = .ok (.iload_n 3, 1) := by decide +kernel
theorem dU_work_41 : decode cU_work 41 = .ok (.aload_n 0, 1) := by decide +kernel
theorem dU_work_42 : decode cU_work 42 = .ok (.iload_n 1, 1) := by decide +kernel
theorem dU_work_43 : decode cU_work 43 = .ok (.aload 6, 2) := by decide +kernel
theorem dU_work_45 : decode cU_work 45 = .ok (.aload 6, 2) := by decide +kernel
theorem dU_work_47 : decode cU_work 47 = .ok (.aload_n 0, 1) := by decide +kernel
theorem dU_work_48 : decode cU_work 48 = .ok (.getfield 9, 3) := by decide +kernel
theorem dU_work_51 : decode cU_work 51 = .ok (.iload 4, 2) := by decide +kernel
theorem dU_work_53 : decode cU_work 53 = .ok (.laload, 1) := by decide +kernel
theorem dU_work_54 : decode cU_work 54 = .ok (.invokevirtual 37, 3) := by decide +kernel
theorem dU_work_57 : decode cU_work 57 = .ok (.aload 6, 2) := by decide +kernel
theorem dU_work_59 : decode cU_work 59 = .ok (.aload_n 0, 1) := by decide +kernel
theorem dU_work_60 : decode cU_work 60 = .ok (.getfield 9, 3) := by decide +kernel
theorem dU_work_63 : decode cU_work 63 = .ok (.iload 5, 2) := by decide +kernel
theorem dU_work_65 : decode cU_work 65 = .ok (.laload, 1) := by decide +kernel
theorem dU_work_66 : decode cU_work 66 = .ok (.invokevirtual 37, 3) := by decide +kernel
theorem dU_work_69 : decode cU_work 69 = .ok (.invokevirtual 43, 3) := by decide +kernel
theorem dU_work_72 : decode cU_work 72 = .ok (.invokevirtual 47, 3) := by decide +kernel
theorem dU_work_75 : decode cU_work 75 = .ok (.lreturn, 1) := by decide +kernel
theorem dU_format_0 : decode cU_format 0 = .ok (.iload_n 0, 1) := by decide +kernel
theorem dU_format_1 : decode cU_format 1 = .ok (.ifCond .eq 9, 3) := by decide +kernel
theorem dU_format_4 : decode cU_format 4 = .ok (.getstatic 97, 3) := by decide +kernel
theorem dU_format_7 : decode cU_format 7 = .ok (.goto 6, 3) := by decide +kernel
theorem dU_format_10 : decode cU_format 10 = .ok (.getstatic 101, 3) := by decide +kernel
theorem dU_format_13 : decode cU_format 13 = .ok (.areturn, 1) := by decide +kernel
theorem dU_result_0 : decode cU_result 0 = .ok (.aload_n 2, 1) := by decide +kernel
theorem dU_result_1 : decode cU_result 1 = .ok (.lload_n 3, 1) := by decide +kernel
theorem dU_result_2 : decode cU_result 2 = .ok (.invokevirtual 51, 3) := by decide +kernel
theorem dU_result_5 : decode cU_result 5 = .ok (.ifCond .ne 12, 3) := by decide +kernel
theorem dU_result_8 : decode cU_result 8 = .ok (.aload_n 2, 1) := by decide +kernel
theorem dU_result_9 : decode cU_result 9 = .ok (.lload 5, 2) := by decide +kernel
theorem dU_result_11 : decode cU_result 11 = .ok (.invokevirtual 51, 3) := by decide +kernel
theorem dU_result_14 : decode cU_result 14 = .ok (.ifCond .eq 8, 3) := by decide +kernel
theorem dU_result_17 : decode cU_result 17 = .ok (.aload_n 2, 1) := by decide +kernel
theorem dU_result_18 : decode cU_result 18 = .ok (.invokevirtual 88, 3) := by decide +kernel
theorem dU_result_21 : decode cU_result 21 = .ok (.lreturn, 1) := by decide +kernel
theorem dU_result_22 : decode cU_result 22 = .ok (.iload_n 1, 1) := by decide +kernel
theorem dU_result_23 : decode cU_result 23 = .ok (.tableswitch 69 0 3 #[29, 38, 51, 60], 29) := by decide +kernel
theorem dU_result_52 : decode cU_result 52 = .ok (.aload_n 0, 1) := by decide +kernel
theorem dU_result_53 : decode cU_result 53 = .ok (.aload_n 2, 1) := by decide +kernel
theorem dU_result_54 : decode cU_result 54 = .ok (.lload_n 3, 1) := by decide +kernel
theorem dU_result_55 : decode cU_result 55 = .ok (.lload 5, 2) := by decide +kernel
theorem dU_result_57 : decode cU_result 57 = .ok (.invokevirtual 104, 3) := by decide +kernel
theorem dU_result_60 : decode cU_result 60 = .ok (.lreturn, 1) := by decide +kernel
theorem dU_result_61 : decode cU_result 61 = .ok (.aload_n 0, 1) := by decide +kernel
theorem dU_result_62 : decode cU_result 62 = .ok (.aload_n 2, 1) := by decide +kernel
theorem dU_result_63 : decode cU_result 63 = .ok (.lload_n 3, 1) := by decide +kernel
theorem dU_result_64 : decode cU_result 64 = .ok (.aload_n 2, 1) := by decide +kernel
theorem dU_result_65 : decode cU_result 65 = .ok (.lload 5, 2) := by decide +kernel
theorem dU_result_67 : decode cU_result 67 = .ok (.invokevirtual 92, 3) := by decide +kernel
theorem dU_result_70 : decode cU_result 70 = .ok (.invokevirtual 104, 3) := by decide +kernel
theorem dU_result_73 : decode cU_result 73 = .ok (.lreturn, 1) := by decide +kernel
theorem dU_result_74 : decode cU_result 74 = .ok (.aload_n 0, 1) := by decide +kernel
theorem dU_result_75 : decode cU_result 75 = .ok (.aload_n 2, 1) := by decide +kernel
theorem dU_result_76 : decode cU_result 76 = .ok (.lload_n 3, 1) := by decide +kernel
theorem dU_result_77 : decode cU_result 77 = .ok (.lload 5, 2) := by decide +kernel
theorem dU_result_79 : decode cU_result 79 = .ok (.invokevirtual 107, 3) := by decide +kernel
theorem dU_result_82 : decode cU_result 82 = .ok (.lreturn, 1) := by decide +kernel
theorem dU_result_83 : decode cU_result 83 = .ok (.aload_n 0, 1) := by decide +kernel
theorem dU_result_84 : decode cU_result 84 = .ok (.aload_n 2, 1) := by decide +kernel
theorem dU_result_85 : decode cU_result 85 = .ok (.lload_n 3, 1) := by decide +kernel
theorem dU_result_86 : decode cU_result 86 = .ok (.lload 5, 2) := by decide +kernel
theorem dU_result_88 : decode cU_result 88 = .ok (.invokevirtual 110, 3) := by decide +kernel
theorem dU_result_91 : decode cU_result 91 = .ok (.lreturn, 1) := by decide +kernel
theorem dU_result_92 : decode cU_result 92 = .ok (.aload_n 0, 1) := by decide +kernel
theorem dU_result_93 : decode cU_result 93 = .ok (.aload_n 2, 1) := by decide +kernel
theorem dU_result_94 : decode cU_result 94 = .ok (.lload_n 3, 1) := by decide +kernel
theorem dU_result_95 : decode cU_result 95 = .ok (.lload 5, 2) := by decide +kernel
theorem dU_result_97 : decode cU_result 97 = .ok (.invokevirtual 113, 3) := by decide +kernel
theorem dU_result_100 : decode cU_result 100 = .ok (.lreturn, 1) := by decide +kernel
theorem dU_sum_0 : decode cU_sum 0 = .ok (.aload_n 1, 1) := by decide +kernel
theorem dU_sum_1 : decode cU_sum 1 = .ok (.lload_n 2, 1) := by decide +kernel
theorem dU_sum_2 : decode cU_sum 2 = .ok (.invokevirtual 69, 3) := by decide +kernel
theorem dU_sum_5 : decode cU_sum 5 = .ok (.aload_n 1, 1) := by decide +kernel
theorem dU_sum_6 : decode cU_sum 6 = .ok (.lload 4, 2) := by decide +kernel
theorem dU_sum_8 : decode cU_sum 8 = .ok (.invokevirtual 69, 3) := by decide +kernel
theorem dU_sum_11 : decode cU_sum 11 = .ok (.if_icmp .ne 7, 3) := by decide +kernel
theorem dU_sum_14 : decode cU_sum 14 = .ok (.iconst 1, 1) := by decide +kernel
theorem dU_sum_15 : decode cU_sum 15 = .ok (.goto 4, 3) := by decide +kernel
theorem dU_sum_18 : decode cU_sum 18 = .ok (.iconst 0, 1) := by decide +kernel
theorem dU_sum_19 : decode cU_sum 19 = .ok (.istore 6, 2) := by decide +kernel
theorem dU_sum_21 : decode cU_sum 21 = .ok (.aload_n 1, 1) := by decide +kernel
theorem dU_sum_22 : decode cU_sum 22 = .ok (.lload_n 2, 1) := by decide +kernel
theorem dU_sum_23 : decode cU_sum 23 = .ok (.invokevirtual 116, 3) := by decide +kernel
theorem dU_sum_26 : decode cU_sum 26 = .ok (.ifCond .eq 27, 3) := by decide +kernel
theorem dU_sum_29 : decode cU_sum 29 = .ok (.aload_n 1, 1) := by decide +kernel
theorem dU_sum_30 : decode cU_sum 30 = .ok (.lload 4, 2) := by decide +kernel
theorem dU_sum_32 : decode cU_sum 32 = .ok (.invokevirtual 116, 3) := by decide +kernel
theorem dU_sum_35 : decode cU_sum 35 = .ok (.ifCond .eq 16, 3) := by decide +kernel
theorem dU_sum_38 : decode cU_sum 38 = .ok (.iload 6, 2) := by decide +kernel
theorem dU_sum_40 : decode cU_sum 40 = .ok (.ifCond .ne 11, 3) := by decide +kernel
theorem dU_sum_43 : decode cU_sum 43 = .ok (.aload_n 0, 1) := by decide +kernel
theorem dU_sum_44 : decode cU_sum 44 = .ok (.aload_n 1, 1) := by decide +kernel
theorem dU_sum_45 : decode cU_sum 45 = .ok (.invokevirtual 119, 3) := by decide +kernel
theorem dU_sum_48 : decode cU_sum 48 = .ok (.goto 4, 3) := by decide +kernel
theorem dU_sum_51 : decode cU_sum 51 = .ok (.lload_n 2, 1) := by decide +kernel
theorem dU_sum_52 : decode cU_sum 52 = .ok (.lreturn, 1) := by decide +kernel
theorem dU_sum_53 : decode cU_sum 53 = .ok (.aload_n 1, 1) := by decide +kernel
theorem dU_sum_54 : decode cU_sum 54 = .ok (.lload 4, 2) := by decide +kernel
theorem dU_sum_56 : decode cU_sum 56 = .ok (.invokevirtual 116, 3) := by decide +kernel
theorem dU_sum_59 : decode cU_sum 59 = .ok (.ifCond .eq 6, 3) := by decide +kernel
theorem dU_sum_62 : decode cU_sum 62 = .ok (.lload 4, 2) := by decide +kernel
theorem dU_sum_64 : decode cU_sum 64 = .ok (.lreturn, 1) := by decide +kernel
theorem dU_sum_65 : decode cU_sum 65 = .ok (.aload_n 1, 1) := by decide +kernel
theorem dU_sum_66 : decode cU_sum 66 = .ok (.lload_n 2, 1) := by decide +kernel
theorem dU_sum_67 : decode cU_sum 67 = .ok (.invokevirtual 123, 3) := by decide +kernel
theorem dU_sum_70 : decode cU_sum 70 = .ok (.aload_n 1, 1) := by decide +kernel
theorem dU_sum_71 : decode cU_sum 71 = .ok (.lload 4, 2) := by decide +kernel
theorem dU_sum_73 : decode cU_sum 73 = .ok (.invokevirtual 123, 3) := by decide +kernel
theorem dU_sum_76 : decode cU_sum 76 = .ok (.invokestatic 126, 3) := by decide +kernel
theorem dU_sum_79 : decode cU_sum 79 = .ok (.bipush 9, 2) := by decide +kernel
theorem dU_sum_81 : decode cU_sum 81 = .ok (.isub, 1) := by decide +kernel
theorem dU_sum_82 : decode cU_sum 82 = .ok (.istore 7, 2) := by decide +kernel
theorem dU_sum_84 : decode cU_sum 84 = .ok (.aload_n 1, 1) := by decide +kernel
theorem dU_sum_85 : decode cU_sum 85 = .ok (.lload_n 2, 1) := by decide +kernel
theorem dU_sum_86 : decode cU_sum 86 = .ok (.iload 7, 2) := by decide +kernel
theorem dU_sum_88 : decode cU_sum 88 = .ok (.invokestatic 132, 3) := by decide +kernel
theorem dU_sum_91 : decode cU_sum 91 = .ok (.aload_n 1, 1) := by decide +kernel
theorem dU_sum_92 : decode cU_sum 92 = .ok (.lload 4, 2) := by decide +kernel
theorem dU_sum_94 : decode cU_sum 94 = .ok (.iload 7, 2) := by decide +kernel
theorem dU_sum_96 : decode cU_sum 96 = .ok (.invokestatic 132, 3) := by decide +kernel
theorem dU_sum_99 : decode cU_sum 99 = .ok (.ladd, 1) := by decide +kernel
theorem dU_sum_100 : decode cU_sum 100 = .ok (.lstore 8, 2) := by decide +kernel
theorem dU_sum_102 : decode cU_sum 102 = .ok (.lload 8, 2) := by decide +kernel
theorem dU_sum_104 : decode cU_sum 104 = .ok (.lconst 0, 1) := by decide +kernel
theorem dU_sum_105 : decode cU_sum 105 = .ok (.lcmp, 1) := by decide +kernel
theorem dU_sum_106 : decode cU_sum 106 = .ok (.ifCond .ne 34, 3) := by decide +kernel
theorem dU_sum_109 : decode cU_sum 109 = .ok (.aload_n 1, 1) := by decide +kernel
theorem dU_sum_110 : decode cU_sum 110 = .ok (.iload 6, 2) := by decide +kernel
theorem dU_sum_112 : decode cU_sum 112 = .ok (.ifCond .eq 11, 3) := by decide +kernel
theorem dU_sum_115 : decode cU_sum 115 = .ok (.aload_n 1, 1) := by decide +kernel
theorem dU_sum_116 : decode cU_sum 116 = .ok (.lload_n 2, 1) := by decide +kernel
theorem dU_sum_117 : decode cU_sum 117 = .ok (.invokevirtual 69, 3) := by decide +kernel
theorem dU_sum_120 : decode cU_sum 120 = .ok (.goto 16, 3) := by decide +kernel
theorem dU_sum_123 : decode cU_sum 123 = .ok (.aload_n 0, 1) := by decide +kernel
theorem dU_sum_124 : decode cU_sum 124 = .ok (.getfield 13, 3) := by decide +kernel
theorem dU_sum_127 : decode cU_sum 127 = .ok (.iconst 3, 1) := by decide +kernel
theorem dU_sum_128 : decode cU_sum 128 = .ok (.if_icmp .ne 7, 3) := by decide +kernel
theorem dU_sum_131 : decode cU_sum 131 = .ok (.iconst 1, 1) := by decide +kernel
theorem dU_sum_132 : decode cU_sum 132 = .ok (.goto 4, 3) := by decide +kernel
theorem dU_sum_135 : decode cU_sum 135 = .ok (.iconst 0, 1) := by decide +kernel
theorem dU_sum_136 : decode cU_sum 136 = .ok (.invokevirtual 58, 3) := by decide +kernel
theorem dU_sum_139 : decode cU_sum 139 = .ok (.lreturn, 1) := by decide +kernel
theorem dU_sum_140 : decode cU_sum 140 = .ok (.aload_n 0, 1) := by decide +kernel
theorem dU_sum_141 : decode cU_sum 141 = .ok (.aload_n 1, 1) := by decide +kernel
theorem dU_sum_142 : decode cU_sum 142 = .ok (.lload 8, 2) := by decide +kernel
theorem dU_sum_144 : decode cU_sum 144 = .ok (.lconst 0, 1) := by decide +kernel
theorem dU_sum_145 : decode cU_sum 145 = .ok (.lcmp, 1) := by decide +kernel
theorem dU_sum_146 : decode cU_sum 146 = .ok (.ifCond .ge 7, 3) := by decide +kernel
theorem dU_sum_149 : decode cU_sum 149 = .ok (.iconst 1, 1) := by decide +kernel
theorem dU_sum_150 : decode cU_sum 150 = .ok (.goto 4, 3) := by decide +kernel
theorem dU_sum_153 : decode cU_sum 153 = .ok (.iconst 0, 1) := by decide +kernel
theorem dU_sum_154 : decode cU_sum 154 = .ok (.lload 8, 2) := by decide +kernel
theorem dU_sum_156 : decode cU_sum 156 = .ok (.lconst 0, 1) := by decide +kernel
theorem dU_sum_157 : decode cU_sum 157 = .ok (.lcmp, 1) := by decide +kernel
theorem dU_sum_158 : decode cU_sum 158 = .ok (.ifCond .ge 9, 3) := by decide +kernel
theorem dU_sum_161 : decode cU_sum 161 = .ok (.lload 8, 2) := by decide +kernel
theorem dU_sum_163 : decode cU_sum 163 = .ok (.lneg, 1) := by decide +kernel
theorem dU_sum_164 : decode cU_sum 164 = .ok (.goto 5, 3) := by decide +kernel
theorem dU_sum_167 : decode cU_sum 167 = .ok (.lload 8, 2) := by decide +kernel
theorem dU_sum_169 : decode cU_sum 169 = .ok (.iload 7, 2) := by decide +kernel
theorem dU_sum_171 : decode cU_sum 171 = .ok (.invokevirtual 62, 3) := by decide +kernel
theorem dU_sum_174 : decode cU_sum 174 = .ok (.lreturn, 1) := by decide +kernel
theorem dU_invalid_0 : decode cU_invalid 0 = .ok (.aload_n 0, 1) := by decide +kernel
theorem dU_invalid_1 : decode cU_invalid 1 = .ok (.bipush 16, 2) := by decide +kernel
theorem dU_invalid_3 : decode cU_invalid 3 = .ok (.invokevirtual 66, 3) := by decide +kernel
theorem dU_invalid_6 : decode cU_invalid 6 = .ok (.aload_n 1, 1) := by decide +kernel
theorem dU_invalid_7 : decode cU_invalid 7 = .ok (.invokevirtual 88, 3) := by decide +kernel
theorem dU_invalid_10 : decode cU_invalid 10 = .ok (.lreturn, 1) := by decide +kernel
theorem dU_raise_0 : decode cU_raise 0 = .ok (.aload_n 0, 1) := by decide +kernel
theorem dU_raise_1 : decode cU_raise 1 = .ok (.dup, 1) := by decide +kernel
theorem dU_raise_2 : decode cU_raise 2 = .ok (.getfield 17, 3) := by decide +kernel
theorem dU_raise_5 : decode cU_raise 5 = .ok (.iload_n 1, 1) := by decide +kernel
theorem dU_raise_6 : decode cU_raise 6 = .ok (.ior, 1) := by decide +kernel
theorem dU_raise_7 : decode cU_raise 7 = .ok (.putfield 17, 3) := by decide +kernel
theorem dU_raise_10 : decode cU_raise 10 = .ok (.return_, 1) := by decide +kernel
theorem dU_freePlaces_0 : decode cU_freePlaces 0 = .ok (.iconst 0, 1) := by decide +kernel
theorem dU_freePlaces_1 : decode cU_freePlaces 1 = .ok (.istore_n 2, 1) := by decide +kernel
theorem dU_freePlaces_2 : decode cU_freePlaces 2 = .ok (.bipush 32, 2) := by decide +kernel
theorem dU_freePlaces_4 : decode cU_freePlaces 4 = .ok (.istore_n 3, 1) := by decide +kernel
theorem dU_freePlaces_5 : decode cU_freePlaces 5 = .ok (.iload_n 3, 1) := by decide +kernel
theorem dU_freePlaces_6 : decode cU_freePlaces 6 = .ok (.ifCond .le 27, 3) := by decide +kernel
theorem dU_freePlaces_9 : decode cU_freePlaces 9 = .ok (.lload_n 0, 1) := by decide +kernel
theorem dU_freePlaces_10 : decode cU_freePlaces 10 = .ok (.iload_n 2, 1) := by decide +kernel
theorem dU_freePlaces_11 : decode cU_freePlaces 11 = .ok (.lshl, 1) := by decide +kernel
theorem dU_freePlaces_12 : decode cU_freePlaces 12 = .ok (.bipush 63, 2) := by decide +kernel
theorem dU_freePlaces_14 : decode cU_freePlaces 14 = .ok (.iload_n 3, 1) := by decide +kernel
theorem dU_freePlaces_15 : decode cU_freePlaces 15 = .ok (.isub, 1) := by decide +kernel
theorem dU_freePlaces_16 : decode cU_freePlaces 16 = .ok (.lushr, 1) := by decide +kernel
theorem dU_freePlaces_17 : decode cU_freePlaces 17 = .ok (.lconst 0, 1) := by decide +kernel
theorem dU_freePlaces_18 : decode cU_freePlaces 18 = .ok (.lcmp, 1) := by decide +kernel
theorem dU_freePlaces_19 : decode cU_freePlaces 19 = .ok (.ifCond .ne 7, 3) := by decide +kernel
theorem dU_freePlaces_22 : decode cU_freePlaces 22 = .ok (.iload_n 2, 1) := by decide +kernel
theorem dU_freePlaces_23 : decode cU_freePlaces 23 = .ok (.iload_n 3, 1) := by decide +kernel
theorem dU_freePlaces_24 : decode cU_freePlaces 24 = .ok (.iadd, 1) := by decide +kernel
theorem dU_freePlaces_25 : decode cU_freePlaces 25 = .ok (.istore_n 2, 1) := by decide +kernel
theorem dU_freePlaces_26 : decode cU_freePlaces 26 = .ok (.iload_n 3, 1) := by decide +kernel
theorem dU_freePlaces_27 : decode cU_freePlaces 27 = .ok (.iconst 2, 1) := by decide +kernel
theorem dU_freePlaces_28 : decode cU_freePlaces 28 = .ok (.idiv, 1) := by decide +kernel
theorem dU_freePlaces_29 : decode cU_freePlaces 29 = .ok (.istore_n 3, 1) := by decide +kernel
theorem dU_freePlaces_30 : decode cU_freePlaces 30 = .ok (.goto (-25), 3) := by decide +kernel
theorem dU_freePlaces_33 : decode cU_freePlaces 33 = .ok (.iload_n 2, 1) := by decide +kernel
theorem dU_freePlaces_34 : decode cU_freePlaces 34 = .ok (.ireturn, 1) := by decide +kernel
theorem dU_term_0 : decode cU_term 0 = .ok (.iload_n 3, 1) := by decide +kernel
theorem dU_term_1 : decode cU_term 1 = .ok (.aload_n 0, 1) := by decide +kernel
theorem dU_term_2 : decode cU_term 2 = .ok (.lload_n 1, 1) := by decide +kernel
theorem dU_term_3 : decode cU_term 3 = .ok (.invokevirtual 123, 3) := by decide +kernel
theorem dU_term_6 : decode cU_term 6 = .ok (.isub, 1) := by decide +kernel
theorem dU_term_7 : decode cU_term 7 = .ok (.bipush 9, 2) := by decide +kernel
theorem dU_term_9 : decode cU_term 9 = .ok (.iadd, 1) := by decide +kernel
theorem dU_term_10 : decode cU_term 10 = .ok (.istore 4, 2) := by decide +kernel
theorem dU_term_12 : decode cU_term 12 = .ok (.aload_n 0, 1) := by decide +kernel
theorem dU_term_13 : decode cU_term 13 = .ok (.lload_n 1, 1) := by decide +kernel
theorem dU_term_14 : decode cU_term 14 = .ok (.invokevirtual 136, 3) := by decide +kernel
theorem dU_term_17 : decode cU_term 17 = .ok (.bipush 9, 2) := by decide +kernel
theorem dU_term_19 : decode cU_term 19 = .ok (.lshl, 1) := by decide +kernel
theorem dU_term_20 : decode cU_term 20 = .ok (.iload 4, 2) := by decide +kernel
theorem dU_term_22 : decode cU_term 22 = .ok (.invokestatic 139, 3) := by decide +kernel
theorem dU_term_25 : decode cU_term 25 = .ok (.lstore 5, 2) := by decide +kernel
theorem dU_term_27 : decode cU_term 27 = .ok (.aload_n 0, 1) := by decide +kernel
theorem dU_term_28 : decode cU_term 28 = .ok (.lload_n 1, 1) := by decide +kernel
theorem dU_term_29 : decode cU_term 29 = .ok (.invokevirtual 69, 3) := by decide +kernel
theorem dU_term_32 : decode cU_term 32 = .ok (.ifCond .eq 9, 3) := by decide +kernel
theorem dU_term_35 : decode cU_term 35 = .ok (.lload 5, 2) := by decide +kernel
theorem dU_term_37 : decode cU_term 37 = .ok (.lneg, 1) := by decide +kernel
theorem dU_term_38 : decode cU_term 38 = .ok (.goto 5, 3) := by decide +kernel
theorem dU_term_41 : decode cU_term 41 = .ok (.lload 5, 2) := by decide +kernel
theorem dU_term_43 : decode cU_term 43 = .ok (.lreturn, 1) := by decide +kernel
theorem dU_pressed_0 : decode cU_pressed 0 = .ok (.iload_n 2, 1) := by decide +kernel
theorem dU_pressed_1 : decode cU_pressed 1 = .ok (.bipush 62, 2) := by decide +kernel
theorem dU_pressed_3 : decode cU_pressed 3 = .ok (.if_icmp .le 15, 3) := by decide +kernel
theorem dU_pressed_6 : decode cU_pressed 6 = .ok (.lload_n 0, 1) := by decide +kernel
theorem dU_pressed_7 : decode cU_pressed 7 = .ok (.lconst 0, 1) := by decide +kernel
theorem dU_pressed_8 : decode cU_pressed 8 = .ok (.lcmp, 1) := by decide +kernel
theorem dU_pressed_9 : decode cU_pressed 9 = .ok (.ifCond .ne 7, 3) := by decide +kernel
theorem dU_pressed_12 : decode cU_pressed 12 = .ok (.lconst 0, 1) := by decide +kernel
theorem dU_pressed_13 : decode cU_pressed 13 = .ok (.goto 4, 3) := by decide +kernel
theorem dU_pressed_16 : decode cU_pressed 16 = .ok (.lconst 1, 1) := by decide +kernel
theorem dU_pressed_17 : decode cU_pressed 17 = .ok (.lreturn, 1) := by decide +kernel
theorem dU_pressed_18 : decode cU_pressed 18 = .ok (.lload_n 0, 1) := by decide +kernel
theorem dU_pressed_19 : decode cU_pressed 19 = .ok (.iload_n 2, 1) := by decide +kernel
theorem dU_pressed_20 : decode cU_pressed 20 = .ok (.lushr, 1) := by decide +kernel
theorem dU_pressed_21 : decode cU_pressed 21 = .ok (.lstore_n 3, 1) := by decide +kernel
theorem dU_pressed_22 : decode cU_pressed 22 = .ok (.lload_n 3, 1) := by decide +kernel
theorem dU_pressed_23 : decode cU_pressed 23 = .ok (.iload_n 2, 1) := by decide +kernel
theorem dU_pressed_24 : decode cU_pressed 24 = .ok (.lshl, 1) := by decide +kernel
theorem dU_pressed_25 : decode cU_pressed 25 = .ok (.lload_n 0, 1) := by decide +kernel
theorem dU_pressed_26 : decode cU_pressed 26 = .ok (.lcmp, 1) := by decide +kernel
theorem dU_pressed_27 : decode cU_pressed 27 = .ok (.ifCond .ne 7, 3) := by decide +kernel
theorem dU_pressed_30 : decode cU_pressed 30 = .ok (.lload_n 3, 1) := by decide +kernel
theorem dU_pressed_31 : decode cU_pressed 31 = .ok (.goto 6, 3) := by decide +kernel
theorem dU_pressed_34 : decode cU_pressed 34 = .ok (.lload_n 3, 1) := by decide +kernel
theorem dU_pressed_35 : decode cU_pressed 35 = .ok (.lconst 1, 1) := by decide +kernel
theorem dU_pressed_36 : decode cU_pressed 36 = .ok (.lor, 1) := by decide +kernel
theorem dU_pressed_37 : decode cU_pressed 37 = .ok (.lreturn, 1) := by decide +kernel
theorem dU_rounded_0 : decode cU_rounded 0 = .ok (.lload_n 3, 1) := by decide +kernel
theorem dU_rounded_1 : decode cU_rounded 1 = .ok (.lconst 0, 1) := by decide +kernel
theorem dU_rounded_2 : decode cU_rounded 2 = .ok (.lcmp, 1) := by decide +kernel
theorem dU_rounded_3 : decode cU_rounded 3 = .ok (.ifCond .ge 13, 3) := by decide +kernel
theorem dU_rounded_6 : decode cU_rounded 6 = .ok (.lload_n 3, 1) := by decide +kernel
theorem dU_rounded_7 : decode cU_rounded 7 = .ok (.iconst 1, 1) := by decide +kernel
theorem dU_rounded_8 : decode cU_rounded 8 = .ok (.lushr, 1) := by decide +kernel
theorem dU_rounded_9 : decode cU_rounded 9 = .ok (.lload_n 3, 1) := by decide +kernel
theorem dU_rounded_10 : decode cU_rounded 10 = .ok (.lconst 1, 1) := by decide +kernel
theorem dU_rounded_11 : decode cU_rounded 11 = .ok (.land, 1) := by decide +kernel
theorem dU_rounded_12 : decode cU_rounded 12 = .ok (.lor, 1) := by decide +kernel
theorem dU_rounded_13 : decode cU_rounded 13 = .ok (.goto 4, 3) := by decide +kernel
theorem dU_rounded_16 : decode cU_rounded 16 = .ok (.lload_n 3, 1) := by decide +kernel
theorem dU_rounded_17 : decode cU_rounded 17 = .ok (.lstore 6, 2) := by decide +kernel
theorem dU_rounded_19 : decode cU_rounded 19 = .ok (.lload 6, 2) := by decide +kernel
theorem dU_rounded_21 : decode cU_rounded 21 = .ok (.invokestatic 171, 3) := by decide +kernel
theorem dU_rounded_24 : decode cU_rounded 24 = .ok (.istore 8, 2) := by decide +kernel
theorem dU_rounded_26 : decode cU_rounded 26 = .ok (.lload 6, 2) := by decide +kernel
theorem dU_rounded_28 : decode cU_rounded 28 = .ok (.iload 8, 2) := by decide +kernel
theorem dU_rounded_30 : decode cU_rounded 30 = .ok (.lshl, 1) := by decide +kernel
theorem dU_rounded_31 : decode cU_rounded 31 = .ok (.lstore 6, 2) := by decide +kernel
theorem dU_rounded_33 : decode cU_rounded 33 = .ok (.lload_n 3, 1) := by decide +kernel
theorem dU_rounded_34 : decode cU_rounded 34 = .ok (.lconst 0, 1) := by decide +kernel
theorem dU_rounded_35 : decode cU_rounded 35 = .ok (.lcmp, 1) := by decide +kernel
theorem dU_rounded_36 : decode cU_rounded 36 = .ok (.ifCond .ge 10, 3) := by decide +kernel
theorem dU_rounded_39 : decode cU_rounded 39 = .ok (.iload 5, 2) := by decide +kernel
theorem dU_rounded_41 : decode cU_rounded 41 = .ok (.iconst 1, 1) := by decide +kernel
theorem dU_rounded_42 : decode cU_rounded 42 = .ok (.iadd, 1) := by decide +kernel
theorem dU_rounded_43 : decode cU_rounded 43 = .ok (.goto 5, 3) := by decide +kernel
theorem dU_rounded_46 : decode cU_rounded 46 = .ok (.iload 5, 2) := by decide +kernel
theorem dU_rounded_48 : decode cU_rounded 48 = .ok (.iload 8, 2) := by decide +kernel
theorem dU_rounded_50 : decode cU_rounded 50 = .ok (.isub, 1) := by decide +kernel
theorem dU_rounded_51 : decode cU_rounded 51 = .ok (.istore 9, 2) := by decide +kernel
theorem dU_rounded_53 : decode cU_rounded 53 = .ok (.iload 9, 2) := by decide +kernel
theorem dU_rounded_55 : decode cU_rounded 55 = .ok (.bipush 62, 2) := by decide +kernel
theorem dU_rounded_57 : decode cU_rounded 57 = .ok (.iadd, 1) := by decide +kernel
theorem dU_rounded_58 : decode cU_rounded 58 = .ok (.aload_n 1, 1) := by decide +kernel
theorem dU_rounded_59 : decode cU_rounded 59 = .ok (.getfield 174, 3) := by decide +kernel
theorem dU_rounded_62 : decode cU_rounded 62 = .ok (.iadd, 1) := by decide +kernel
theorem dU_rounded_63 : decode cU_rounded 63 = .ok (.iconst 1, 1) := by decide +kernel
theorem dU_rounded_64 : decode cU_rounded 64 = .ok (.invokestatic 126, 3) := by decide +kernel
theorem dU_rounded_67 : decode cU_rounded 67 = .ok (.istore 10, 2) := by decide +kernel
theorem dU_rounded_69 : decode cU_rounded 69 = .ok (.iload 10, 2) := by decide +kernel
theorem dU_rounded_71 : decode cU_rounded 71 = .ok (.iconst 2, 1) := by decide +kernel
theorem dU_rounded_72 : decode cU_rounded 72 = .ok (.aload_n 1, 1) := by decide +kernel
theorem dU_rounded_73 : decode cU_rounded 73 = .ok (.getfield 174, 3) := by decide +kernel
theorem dU_rounded_76 : decode cU_rounded 76 = .ok (.imul, 1) := by decide +kernel
theorem dU_rounded_77 : decode cU_rounded 77 = .ok (.if_icmp .le 10, 3) := by decide +kernel
theorem dU_rounded_80 : decode cU_rounded 80 = .ok (.aload_n 0, 1) := by decide +kernel
theorem dU_rounded_81 : decode cU_rounded 81 = .ok (.aload_n 1, 1) := by decide +kernel
theorem dU_rounded_82 : decode cU_rounded 82 = .ok (.iload_n 2, 1) := by decide +kernel
theorem dU_rounded_83 : decode cU_rounded 83 = .ok (.invokevirtual 177, 3) := by decide +kernel
theorem dU_rounded_86 : decode cU_rounded 86 = .ok (.lreturn, 1) := by decide +kernel
theorem dU_rounded_87 : decode cU_rounded 87 = .ok (.aload_n 1, 1) := by decide +kernel
theorem dU_rounded_88 : decode cU_rounded 88 = .ok (.iload 10, 2) := by decide +kernel
theorem dU_rounded_90 : decode cU_rounded 90 = .ok (.invokevirtual 181, 3) := by decide +kernel
theorem dU_rounded_93 : decode cU_rounded 93 = .ok (.iload 9, 2) := by decide +kernel
theorem dU_rounded_95 : decode cU_rounded 95 = .ok (.isub, 1) := by decide +kernel
theorem dU_rounded_96 : decode cU_rounded 96 = .ok (.istore 11, 2) := by decide +kernel
theorem dU_rounded_98 : decode cU_rounded 98 = .ok (.iload 11, 2) := by decide +kernel
theorem dU_rounded_100 : decode cU_rounded 100 = .ok (.bipush 63, 2) := by decide +kernel
theorem dU_rounded_102 : decode cU_rounded 102 = .ok (.if_icmp .le 10, 3) := by decide +kernel
theorem dU_rounded_105 : decode cU_rounded 105 = .ok (.lconst 1, 1) := by decide +kernel
theorem dU_rounded_106 : decode cU_rounded 106 = .ok (.lstore 6, 2) := by decide +kernel
theorem dU_rounded_108 : decode cU_rounded 108 = .ok (.bipush 63, 2) := by decide +kernel
theorem dU_rounded_110 : decode cU_rounded 110 = .ok (.istore 11, 2) := by decide +kernel
theorem dU_rounded_112 : decode cU_rounded 112 = .ok (.lload 6, 2) := by decide +kernel
theorem dU_rounded_114 : decode cU_rounded 114 = .ok (.iload 11, 2) := by decide +kernel
theorem dU_rounded_116 : decode cU_rounded 116 = .ok (.lushr, 1) := by decide +kernel
theorem dU_rounded_117 : decode cU_rounded 117 = .ok (.lstore 12, 2) := by decide +kernel
theorem dU_rounded_119 : decode cU_rounded 119 = .ok (.lload 6, 2) := by decide +kernel
theorem dU_rounded_121 : decode cU_rounded 121 = .ok (.lload 12, 2) := by decide +kernel
theorem dU_rounded_123 : decode cU_rounded 123 = .ok (.iload 11, 2) := by decide +kernel
theorem dU_rounded_125 : decode cU_rounded 125 = .ok (.lshl, 1) := by decide +kernel
theorem dU_rounded_126 : decode cU_rounded 126 = .ok (.lsub, 1) := by decide +kernel
theorem dU_rounded_127 : decode cU_rounded 127 = .ok (.lstore 14, 2) := by decide +kernel
theorem dU_rounded_129 : decode cU_rounded 129 = .ok (.aload_n 0, 1) := by decide +kernel
theorem dU_rounded_130 : decode cU_rounded 130 = .ok (.iload_n 2, 1) := by decide +kernel
theorem dU_rounded_131 : decode cU_rounded 131 = .ok (.lload 12, 2) := by decide +kernel
theorem dU_rounded_133 : decode cU_rounded 133 = .ok (.lload 14, 2) := by decide +kernel
theorem dU_rounded_135 : decode cU_rounded 135 = .ok (.lconst 1, 1) := by decide +kernel
theorem dU_rounded_136 : decode cU_rounded 136 = .ok (.iload 11, 2) := by decide +kernel
theorem dU_rounded_138 : decode cU_rounded 138 = .ok (.iconst 1, 1) := by decide +kernel
theorem dU_rounded_139 : decode cU_rounded 139 = .ok (.isub, 1) := by decide +kernel
theorem dU_rounded_140 : decode cU_rounded 140 = .ok (.lshl, 1) := by decide +kernel
theorem dU_rounded_141 : decode cU_rounded 141 = .ok (.invokevirtual 185, 3) := by decide +kernel
theorem dU_rounded_144 : decode cU_rounded 144 = .ok (.ifCond .eq 9, 3) := by decide +kernel
theorem dU_rounded_147 : decode cU_rounded 147 = .ok (.lload 12, 2) := by decide +kernel
theorem dU_rounded_149 : decode cU_rounded 149 = .ok (.lconst 1, 1) := by decide +kernel
theorem dU_rounded_150 : decode cU_rounded 150 = .ok (.ladd, 1) := by decide +kernel
theorem dU_rounded_151 : decode cU_rounded 151 = .ok (.lstore 12, 2) := by decide +kernel
theorem dU_rounded_153 : decode cU_rounded 153 = .ok (.iload 10, 2) := by decide +kernel
theorem dU_rounded_155 : decode cU_rounded 155 = .ok (.iconst 1, 1) := by decide +kernel
theorem dU_rounded_156 : decode cU_rounded 156 = .ok (.isub, 1) := by decide +kernel
theorem dU_rounded_157 : decode cU_rounded 157 = .ok (.i2l, 1) := by decide +kernel
theorem dU_rounded_158 : decode cU_rounded 158 = .ok (.aload_n 1, 1) := by decide +kernel
theorem dU_rounded_159 : decode cU_rounded 159 = .ok (.getfield 189, 3) := by decide +kernel
theorem dU_rounded_162 : decode cU_rounded 162 = .ok (.lmul, 1) := by decide +kernel
theorem dU_rounded_163 : decode cU_rounded 163 = .ok (.lload 12, 2) := by decide +kernel
theorem dU_rounded_165 : decode cU_rounded 165 = .ok (.ladd, 1) := by decide +kernel
theorem dU_rounded_166 : decode cU_rounded 166 = .ok (.lstore 16, 2) := by decide +kernel
theorem dU_rounded_168 : decode cU_rounded 168 = .ok (.lload 16, 2) := by decide +kernel
theorem dU_rounded_170 : decode cU_rounded 170 = .ok (.aload_n 1, 1) := by decide +kernel
theorem dU_rounded_171 : decode cU_rounded 171 = .ok (.getfield 193, 3) := by decide +kernel
theorem dU_rounded_174 : decode cU_rounded 174 = .ok (.lcmp, 1) := by decide +kernel
theorem dU_rounded_175 : decode cU_rounded 175 = .ok (.ifCond .lt 10, 3) := by decide +kernel
theorem dU_rounded_178 : decode cU_rounded 178 = .ok (.aload_n 0, 1) := by decide +kernel
theorem dU_rounded_179 : decode cU_rounded 179 = .ok (.aload_n 1, 1) := by decide +kernel
theorem dU_rounded_180 : decode cU_rounded 180 = .ok (.iload_n 2, 1) := by decide +kernel
theorem dU_rounded_181 : decode cU_rounded 181 = .ok (.invokevirtual 177, 3) := by decide +kernel
theorem dU_rounded_184 : decode cU_rounded 184 = .ok (.lreturn, 1) := by decide +kernel
theorem dU_rounded_185 : decode cU_rounded 185 = .ok (.lload 14, 2) := by decide +kernel
theorem dU_rounded_187 : decode cU_rounded 187 = .ok (.lconst 0, 1) := by decide +kernel
theorem dU_rounded_188 : decode cU_rounded 188 = .ok (.lcmp, 1) := by decide +kernel
theorem dU_rounded_189 : decode cU_rounded 189 = .ok (.ifCond .eq 22, 3) := by decide +kernel
theorem dU_rounded_192 : decode cU_rounded 192 = .ok (.aload_n 0, 1) := by decide +kernel
theorem dU_rounded_193 : decode cU_rounded 193 = .ok (.lload 16, 2) := by decide +kernel
theorem dU_rounded_195 : decode cU_rounded 195 = .ok (.aload_n 1, 1) := by decide +kernel
theorem dU_rounded_196 : decode cU_rounded 196 = .ok (.getfield 189, 3) := by decide +kernel
theorem dU_rounded_199 : decode cU_rounded 199 = .ok (.lcmp, 1) := by decide +kernel
theorem dU_rounded_200 : decode cU_rounded 200 = .ok (.ifCond .ge 7, 3) := by decide +kernel
theorem dU_rounded_203 : decode cU_rounded 203 = .ok (.iconst 3, 1) := by decide +kernel
theorem dU_rounded_204 : decode cU_rounded 204 = .ok (.goto 4, 3) := by decide +kernel
theorem dU_rounded_207 : decode cU_rounded 207 = .ok (.iconst 1, 1) := by decide +kernel
theorem dU_rounded_208 : decode cU_rounded 208 = .ok (.invokevirtual 66, 3) := by decide +kernel
theorem dU_rounded_211 : decode cU_rounded 211 = .ok (.aload_n 1, 1) := by decide +kernel
theorem dU_rounded_212 : decode cU_rounded 212 = .ok (.iload_n 2, 1) := by decide +kernel
theorem dU_rounded_213 : decode cU_rounded 213 = .ok (.lload 16, 2) := by decide +kernel
theorem dU_rounded_215 : decode cU_rounded 215 = .ok (.invokevirtual 195, 3) := by decide +kernel
theorem dU_rounded_218 : decode cU_rounded 218 = .ok (.lreturn, 1) := by decide +kernel
theorem dU_huge_0 : decode cU_huge 0 = .ok (.aload_n 0, 1) := by decide +kernel
theorem dU_huge_1 : decode cU_huge 1 = .ok (.iconst 5, 1) := by decide +kernel
theorem dU_huge_2 : decode cU_huge 2 = .ok (.invokevirtual 66, 3) := by decide +kernel
theorem dU_huge_5 : decode cU_huge 5 = .ok (.aload_n 0, 1) := by decide +kernel
theorem dU_huge_6 : decode cU_huge 6 = .ok (.getfield 13, 3) := by decide +kernel
theorem dU_huge_9 : decode cU_huge 9 = .ok (.iconst 1, 1) := by decide +kernel
theorem dU_huge_10 : decode cU_huge 10 = .ok (.if_icmp .eq 19, 3) := by decide +kernel
theorem dU_huge_13 : decode cU_huge 13 = .ok (.aload_n 0, 1) := by decide +kernel
theorem dU_huge_14 : decode cU_huge 14 = .ok (.getfield 13, 3) := by decide +kernel
theorem dU_huge_17 : decode cU_huge 17 = .ok (.iload_n 2, 1) := by decide +kernel
theorem dU_huge_18 : decode cU_huge 18 = .ok (.ifCond .eq 7, 3) := by decide +kernel
theorem dU_huge_21 : decode cU_huge 21 = .ok (.iconst 2, 1) := by decide +kernel
theorem dU_huge_22 : decode cU_huge 22 = .ok (.goto 4, 3) := by decide +kernel
theorem dU_huge_25 : decode cU_huge 25 = .ok (.iconst 3, 1) := by decide +kernel
theorem dU_huge_26 : decode cU_huge 26 = .ok (.if_icmp .ne 7, 3) := by decide +kernel
theorem dU_huge_29 : decode cU_huge 29 = .ok (.iconst 1, 1) := by decide +kernel
theorem dU_huge_30 : decode cU_huge 30 = .ok (.goto 4, 3) := by decide +kernel
theorem dU_huge_33 : decode cU_huge 33 = .ok (.iconst 0, 1) := by decide +kernel
theorem dU_huge_34 : decode cU_huge 34 = .ok (.istore_n 3, 1) := by decide +kernel
theorem dU_huge_35 : decode cU_huge 35 = .ok (.iload_n 3, 1) := by decide +kernel
theorem dU_huge_36 : decode cU_huge 36 = .ok (.ifCond .eq 11, 3) := by decide +kernel
theorem dU_huge_39 : decode cU_huge 39 = .ok (.aload_n 1, 1) := by decide +kernel
theorem dU_huge_40 : decode cU_huge 40 = .ok (.iload_n 2, 1) := by decide +kernel
theorem dU_huge_41 : decode cU_huge 41 = .ok (.invokevirtual 199, 3) := by decide +kernel
theorem dU_huge_44 : decode cU_huge 44 = .ok (.goto 8, 3) := by decide +kernel
theorem dU_huge_47 : decode cU_huge 47 = .ok (.aload_n 1, 1) := by decide +kernel
theorem dU_huge_48 : decode cU_huge 48 = .ok (.iload_n 2, 1) := by decide +kernel
theorem dU_huge_49 : decode cU_huge 49 = .ok (.invokevirtual 146, 3) := by decide +kernel
theorem dU_huge_52 : decode cU_huge 52 = .ok (.lreturn, 1) := by decide +kernel
theorem dU_goesAwayFromZero_0 : decode cU_goesAwayFromZero 0 = .ok (.aload_n 0, 1) := by decide +kernel
theorem dU_goesAwayFromZero_1 : decode cU_goesAwayFromZero 1 = .ok (.getfield 13, 3) := by decide +kernel
theorem dU_goesAwayFromZero_4 : decode cU_goesAwayFromZero 4 = .ok (.tableswitch 77 0 2 #[28, 58, 60], 28) := by decide +kernel
theorem dU_goesAwayFromZero_32 : decode cU_goesAwayFromZero 32 = .ok (.lload 4, 2) := by decide +kernel
theorem dU_goesAwayFromZero_34 : decode cU_goesAwayFromZero 34 = .ok (.lload 6, 2) := by decide +kernel
theorem dU_goesAwayFromZero_36 : decode cU_goesAwayFromZero 36 = .ok (.lcmp, 1) := by decide +kernel
theorem dU_goesAwayFromZero_37 : decode cU_goesAwayFromZero 37 = .ok (.ifCond .gt 19, 3) := by decide +kernel
theorem dU_goesAwayFromZero_40 : decode cU_goesAwayFromZero 40 = .ok (.lload 4, 2) := by decide +kernel
theorem dU_goesAwayFromZero_42 : decode cU_goesAwayFromZero 42 = .ok (.lload 6, 2) := by decide +kernel
theorem dU_goesAwayFromZero_44 : decode cU_goesAwayFromZero 44 = .ok (.lcmp, 1) := by decide +kernel
theorem dU_goesAwayFromZero_45 : decode cU_goesAwayFromZero 45 = .ok (.ifCond .ne 15, 3) := by decide +kernel
theorem dU_goesAwayFromZero_48 : decode cU_goesAwayFromZero 48 = .ok (.lload_n 2, 1) := by decide +kernel
theorem dU_goesAwayFromZero_49 : decode cU_goesAwayFromZero 49 = .ok (.lconst 1, 1) := by decide +kernel
theorem dU_goesAwayFromZero_50 : decode cU_goesAwayFromZero 50 = .ok (.land, 1) := by decide +kernel
theorem dU_goesAwayFromZero_51 : decode cU_goesAwayFromZero 51 = .ok (.lconst 0, 1) := by decide +kernel
theorem dU_goesAwayFromZero_52 : decode cU_goesAwayFromZero 52 = .ok (.lcmp, 1) := by decide +kernel
theorem dU_goesAwayFromZero_53 : decode cU_goesAwayFromZero 53 = .ok (.ifCond .eq 7, 3) := by decide +kernel
theorem dU_goesAwayFromZero_56 : decode cU_goesAwayFromZero 56 = .ok (.iconst 1, 1) := by decide +kernel
theorem dU_goesAwayFromZero_57 : decode cU_goesAwayFromZero 57 = .ok (.goto 4, 3) := by decide +kernel
theorem dU_goesAwayFromZero_60 : decode cU_goesAwayFromZero 60 = .ok (.iconst 0, 1) := by decide +kernel
theorem dU_goesAwayFromZero_61 : decode cU_goesAwayFromZero 61 = .ok (.ireturn, 1) := by decide +kernel
theorem dU_goesAwayFromZero_62 : decode cU_goesAwayFromZero 62 = .ok (.iconst 0, 1) := by decide +kernel
theorem dU_goesAwayFromZero_63 : decode cU_goesAwayFromZero 63 = .ok (.ireturn, 1) := by decide +kernel
theorem dU_goesAwayFromZero_64 : decode cU_goesAwayFromZero 64 = .ok (.lload 4, 2) := by decide +kernel
theorem dU_goesAwayFromZero_66 : decode cU_goesAwayFromZero 66 = .ok (.lconst 0, 1) := by decide +kernel
theorem dU_goesAwayFromZero_67 : decode cU_goesAwayFromZero 67 = .ok (.lcmp, 1) := by decide +kernel
theorem dU_goesAwayFromZero_68 : decode cU_goesAwayFromZero 68 = .ok (.ifCond .eq 11, 3) := by decide +kernel
theorem dU_goesAwayFromZero_71 : decode cU_goesAwayFromZero 71 = .ok (.iload_n 1, 1) := by decide +kernel
theorem dU_goesAwayFromZero_72 : decode cU_goesAwayFromZero 72 = .ok (.ifCond .ne 7, 3) := by decide +kernel
theorem dU_goesAwayFromZero_75 : decode cU_goesAwayFromZero 75 = .ok (.iconst 1, 1) := by decide +kernel
theorem dU_goesAwayFromZero_76 : decode cU_goesAwayFromZero 76 = .ok (.goto 4, 3) := by decide +kernel
theorem dU_goesAwayFromZero_79 : decode cU_goesAwayFromZero 79 = .ok (.iconst 0, 1) := by decide +kernel
theorem dU_goesAwayFromZero_80 : decode cU_goesAwayFromZero 80 = .ok (.ireturn, 1) := by decide +kernel
theorem dU_goesAwayFromZero_81 : decode cU_goesAwayFromZero 81 = .ok (.lload 4, 2) := by decide +kernel
theorem dU_goesAwayFromZero_83 : decode cU_goesAwayFromZero 83 = .ok (.lconst 0, 1) := by decide +kernel
theorem dU_goesAwayFromZero_84 : decode cU_goesAwayFromZero 84 = .ok (.lcmp, 1) := by decide +kernel
theorem dU_goesAwayFromZero_85 : decode cU_goesAwayFromZero 85 = .ok (.ifCond .eq 11, 3) := by decide +kernel
theorem dU_goesAwayFromZero_88 : decode cU_goesAwayFromZero 88 = .ok (.iload_n 1, 1) := by decide +kernel
theorem dU_goesAwayFromZero_89 : decode cU_goesAwayFromZero 89 = .ok (.ifCond .eq 7, 3) := by decide +kernel
theorem dU_goesAwayFromZero_92 : decode cU_goesAwayFromZero 92 = .ok (.iconst 1, 1) := by decide +kernel
theorem dU_goesAwayFromZero_93 : decode cU_goesAwayFromZero 93 = .ok (.goto 4, 3) := by decide +kernel
theorem dU_goesAwayFromZero_96 : decode cU_goesAwayFromZero 96 = .ok (.iconst 0, 1) := by decide +kernel
theorem dU_goesAwayFromZero_97 : decode cU_goesAwayFromZero 97 = .ok (.ireturn, 1) := by decide +kernel
theorem dU_product_0 : decode cU_product 0 = .ok (.aload_n 1, 1) := by decide +kernel
theorem dU_product_1 : decode cU_product 1 = .ok (.lload_n 2, 1) := by decide +kernel
theorem dU_product_2 : decode cU_product 2 = .ok (.invokevirtual 69, 3) := by decide +kernel
theorem dU_product_5 : decode cU_product 5 = .ok (.aload_n 1, 1) := by decide +kernel
theorem dU_product_6 : decode cU_product 6 = .ok (.lload 4, 2) := by decide +kernel
theorem dU_product_8 : decode cU_product 8 = .ok (.invokevirtual 69, 3) := by decide +kernel
theorem dU_product_11 : decode cU_product 11 = .ok (.if_icmp .eq 7, 3) := by decide +kernel
theorem dU_product_14 : decode cU_product 14 = .ok (.iconst 1, 1) := by decide +kernel
theorem dU_product_15 : decode cU_product 15 = .ok (.goto 4, 3) := by decide +kernel
theorem dU_product_18 : decode cU_product 18 = .ok (.iconst 0, 1) := by decide +kernel
theorem dU_product_19 : decode cU_product 19 = .ok (.istore 6, 2) := by decide +kernel
theorem dU_product_21 : decode cU_product 21 = .ok (.aload_n 1, 1) := by decide +kernel
theorem dU_product_22 : decode cU_product 22 = .ok (.lload_n 2, 1) := by decide +kernel
theorem dU_product_23 : decode cU_product 23 = .ok (.invokevirtual 143, 3) := by decide +kernel
theorem dU_product_26 : decode cU_product 26 = .ok (.ifCond .ne 12, 3) := by decide +kernel
theorem dU_product_29 : decode cU_product 29 = .ok (.aload_n 1, 1) := by decide +kernel
theorem dU_product_30 : decode cU_product 30 = .ok (.lload 4, 2) := by decide +kernel
theorem dU_product_32 : decode cU_product 32 = .ok (.invokevirtual 143, 3) := by decide +kernel
theorem dU_product_35 : decode cU_product 35 = .ok (.ifCond .eq 7, 3) := by decide +kernel
theorem dU_product_38 : decode cU_product 38 = .ok (.iconst 1, 1) := by decide +kernel
theorem dU_product_39 : decode cU_product 39 = .ok (.goto 4, 3) := by decide +kernel
theorem dU_product_42 : decode cU_product 42 = .ok (.iconst 0, 1) := by decide +kernel
theorem dU_product_43 : decode cU_product 43 = .ok (.istore 7, 2) := by decide +kernel
theorem dU_product_45 : decode cU_product 45 = .ok (.aload_n 1, 1) := by decide +kernel
theorem dU_product_46 : decode cU_product 46 = .ok (.lload_n 2, 1) := by decide +kernel
theorem dU_product_47 : decode cU_product 47 = .ok (.invokevirtual 116, 3) := by decide +kernel
theorem dU_product_50 : decode cU_product 50 = .ok (.ifCond .ne 12, 3) := by decide +kernel
theorem dU_product_53 : decode cU_product 53 = .ok (.aload_n 1, 1) := by decide +kernel
theorem dU_product_54 : decode cU_product 54 = .ok (.lload 4, 2) := by decide +kernel
theorem dU_product_56 : decode cU_product 56 = .ok (.invokevirtual 116, 3) := by decide +kernel
theorem dU_product_59 : decode cU_product 59 = .ok (.ifCond .eq 23, 3) := by decide +kernel
theorem dU_product_62 : decode cU_product 62 = .ok (.iload 7, 2) := by decide +kernel
theorem dU_product_64 : decode cU_product 64 = .ok (.ifCond .eq 11, 3) := by decide +kernel
theorem dU_product_67 : decode cU_product 67 = .ok (.aload_n 0, 1) := by decide +kernel
theorem dU_product_68 : decode cU_product 68 = .ok (.aload_n 1, 1) := by decide +kernel
theorem dU_product_69 : decode cU_product 69 = .ok (.invokevirtual 119, 3) := by decide +kernel
theorem dU_product_72 : decode cU_product 72 = .ok (.goto 9, 3) := by decide +kernel
theorem dU_product_75 : decode cU_product 75 = .ok (.aload_n 1, 1) := by decide +kernel
theorem dU_product_76 : decode cU_product 76 = .ok (.iload 6, 2) := by decide +kernel
theorem dU_product_78 : decode cU_product 78 = .ok (.invokevirtual 146, 3) := by decide +kernel
theorem dU_product_81 : decode cU_product 81 = .ok (.lreturn, 1) := by decide +kernel
theorem dU_product_82 : decode cU_product 82 = .ok (.iload 7, 2) := by decide +kernel
theorem dU_product_84 : decode cU_product 84 = .ok (.ifCond .eq 10, 3) := by decide +kernel
theorem dU_product_87 : decode cU_product 87 = .ok (.aload_n 1, 1) := by decide +kernel
theorem dU_product_88 : decode cU_product 88 = .ok (.iload 6, 2) := by decide +kernel
theorem dU_product_90 : decode cU_product 90 = .ok (.invokevirtual 58, 3) := by decide +kernel
theorem dU_product_93 : decode cU_product 93 = .ok (.lreturn, 1) := by decide +kernel
theorem dU_product_94 : decode cU_product 94 = .ok (.aload_n 1, 1) := by decide +kernel
theorem dU_product_95 : decode cU_product 95 = .ok (.lload_n 2, 1) := by decide +kernel
theorem dU_product_96 : decode cU_product 96 = .ok (.invokevirtual 136, 3) := by decide +kernel
theorem dU_product_99 : decode cU_product 99 = .ok (.bipush 10, 2) := by decide +kernel
theorem dU_product_101 : decode cU_product 101 = .ok (.lshl, 1) := by decide +kernel
theorem dU_product_102 : decode cU_product 102 = .ok (.aload_n 1, 1) := by decide +kernel
theorem dU_product_103 : decode cU_product 103 = .ok (.lload 4, 2) := by decide +kernel
theorem dU_product_105 : decode cU_product 105 = .ok (.invokevirtual 136, 3) := by decide +kernel
theorem dU_product_108 : decode cU_product 108 = .ok (.bipush 10, 2) := by decide +kernel
theorem dU_product_110 : decode cU_product 110 = .ok (.lshl, 1) := by decide +kernel
theorem dU_product_111 : decode cU_product 111 = .ok (.invokestatic 149, 3) := by decide +kernel
theorem dU_product_114 : decode cU_product 114 = .ok (.lstore 8, 2) := by decide +kernel
theorem dU_product_116 : decode cU_product 116 = .ok (.aload_n 1, 1) := by decide +kernel
theorem dU_product_117 : decode cU_product 117 = .ok (.lload_n 2, 1) := by decide +kernel
theorem dU_product_118 : decode cU_product 118 = .ok (.invokevirtual 123, 3) := by decide +kernel
theorem dU_product_121 : decode cU_product 121 = .ok (.aload_n 1, 1) := by decide +kernel
theorem dU_product_122 : decode cU_product 122 = .ok (.lload 4, 2) := by decide +kernel
theorem dU_product_124 : decode cU_product 124 = .ok (.invokevirtual 123, 3) := by decide +kernel
theorem dU_product_127 : decode cU_product 127 = .ok (.iadd, 1) := by decide +kernel
theorem dU_product_128 : decode cU_product 128 = .ok (.bipush 20, 2) := by decide +kernel
theorem dU_product_130 : decode cU_product 130 = .ok (.isub, 1) := by decide +kernel
theorem dU_product_131 : decode cU_product 131 = .ok (.bipush 64, 2) := by decide +kernel
theorem dU_product_133 : decode cU_product 133 = .ok (.iadd, 1) := by decide +kernel
theorem dU_product_134 : decode cU_product 134 = .ok (.istore 10, 2) := by decide +kernel
theorem dU_product_136 : decode cU_product 136 = .ok (.aload_n 0, 1) := by decide +kernel
theorem dU_product_137 : decode cU_product 137 = .ok (.aload_n 1, 1) := by decide +kernel
theorem dU_product_138 : decode cU_product 138 = .ok (.iload 6, 2) := by decide +kernel
theorem dU_product_140 : decode cU_product 140 = .ok (.lload 8, 2) := by decide +kernel
theorem dU_product_142 : decode cU_product 142 = .ok (.iload 10, 2) := by decide +kernel
theorem dU_product_144 : decode cU_product 144 = .ok (.invokevirtual 62, 3) := by decide +kernel
theorem dU_product_147 : decode cU_product 147 = .ok (.lreturn, 1) := by decide +kernel
theorem dU_upperProduct_0 : decode cU_upperProduct 0 = .ok (.lload_n 0, 1) := by decide +kernel
theorem dU_upperProduct_1 : decode cU_upperProduct 1 = .ok (.bipush 32, 2) := by decide +kernel
theorem dU_upperProduct_3 : decode cU_upperProduct 3 = .ok (.lushr, 1) := by decide +kernel
theorem dU_upperProduct_4 : decode cU_upperProduct 4 = .ok (.lstore 4, 2) := by decide +kernel
theorem dU_upperProduct_6 : decode cU_upperProduct 6 = .ok (.lload_n 0, 1) := by decide +kernel
theorem dU_upperProduct_7 : decode cU_upperProduct 7 = .ok (.ldc2_w 153, 3) := by decide +kernel
theorem dU_upperProduct_10 : decode cU_upperProduct 10 = .ok (.land, 1) := by decide +kernel
theorem dU_upperProduct_11 : decode cU_upperProduct 11 = .ok (.lstore 6, 2) := by decide +kernel
theorem dU_upperProduct_13 : decode cU_upperProduct 13 = .ok (.lload_n 2, 1) := by decide +kernel
theorem dU_upperProduct_14 : decode cU_upperProduct 14 = .ok (.bipush 32, 2) := by decide +kernel
theorem dU_upperProduct_16 : decode cU_upperProduct 16 = .ok (.lushr, 1) := by decide +kernel
theorem dU_upperProduct_17 : decode cU_upperProduct 17 = .ok (.lstore 8, 2) := by decide +kernel
theorem dU_upperProduct_19 : decode cU_upperProduct 19 = .ok (.lload_n 2, 1) := by decide +kernel
theorem dU_upperProduct_20 : decode cU_upperProduct 20 = .ok (.ldc2_w 153, 3) := by decide +kernel
theorem dU_upperProduct_23 : decode cU_upperProduct 23 = .ok (.land, 1) := by decide +kernel
theorem dU_upperProduct_24 : decode cU_upperProduct 24 = .ok (.lstore 10, 2) := by decide +kernel
theorem dU_upperProduct_26 : decode cU_upperProduct 26 = .ok (.lload 6, 2) := by decide +kernel
theorem dU_upperProduct_28 : decode cU_upperProduct 28 = .ok (.lload 10, 2) := by decide +kernel
theorem dU_upperProduct_30 : decode cU_upperProduct 30 = .ok (.lmul, 1) := by decide +kernel
theorem dU_upperProduct_31 : decode cU_upperProduct 31 = .ok (.lstore 12, 2) := by decide +kernel
theorem dU_upperProduct_33 : decode cU_upperProduct 33 = .ok (.lload 4, 2) := by decide +kernel
theorem dU_upperProduct_35 : decode cU_upperProduct 35 = .ok (.lload 10, 2) := by decide +kernel
theorem dU_upperProduct_37 : decode cU_upperProduct 37 = .ok (.lmul, 1) := by decide +kernel
theorem dU_upperProduct_38 : decode cU_upperProduct 38 = .ok (.lload 12, 2) := by decide +kernel
theorem dU_upperProduct_40 : decode cU_upperProduct 40 = .ok (.bipush 32, 2) := by decide +kernel
theorem dU_upperProduct_42 : decode cU_upperProduct 42 = .ok (.lushr, 1) := by decide +kernel
theorem dU_upperProduct_43 : decode cU_upperProduct 43 = .ok (.ladd, 1) := by decide +kernel
theorem dU_upperProduct_44 : decode cU_upperProduct 44 = .ok (.lstore 14, 2) := by decide +kernel
theorem dU_upperProduct_46 : decode cU_upperProduct 46 = .ok (.lload 6, 2) := by decide +kernel
theorem dU_upperProduct_48 : decode cU_upperProduct 48 = .ok (.lload 8, 2) := by decide +kernel
theorem dU_upperProduct_50 : decode cU_upperProduct 50 = .ok (.lmul, 1) := by decide +kernel
theorem dU_upperProduct_51 : decode cU_upperProduct 51 = .ok (.lload 14, 2) := by decide +kernel
theorem dU_upperProduct_53 : decode cU_upperProduct 53 = .ok (.ldc2_w 153, 3) := by decide +kernel
theorem dU_upperProduct_56 : decode cU_upperProduct 56 = .ok (.land, 1) := by decide +kernel
theorem dU_upperProduct_57 : decode cU_upperProduct 57 = .ok (.ladd, 1) := by decide +kernel
theorem dU_upperProduct_58 : decode cU_upperProduct 58 = .ok (.lstore 16, 2) := by decide +kernel
theorem dU_upperProduct_60 : decode cU_upperProduct 60 = .ok (.lload 4, 2) := by decide +kernel
theorem dU_upperProduct_62 : decode cU_upperProduct 62 = .ok (.lload 8, 2) := by decide +kernel
theorem dU_upperProduct_64 : decode cU_upperProduct 64 = .ok (.lmul, 1) := by decide +kernel
theorem dU_upperProduct_65 : decode cU_upperProduct 65 = .ok (.lload 14, 2) := by decide +kernel
theorem dU_upperProduct_67 : decode cU_upperProduct 67 = .ok (.bipush 32, 2) := by decide +kernel
theorem dU_upperProduct_69 : decode cU_upperProduct 69 = .ok (.lushr, 1) := by decide +kernel
theorem dU_upperProduct_70 : decode cU_upperProduct 70 = .ok (.ladd, 1) := by decide +kernel
theorem dU_upperProduct_71 : decode cU_upperProduct 71 = .ok (.lload 16, 2) := by decide +kernel
theorem dU_upperProduct_73 : decode cU_upperProduct 73 = .ok (.bipush 32, 2) := by decide +kernel
theorem dU_upperProduct_75 : decode cU_upperProduct 75 = .ok (.lushr, 1) := by decide +kernel
theorem dU_upperProduct_76 : decode cU_upperProduct 76 = .ok (.ladd, 1) := by decide +kernel
theorem dU_upperProduct_77 : decode cU_upperProduct 77 = .ok (.lstore 18, 2) := by decide +kernel
theorem dU_upperProduct_79 : decode cU_upperProduct 79 = .ok (.lload 16, 2) := by decide +kernel
theorem dU_upperProduct_81 : decode cU_upperProduct 81 = .ok (.ldc2_w 153, 3) := by decide +kernel
theorem dU_upperProduct_84 : decode cU_upperProduct 84 = .ok (.land, 1) := by decide +kernel
theorem dU_upperProduct_85 : decode cU_upperProduct 85 = .ok (.lconst 0, 1) := by decide +kernel
theorem dU_upperProduct_86 : decode cU_upperProduct 86 = .ok (.lcmp, 1) := by decide +kernel
theorem dU_upperProduct_87 : decode cU_upperProduct 87 = .ok (.ifCond .ne 18, 3) := by decide +kernel
theorem dU_upperProduct_90 : decode cU_upperProduct 90 = .ok (.lload 12, 2) := by decide +kernel
theorem dU_upperProduct_92 : decode cU_upperProduct 92 = .ok (.ldc2_w 153, 3) := by decide +kernel
theorem dU_upperProduct_95 : decode cU_upperProduct 95 = .ok (.land, 1) := by decide +kernel
theorem dU_upperProduct_96 : decode cU_upperProduct 96 = .ok (.lconst 0, 1) := by decide +kernel
theorem dU_upperProduct_97 : decode cU_upperProduct 97 = .ok (.lcmp, 1) := by decide +kernel
theorem dU_upperProduct_98 : decode cU_upperProduct 98 = .ok (.ifCond .ne 7, 3) := by decide +kernel
theorem dU_upperProduct_101 : decode cU_upperProduct 101 = .ok (.iconst 1, 1) := by decide +kernel
theorem dU_upperProduct_102 : decode cU_upperProduct 102 = .ok (.goto 4, 3) := by decide +kernel
theorem dU_upperProduct_105 : decode cU_upperProduct 105 = .ok (.iconst 0, 1) := by decide +kernel
theorem dU_upperProduct_106 : decode cU_upperProduct 106 = .ok (.istore 20, 2) := by decide +kernel
theorem dU_upperProduct_108 : decode cU_upperProduct 108 = .ok (.iload 20, 2) := by decide +kernel
theorem dU_upperProduct_110 : decode cU_upperProduct 110 = .ok (.ifCond .eq 8, 3) := by decide +kernel
theorem dU_upperProduct_113 : decode cU_upperProduct 113 = .ok (.lload 18, 2) := by decide +kernel
theorem dU_upperProduct_115 : decode cU_upperProduct 115 = .ok (.goto 7, 3) := by decide +kernel
theorem dU_upperProduct_118 : decode cU_upperProduct 118 = .ok (.lload 18, 2) := by decide +kernel
theorem dU_upperProduct_120 : decode cU_upperProduct 120 = .ok (.lconst 1, 1) := by decide +kernel
theorem dU_upperProduct_121 : decode cU_upperProduct 121 = .ok (.lor, 1) := by decide +kernel
theorem dU_upperProduct_122 : decode cU_upperProduct 122 = .ok (.lreturn, 1) := by decide +kernel
theorem dU_quotient_0 : decode cU_quotient 0 = .ok (.aload_n 1, 1) := by decide +kernel
theorem dU_quotient_1 : decode cU_quotient 1 = .ok (.lload_n 2, 1) := by decide +kernel
theorem dU_quotient_2 : decode cU_quotient 2 = .ok (.invokevirtual 69, 3) := by decide +kernel
theorem dU_quotient_5 : decode cU_quotient 5 = .ok (.aload_n 1, 1) := by decide +kernel
theorem dU_quotient_6 : decode cU_quotient 6 = .ok (.lload 4, 2) := by decide +kernel
theorem dU_quotient_8 : decode cU_quotient 8 = .ok (.invokevirtual 69, 3) := by decide +kernel
theorem dU_quotient_11 : decode cU_quotient 11 = .ok (.if_icmp .eq 7, 3) := by decide +kernel
theorem dU_quotient_14 : decode cU_quotient 14 = .ok (.iconst 1, 1) := by decide +kernel
theorem dU_quotient_15 : decode cU_quotient 15 = .ok (.goto 4, 3) := by decide +kernel
theorem dU_quotient_18 : decode cU_quotient 18 = .ok (.iconst 0, 1) := by decide +kernel
theorem dU_quotient_19 : decode cU_quotient 19 = .ok (.istore 6, 2) := by decide +kernel
theorem dU_quotient_21 : decode cU_quotient 21 = .ok (.aload_n 1, 1) := by decide +kernel
theorem dU_quotient_22 : decode cU_quotient 22 = .ok (.lload_n 2, 1) := by decide +kernel
theorem dU_quotient_23 : decode cU_quotient 23 = .ok (.invokevirtual 116, 3) := by decide +kernel
theorem dU_quotient_26 : decode cU_quotient 26 = .ok (.ifCond .eq 27, 3) := by decide +kernel
theorem dU_quotient_29 : decode cU_quotient 29 = .ok (.aload_n 1, 1) := by decide +kernel
theorem dU_quotient_30 : decode cU_quotient 30 = .ok (.lload 4, 2) := by decide +kernel
theorem dU_quotient_32 : decode cU_quotient 32 = .ok (.invokevirtual 116, 3) := by decide +kernel
theorem dU_quotient_35 : decode cU_quotient 35 = .ok (.ifCond .eq 11, 3) := by decide +kernel
theorem dU_quotient_38 : decode cU_quotient 38 = .ok (.aload_n 0, 1) := by decide +kernel
theorem dU_quotient_39 : decode cU_quotient 39 = .ok (.aload_n 1, 1) := by decide +kernel
theorem dU_quotient_40 : decode cU_quotient 40 = .ok (.invokevirtual 119, 3) := by decide +kernel
theorem dU_quotient_43 : decode cU_quotient 43 = .ok (.goto 9, 3) := by decide +kernel
theorem dU_quotient_46 : decode cU_quotient 46 = .ok (.aload_n 1, 1) := by decide +kernel
theorem dU_quotient_47 : decode cU_quotient 47 = .ok (.iload 6, 2) := by decide +kernel
theorem dU_quotient_49 : decode cU_quotient 49 = .ok (.invokevirtual 146, 3) := by decide +kernel
theorem dU_quotient_52 : decode cU_quotient 52 = .ok (.lreturn, 1) := by decide +kernel
theorem dU_quotient_53 : decode cU_quotient 53 = .ok (.aload_n 1, 1) := by decide +kernel
theorem dU_quotient_54 : decode cU_quotient 54 = .ok (.lload 4, 2) := by decide +kernel
theorem dU_quotient_56 : decode cU_quotient 56 = .ok (.invokevirtual 116, 3) := by decide +kernel
theorem dU_quotient_59 : decode cU_quotient 59 = .ok (.ifCond .eq 10, 3) := by decide +kernel
theorem dU_quotient_62 : decode cU_quotient 62 = .ok (.aload_n 1, 1) := by decide +kernel
theorem dU_quotient_63 : decode cU_quotient 63 = .ok (.iload 6, 2) := by decide +kernel
theorem dU_quotient_65 : decode cU_quotient 65 = .ok (.invokevirtual 58, 3) := by decide +kernel
theorem dU_quotient_68 : decode cU_quotient 68 = .ok (.lreturn, 1) := by decide +kernel
theorem dU_quotient_69 : decode cU_quotient 69 = .ok (.aload_n 1, 1) := by decide +kernel
theorem dU_quotient_70 : decode cU_quotient 70 = .ok (.lload 4, 2) := by decide +kernel
theorem dU_quotient_72 : decode cU_quotient 72 = .ok (.invokevirtual 136, 3) := by decide +kernel
theorem dU_quotient_75 : decode cU_quotient 75 = .ok (.lstore 7, 2) := by decide +kernel
theorem dU_quotient_77 : decode cU_quotient 77 = .ok (.lload 7, 2) := by decide +kernel
theorem dU_quotient_79 : decode cU_quotient 79 = .ok (.lconst 0, 1) := by decide +kernel
theorem dU_quotient_80 : decode cU_quotient 80 = .ok (.lcmp, 1) := by decide +kernel
theorem dU_quotient_81 : decode cU_quotient 81 = .ok (.ifCond .ne 12, 3) := by decide +kernel
theorem dU_quotient_84 : decode cU_quotient 84 = .ok (.aload_n 0, 1) := by decide +kernel
theorem dU_quotient_85 : decode cU_quotient 85 = .ok (.aload_n 1, 1) := by decide +kernel
theorem dU_quotient_86 : decode cU_quotient 86 = .ok (.lload_n 2, 1) := by decide +kernel
theorem dU_quotient_87 : decode cU_quotient 87 = .ok (.iload 6, 2) := by decide +kernel
theorem dU_quotient_89 : decode cU_quotient 89 = .ok (.invokevirtual 155, 3) := by decide +kernel
theorem dU_quotient_92 : decode cU_quotient 92 = .ok (.lreturn, 1) := by decide +kernel
theorem dU_quotient_93 : decode cU_quotient 93 = .ok (.aload_n 1, 1) := by decide +kernel
theorem dU_quotient_94 : decode cU_quotient 94 = .ok (.lload_n 2, 1) := by decide +kernel
theorem dU_quotient_95 : decode cU_quotient 95 = .ok (.invokevirtual 143, 3) := by decide +kernel
theorem dU_quotient_98 : decode cU_quotient 98 = .ok (.ifCond .eq 10, 3) := by decide +kernel
theorem dU_quotient_101 : decode cU_quotient 101 = .ok (.aload_n 1, 1) := by decide +kernel
theorem dU_quotient_102 : decode cU_quotient 102 = .ok (.iload 6, 2) := by decide +kernel
theorem dU_quotient_104 : decode cU_quotient 104 = .ok (.invokevirtual 58, 3) := by decide +kernel
theorem dU_quotient_107 : decode cU_quotient 107 = .ok (.lreturn, 1) := by decide +kernel
theorem dU_quotient_108 : decode cU_quotient 108 = .ok (.aload_n 1, 1) := by decide +kernel
theorem dU_quotient_109 : decode cU_quotient 109 = .ok (.lload_n 2, 1) := by decide +kernel
theorem dU_quotient_110 : decode cU_quotient 110 = .ok (.invokevirtual 136, 3) := by decide +kernel
theorem dU_quotient_113 : decode cU_quotient 113 = .ok (.lstore 9, 2) := by decide +kernel
theorem dU_quotient_115 : decode cU_quotient 115 = .ok (.lload 9, 2) := by decide +kernel
theorem dU_quotient_117 : decode cU_quotient 117 = .ok (.lload 7, 2) := by decide +kernel
theorem dU_quotient_119 : decode cU_quotient 119 = .ok (.ldiv, 1) := by decide +kernel
theorem dU_quotient_120 : decode cU_quotient 120 = .ok (.lstore 11, 2) := by decide +kernel
theorem dU_quotient_122 : decode cU_quotient 122 = .ok (.lload 9, 2) := by decide +kernel
theorem dU_quotient_124 : decode cU_quotient 124 = .ok (.lload 7, 2) := by decide +kernel
theorem dU_quotient_126 : decode cU_quotient 126 = .ok (.lrem, 1) := by decide +kernel
theorem dU_quotient_127 : decode cU_quotient 127 = .ok (.lstore 9, 2) := by decide +kernel
theorem dU_quotient_129 : decode cU_quotient 129 = .ok (.aload_n 1, 1) := by decide +kernel
theorem dU_quotient_130 : decode cU_quotient 130 = .ok (.lload_n 2, 1) := by decide +kernel
theorem dU_quotient_131 : decode cU_quotient 131 = .ok (.invokevirtual 123, 3) := by decide +kernel
theorem dU_quotient_134 : decode cU_quotient 134 = .ok (.aload_n 1, 1) := by decide +kernel
theorem dU_quotient_135 : decode cU_quotient 135 = .ok (.lload 4, 2) := by decide +kernel
theorem dU_quotient_137 : decode cU_quotient 137 = .ok (.invokevirtual 123, 3) := by decide +kernel
theorem dU_quotient_140 : decode cU_quotient 140 = .ok (.isub, 1) := by decide +kernel
theorem dU_quotient_141 : decode cU_quotient 141 = .ok (.istore 13, 2) := by decide +kernel
theorem dU_quotient_143 : decode cU_quotient 143 = .ok (.iconst 0, 1) := by decide +kernel
theorem dU_quotient_144 : decode cU_quotient 144 = .ok (.istore 14, 2) := by decide +kernel
theorem dU_quotient_146 : decode cU_quotient 146 = .ok (.iload 14, 2) := by decide +kernel
theorem dU_quotient_148 : decode cU_quotient 148 = .ok (.bipush 6, 2) := by decide +kernel
theorem dU_quotient_150 : decode cU_quotient 150 = .ok (.if_icmp .ge 39, 3) := by decide +kernel
theorem dU_quotient_153 : decode cU_quotient 153 = .ok (.lload 9, 2) := by decide +kernel
theorem dU_quotient_155 : decode cU_quotient 155 = .ok (.bipush 10, 2) := by decide +kernel
theorem dU_quotient_157 : decode cU_quotient 157 = .ok (.lshl, 1) := by decide +kernel
theorem dU_quotient_158 : decode cU_quotient 158 = .ok (.lstore 9, 2) := by decide +kernel
theorem dU_quotient_160 : decode cU_quotient 160 = .ok (.lload 11, 2) := by decide +kernel
theorem dU_quotient_162 : decode cU_quotient 162 = .ok (.bipush 10, 2) := by decide +kernel
theorem dU_quotient_164 : decode cU_quotient 164 = .ok (.lshl, 1) := by decide +kernel
theorem dU_quotient_165 : decode cU_quotient 165 = .ok (.lload 9, 2) := by decide +kernel
theorem dU_quotient_167 : decode cU_quotient 167 = .ok (.lload 7, 2) := by decide +kernel
theorem dU_quotient_169 : decode cU_quotient 169 = .ok (.ldiv, 1) := by decide +kernel
theorem dU_quotient_170 : decode cU_quotient 170 = .ok (.ladd, 1) := by decide +kernel
theorem dU_quotient_171 : decode cU_quotient 171 = .ok (.lstore 11, 2) := by decide +kernel
theorem dU_quotient_173 : decode cU_quotient 173 = .ok (.lload 9, 2) := by decide +kernel
theorem dU_quotient_175 : decode cU_quotient 175 = .ok (.lload 7, 2) := by decide +kernel
theorem dU_quotient_177 : decode cU_quotient 177 = .ok (.lrem, 1) := by decide +kernel
theorem dU_quotient_178 : decode cU_quotient 178 = .ok (.lstore 9, 2) := by decide +kernel
theorem dU_quotient_180 : decode cU_quotient 180 = .ok (.iinc 13 (-10), 3) := by decide +kernel
theorem dU_quotient_183 : decode cU_quotient 183 = .ok (.iinc 14 1, 3) := by decide +kernel
theorem dU_quotient_186 : decode cU_quotient 186 = .ok (.goto (-40), 3) := by decide +kernel
theorem dU_quotient_189 : decode cU_quotient 189 = .ok (.aload_n 0, 1) := by decide +kernel
theorem dU_quotient_190 : decode cU_quotient 190 = .ok (.aload_n 1, 1) := by decide +kernel
theorem dU_quotient_191 : decode cU_quotient 191 = .ok (.iload 6, 2) := by decide +kernel
theorem dU_quotient_193 : decode cU_quotient 193 = .ok (.lload 9, 2) := by decide +kernel
theorem dU_quotient_195 : decode cU_quotient 195 = .ok (.lconst 0, 1) := by decide +kernel
theorem dU_quotient_196 : decode cU_quotient 196 = .ok (.lcmp, 1) := by decide +kernel
theorem dU_quotient_197 : decode cU_quotient 197 = .ok (.ifCond .ne 8, 3) := by decide +kernel
theorem dU_quotient_200 : decode cU_quotient 200 = .ok (.lload 11, 2) := by decide +kernel
theorem dU_quotient_202 : decode cU_quotient 202 = .ok (.goto 7, 3) := by decide +kernel
theorem dU_quotient_205 : decode cU_quotient 205 = .ok (.lload 11, 2) := by decide +kernel
theorem dU_quotient_207 : decode cU_quotient 207 = .ok (.lconst 1, 1) := by decide +kernel
theorem dU_quotient_208 : decode cU_quotient 208 = .ok (.lor, 1) := by decide +kernel
theorem dU_quotient_209 : decode cU_quotient 209 = .ok (.iload 13, 2) := by decide +kernel
theorem dU_quotient_211 : decode cU_quotient 211 = .ok (.invokevirtual 62, 3) := by decide +kernel
theorem dU_quotient_214 : decode cU_quotient 214 = .ok (.lreturn, 1) := by decide +kernel
theorem dU_quotientByZero_0 : decode cU_quotientByZero 0 = .ok (.aload_n 1, 1) := by decide +kernel
theorem dU_quotientByZero_1 : decode cU_quotientByZero 1 = .ok (.lload_n 2, 1) := by decide +kernel
theorem dU_quotientByZero_2 : decode cU_quotientByZero 2 = .ok (.invokevirtual 143, 3) := by decide +kernel
theorem dU_quotientByZero_5 : decode cU_quotientByZero 5 = .ok (.ifCond .eq 9, 3) := by decide +kernel
theorem dU_quotientByZero_8 : decode cU_quotientByZero 8 = .ok (.aload_n 0, 1) := by decide +kernel
theorem dU_quotientByZero_9 : decode cU_quotientByZero 9 = .ok (.aload_n 1, 1) := by decide +kernel
theorem dU_quotientByZero_10 : decode cU_quotientByZero 10 = .ok (.invokevirtual 119, 3) := by decide +kernel
theorem dU_quotientByZero_13 : decode cU_quotientByZero 13 = .ok (.lreturn, 1) := by decide +kernel
theorem dU_quotientByZero_14 : decode cU_quotientByZero 14 = .ok (.aload_n 0, 1) := by decide +kernel
theorem dU_quotientByZero_15 : decode cU_quotientByZero 15 = .ok (.bipush 8, 2) := by decide +kernel
theorem dU_quotientByZero_17 : decode cU_quotientByZero 17 = .ok (.invokevirtual 66, 3) := by decide +kernel
theorem dU_quotientByZero_20 : decode cU_quotientByZero 20 = .ok (.aload_n 1, 1) := by decide +kernel
theorem dU_quotientByZero_21 : decode cU_quotientByZero 21 = .ok (.iload 4, 2) := by decide +kernel
theorem dU_quotientByZero_23 : decode cU_quotientByZero 23 = .ok (.invokevirtual 146, 3) := by decide +kernel
theorem dU_quotientByZero_26 : decode cU_quotientByZero 26 = .ok (.lreturn, 1) := by decide +kernel
theorem dU_rest_0 : decode cU_rest 0 = .ok (.aload_n 1, 1) := by decide +kernel
theorem dU_rest_1 : decode cU_rest 1 = .ok (.lload 4, 2) := by decide +kernel
theorem dU_rest_3 : decode cU_rest 3 = .ok (.invokevirtual 136, 3) := by decide +kernel
theorem dU_rest_6 : decode cU_rest 6 = .ok (.lstore 6, 2) := by decide +kernel
theorem dU_rest_8 : decode cU_rest 8 = .ok (.aload_n 1, 1) := by decide +kernel
theorem dU_rest_9 : decode cU_rest 9 = .ok (.lload_n 2, 1) := by decide +kernel
theorem dU_rest_10 : decode cU_rest 10 = .ok (.invokevirtual 116, 3) := by decide +kernel
theorem dU_rest_13 : decode cU_rest 13 = .ok (.ifCond .ne 10, 3) := by decide +kernel
theorem dU_rest_16 : decode cU_rest 16 = .ok (.lload 6, 2) := by decide +kernel
theorem dU_rest_18 : decode cU_rest 18 = .ok (.lconst 0, 1) := by decide +kernel
theorem dU_rest_19 : decode cU_rest 19 = .ok (.lcmp, 1) := by decide +kernel
theorem dU_rest_20 : decode cU_rest 20 = .ok (.ifCond .ne 9, 3) := by decide +kernel
theorem dU_rest_23 : decode cU_rest 23 = .ok (.aload_n 0, 1) := by decide +kernel
theorem dU_rest_24 : decode cU_rest 24 = .ok (.aload_n 1, 1) := by decide +kernel
theorem dU_rest_25 : decode cU_rest 25 = .ok (.invokevirtual 119, 3) := by decide +kernel
theorem dU_rest_28 : decode cU_rest 28 = .ok (.lreturn, 1) := by decide +kernel
theorem dU_rest_29 : decode cU_rest 29 = .ok (.aload_n 1, 1) := by decide +kernel
theorem dU_rest_30 : decode cU_rest 30 = .ok (.lload_n 2, 1) := by decide +kernel
theorem dU_rest_31 : decode cU_rest 31 = .ok (.invokevirtual 123, 3) := by decide +kernel
theorem dU_rest_34 : decode cU_rest 34 = .ok (.aload_n 1, 1) := by decide +kernel
theorem dU_rest_35 : decode cU_rest 35 = .ok (.lload 4, 2) := by decide +kernel
theorem dU_rest_37 : decode cU_rest 37 = .ok (.invokevirtual 123, 3) := by decide +kernel
theorem dU_rest_40 : decode cU_rest 40 = .ok (.isub, 1) := by decide +kernel
theorem dU_rest_41 : decode cU_rest 41 = .ok (.istore 8, 2) := by decide +kernel
theorem dU_rest_43 : decode cU_rest 43 = .ok (.aload_n 1, 1) := by decide +kernel
theorem dU_rest_44 : decode cU_rest 44 = .ok (.lload 4, 2) := by decide +kernel
theorem dU_rest_46 : decode cU_rest 46 = .ok (.invokevirtual 116, 3) := by decide +kernel
theorem dU_rest_49 : decode cU_rest 49 = .ok (.ifCond .ne 8, 3) := by decide +kernel
theorem dU_rest_52 : decode cU_rest 52 = .ok (.iload 8, 2) := by decide +kernel
theorem dU_rest_54 : decode cU_rest 54 = .ok (.ifCond .ge 5, 3) := by decide +kernel
theorem dU_rest_57 : decode cU_rest 57 = .ok (.lload_n 2, 1) := by decide +kernel
theorem dU_rest_58 : decode cU_rest 58 = .ok (.lreturn, 1) := by decide +kernel
theorem dU_rest_59 : decode cU_rest 59 = .ok (.aload_n 1, 1) := by decide +kernel
theorem dU_rest_60 : decode cU_rest 60 = .ok (.lload_n 2, 1) := by decide +kernel
theorem dU_rest_61 : decode cU_rest 61 = .ok (.invokevirtual 136, 3) := by decide +kernel
theorem dU_rest_64 : decode cU_rest 64 = .ok (.lload 6, 2) := by decide +kernel
theorem dU_rest_66 : decode cU_rest 66 = .ok (.lrem, 1) := by decide +kernel
theorem dU_rest_67 : decode cU_rest 67 = .ok (.lstore 9, 2) := by decide +kernel
theorem dU_rest_69 : decode cU_rest 69 = .ok (.iload 8, 2) := by decide +kernel
theorem dU_rest_71 : decode cU_rest 71 = .ok (.istore 11, 2) := by decide +kernel
theorem dU_rest_73 : decode cU_rest 73 = .ok (.iload 11, 2) := by decide +kernel
theorem dU_rest_75 : decode cU_rest 75 = .ok (.ifCond .le 24, 3) := by decide +kernel
theorem dU_rest_78 : decode cU_rest 78 = .ok (.lload 9, 2) := by decide +kernel
theorem dU_rest_80 : decode cU_rest 80 = .ok (.iload 11, 2) := by decide +kernel
theorem dU_rest_82 : decode cU_rest 82 = .ok (.bipush 10, 2) := by decide +kernel
theorem dU_rest_84 : decode cU_rest 84 = .ok (.invokestatic 159, 3) := by decide +kernel
theorem dU_rest_87 : decode cU_rest 87 = .ok (.lshl, 1) := by decide +kernel
theorem dU_rest_88 : decode cU_rest 88 = .ok (.lload 6, 2) := by decide +kernel
theorem dU_rest_90 : decode cU_rest 90 = .ok (.lrem, 1) := by decide +kernel
theorem dU_rest_91 : decode cU_rest 91 = .ok (.lstore 9, 2) := by decide +kernel
theorem dU_rest_93 : decode cU_rest 93 = .ok (.iinc 11 (-10), 3) := by decide +kernel
theorem dU_rest_96 : decode cU_rest 96 = .ok (.goto (-23), 3) := by decide +kernel
theorem dU_rest_99 : decode cU_rest 99 = .ok (.aload_n 1, 1) := by decide +kernel
theorem dU_rest_100 : decode cU_rest 100 = .ok (.lload_n 2, 1) := by decide +kernel
theorem dU_rest_101 : decode cU_rest 101 = .ok (.invokevirtual 69, 3) := by decide +kernel
theorem dU_rest_104 : decode cU_rest 104 = .ok (.istore 11, 2) := by decide +kernel
theorem dU_rest_106 : decode cU_rest 106 = .ok (.lload 9, 2) := by decide +kernel
theorem dU_rest_108 : decode cU_rest 108 = .ok (.lconst 0, 1) := by decide +kernel
theorem dU_rest_109 : decode cU_rest 109 = .ok (.lcmp, 1) := by decide +kernel
theorem dU_rest_110 : decode cU_rest 110 = .ok (.ifCond .ne 12, 3) := by decide +kernel
theorem dU_rest_113 : decode cU_rest 113 = .ok (.aload_n 1, 1) := by decide +kernel
theorem dU_rest_114 : decode cU_rest 114 = .ok (.iload 11, 2) := by decide +kernel
theorem dU_rest_116 : decode cU_rest 116 = .ok (.invokevirtual 58, 3) := by decide +kernel
theorem dU_rest_119 : decode cU_rest 119 = .ok (.goto 18, 3) := by decide +kernel
theorem dU_rest_122 : decode cU_rest 122 = .ok (.aload_n 0, 1) := by decide +kernel
theorem dU_rest_123 : decode cU_rest 123 = .ok (.aload_n 1, 1) := by decide +kernel
theorem dU_rest_124 : decode cU_rest 124 = .ok (.iload 11, 2) := by decide +kernel
theorem dU_rest_126 : decode cU_rest 126 = .ok (.lload 9, 2) := by decide +kernel
theorem dU_rest_128 : decode cU_rest 128 = .ok (.aload_n 1, 1) := by decide +kernel
theorem dU_rest_129 : decode cU_rest 129 = .ok (.lload 4, 2) := by decide +kernel
theorem dU_rest_131 : decode cU_rest 131 = .ok (.invokevirtual 123, 3) := by decide +kernel
theorem dU_rest_134 : decode cU_rest 134 = .ok (.invokevirtual 62, 3) := by decide +kernel
theorem dU_rest_137 : decode cU_rest 137 = .ok (.lreturn, 1) := by decide +kernel
theorem dU_keep_0 : decode cU_keep 0 = .ok (.aload_n 0, 1) := by decide +kernel
theorem dU_keep_1 : decode cU_keep 1 = .ok (.getfield 9, 3) := by decide +kernel
theorem dU_keep_4 : decode cU_keep 4 = .ok (.iload_n 1, 1) := by decide +kernel
theorem dU_keep_5 : decode cU_keep 5 = .ok (.lload_n 2, 1) := by decide +kernel
theorem dU_keep_6 : decode cU_keep 6 = .ok (.lastore, 1) := by decide +kernel
theorem dU_keep_7 : decode cU_keep 7 = .ok (.lload_n 2, 1) := by decide +kernel
theorem dU_keep_8 : decode cU_keep 8 = .ok (.lreturn, 1) := by decide +kernel
theorem dU_compare_0 : decode cU_compare 0 = .ok (.iload_n 2, 1) := by decide +kernel
theorem dU_compare_1 : decode cU_compare 1 = .ok (.invokestatic 20, 3) := by decide +kernel
theorem dU_compare_4 : decode cU_compare 4 = .ok (.iload_n 3, 1) := by decide +kernel
theorem dU_compare_5 : decode cU_compare 5 = .ok (.invokestatic 20, 3) := by decide +kernel
theorem dU_compare_8 : decode cU_compare 8 = .ok (.iload_n 1, 1) := by decide +kernel
theorem dU_compare_9 : decode cU_compare 9 = .ok (.invokestatic 33, 3) := by decide +kernel
theorem dU_compare_12 : decode cU_compare 12 = .ok (.astore 5, 2) := by decide +kernel
theorem dU_compare_14 : decode cU_compare 14 = .ok (.aload 5, 2) := by decide +kernel
theorem dU_compare_16 : decode cU_compare 16 = .ok (.aload_n 0, 1) := by decide +kernel
theorem dU_compare_17 : decode cU_compare 17 = .ok (.getfield 9, 3) := by decide +kernel
theorem dU_compare_20 : decode cU_compare 20 = .ok (.iload_n 2, 1) := by decide +kernel
theorem dU_compare_21 : decode cU_compare 21 = .ok (.laload, 1) := by decide +kernel
theorem dU_compare_22 : decode cU_compare 22 = .ok (.invokevirtual 51, 3) := by decide +kernel
theorem dU_compare_25 : decode cU_compare 25 = .ok (.ifCond .ne 17, 3) := by decide +kernel
theorem dU_compare_28 : decode cU_compare 28 = .ok (.aload 5, 2) := by decide +kernel
theorem dU_compare_30 : decode cU_compare 30 = .ok (.aload_n 0, 1) := by decide +kernel
theorem dU_compare_31 : decode cU_compare 31 = .ok (.getfield 9, 3) := by decide +kernel
theorem dU_compare_34 : decode cU_compare 34 = .ok (.iload_n 3, 1) := by decide +kernel
theorem dU_compare_35 : decode cU_compare 35 = .ok (.laload, 1) := by decide +kernel
theorem dU_compare_36 : decode cU_compare 36 = .ok (.invokevirtual 51, 3) := by decide +kernel
theorem dU_compare_39 : decode cU_compare 39 = .ok (.ifCond .eq 6, 3) := by decide +kernel
theorem dU_compare_42 : decode cU_compare 42 = .ok (.iload 4, 2) := by decide +kernel
theorem dU_compare_44 : decode cU_compare 44 = .ok (.ireturn, 1) := by decide +kernel
theorem dU_compare_45 : decode cU_compare 45 = .ok (.aload 5, 2) := by decide +kernel
theorem dU_compare_47 : decode cU_compare 47 = .ok (.aload_n 0, 1) := by decide +kernel
theorem dU_compare_48 : decode cU_compare 48 = .ok (.getfield 9, 3) := by decide +kernel
theorem dU_compare_51 : decode cU_compare 51 = .ok (.iload_n 2, 1) := by decide +kernel
theorem dU_compare_52 : decode cU_compare 52 = .ok (.laload, 1) := by decide +kernel
theorem dU_compare_53 : decode cU_compare 53 = .ok (.invokevirtual 55, 3) := by decide +kernel
theorem dU_compare_56 : decode cU_compare 56 = .ok (.lstore 6, 2) := by decide +kernel
theorem dU_compare_58 : decode cU_compare 58 = .ok (.aload 5, 2) := by decide +kernel
theorem dU_compare_60 : decode cU_compare 60 = .ok (.aload_n 0, 1) := by decide +kernel
theorem dU_compare_61 : decode cU_compare 61 = .ok (.getfield 9, 3) := by decide +kernel
theorem dU_compare_64 : decode cU_compare 64 = .ok (.iload_n 3, 1) := by decide +kernel
theorem dU_compare_65 : decode cU_compare 65 = .ok (.laload, 1) := by decide +kernel
theorem dU_compare_66 : decode cU_compare 66 = .ok (.invokevirtual 55, 3) := by decide +kernel
theorem dU_compare_69 : decode cU_compare 69 = .ok (.lstore 8, 2) := by decide +kernel
theorem dU_compare_71 : decode cU_compare 71 = .ok (.lload 6, 2) := by decide +kernel
theorem dU_compare_73 : decode cU_compare 73 = .ok (.lload 8, 2) := by decide +kernel
theorem dU_compare_75 : decode cU_compare 75 = .ok (.lcmp, 1) := by decide +kernel
theorem dU_compare_76 : decode cU_compare 76 = .ok (.ifCond .ne 5, 3) := by decide +kernel
theorem dU_compare_79 : decode cU_compare 79 = .ok (.iconst 0, 1) := by decide +kernel
theorem dU_compare_80 : decode cU_compare 80 = .ok (.ireturn, 1) := by decide +kernel
theorem dU_compare_81 : decode cU_compare 81 = .ok (.lload 6, 2) := by decide +kernel
theorem dU_compare_83 : decode cU_compare 83 = .ok (.lload 8, 2) := by decide +kernel
theorem dU_compare_85 : decode cU_compare 85 = .ok (.lcmp, 1) := by decide +kernel
theorem dU_compare_86 : decode cU_compare 86 = .ok (.ifCond .ge 7, 3) := by decide +kernel
theorem dU_compare_89 : decode cU_compare 89 = .ok (.iconst (-1), 1) := by decide +kernel
theorem dU_compare_90 : decode cU_compare 90 = .ok (.goto 4, 3) := by decide +kernel
theorem dU_compare_93 : decode cU_compare 93 = .ok (.iconst 1, 1) := by decide +kernel
theorem dU_compare_94 : decode cU_compare 94 = .ok (.ireturn, 1) := by decide +kernel
theorem dU_of_0 : decode cU_of 0 = .ok (.iload_n 2, 1) := by decide +kernel
theorem dU_of_1 : decode cU_of 1 = .ok (.invokestatic 20, 3) := by decide +kernel
theorem dU_of_4 : decode cU_of 4 = .ok (.iload_n 1, 1) := by decide +kernel
theorem dU_of_5 : decode cU_of 5 = .ok (.invokestatic 33, 3) := by decide +kernel
theorem dU_of_8 : decode cU_of 8 = .ok (.astore 5, 2) := by decide +kernel
theorem dU_of_10 : decode cU_of 10 = .ok (.lload_n 3, 1) := by decide +kernel
theorem dU_of_11 : decode cU_of 11 = .ok (.lconst 0, 1) := by decide +kernel
theorem dU_of_12 : decode cU_of 12 = .ok (.lcmp, 1) := by decide +kernel
theorem dU_of_13 : decode cU_of 13 = .ok (.ifCond .ne 15, 3) := by decide +kernel
theorem dU_of_16 : decode cU_of 16 = .ok (.aload_n 0, 1) := by decide +kernel
theorem dU_of_17 : decode cU_of 17 = .ok (.iload_n 2, 1) := by decide +kernel
theorem dU_of_18 : decode cU_of 18 = .ok (.aload 5, 2) := by decide +kernel
theorem dU_of_20 : decode cU_of 20 = .ok (.iconst 0, 1) := by decide +kernel
theorem dU_of_21 : decode cU_of 21 = .ok (.invokevirtual 58, 3) := by decide +kernel
theorem dU_of_24 : decode cU_of 24 = .ok (.invokevirtual 47, 3) := by decide +kernel
theorem dU_of_27 : decode cU_of 27 = .ok (.lreturn, 1) := by decide +kernel
theorem dU_of_28 : decode cU_of 28 = .ok (.aload_n 0, 1) := by decide +kernel
theorem dU_of_29 : decode cU_of 29 = .ok (.iload_n 2, 1) := by decide +kernel
theorem dU_of_30 : decode cU_of 30 = .ok (.aload_n 0, 1) := by decide +kernel
theorem dU_of_31 : decode cU_of 31 = .ok (.aload 5, 2) := by decide +kernel
theorem dU_of_33 : decode cU_of 33 = .ok (.lload_n 3, 1) := by decide +kernel
theorem dU_of_34 : decode cU_of 34 = .ok (.lconst 0, 1) := by decide +kernel
theorem dU_of_35 : decode cU_of 35 = .ok (.lcmp, 1) := by decide +kernel
theorem dU_of_36 : decode cU_of 36 = .ok (.ifCond .ge 7, 3) := by decide +kernel
theorem dU_of_39 : decode cU_of 39 = .ok (.iconst 1, 1) := by decide +kernel
theorem dU_of_40 : decode cU_of 40 = .ok (.goto 4, 3) := by decide +kernel
theorem dU_of_43 : decode cU_of 43 = .ok (.iconst 0, 1) := by decide +kernel
theorem dU_of_44 : decode cU_of 44 = .ok (.lload_n 3, 1) := by decide +kernel
theorem dU_of_45 : decode cU_of 45 = .ok (.lconst 0, 1) := by decide +kernel
theorem dU_of_46 : decode cU_of 46 = .ok (.lcmp, 1) := by decide +kernel
theorem dU_of_47 : decode cU_of 47 = .ok (.ifCond .ge 8, 3) := by decide +kernel
theorem dU_of_50 : decode cU_of 50 = .ok (.lload_n 3, 1) := by decide +kernel
theorem dU_of_51 : decode cU_of 51 = .ok (.lneg, 1) := by decide +kernel
theorem dU_of_52 : decode cU_of 52 = .ok (.goto 4, 3) := by decide +kernel
theorem dU_of_55 : decode cU_of 55 = .ok (.lload_n 3, 1) := by decide +kernel
theorem dU_of_56 : decode cU_of 56 = .ok (.iconst 0, 1) := by decide +kernel
theorem dU_of_57 : decode cU_of 57 = .ok (.invokevirtual 62, 3) := by decide +kernel
theorem dU_of_60 : decode cU_of 60 = .ok (.invokevirtual 47, 3) := by decide +kernel
theorem dU_of_63 : decode cU_of 63 = .ok (.lreturn, 1) := by decide +kernel
theorem dU_whole_0 : decode cU_whole 0 = .ok (.iload_n 2, 1) := by decide +kernel
theorem dU_whole_1 : decode cU_whole 1 = .ok (.invokestatic 20, 3) := by decide +kernel
theorem dU_whole_4 : decode cU_whole 4 = .ok (.iload_n 1, 1) := by decide +kernel
theorem dU_whole_5 : decode cU_whole 5 = .ok (.invokestatic 33, 3) := by decide +kernel
theorem dU_whole_8 : decode cU_whole 8 = .ok (.astore 4, 2) := by decide +kernel
theorem dU_whole_10 : decode cU_whole 10 = .ok (.aload_n 0, 1) := by decide +kernel
theorem dU_whole_11 : decode cU_whole 11 = .ok (.getfield 9, 3) := by decide +kernel
theorem dU_whole_14 : decode cU_whole 14 = .ok (.iload_n 2, 1) := by decide +kernel
theorem dU_whole_15 : decode cU_whole 15 = .ok (.laload, 1) := by decide +kernel
theorem dU_whole_16 : decode cU_whole 16 = .ok (.lstore 5, 2) := by decide +kernel
theorem dU_whole_18 : decode cU_whole 18 = .ok (.aload 4, 2) := by decide +kernel
theorem dU_whole_20 : decode cU_whole 20 = .ok (.lload 5, 2) := by decide +kernel
theorem dU_whole_22 : decode cU_whole 22 = .ok (.invokevirtual 51, 3) := by decide +kernel
theorem dU_whole_25 : decode cU_whole 25 = .ok (.ifCond .eq 11, 3) := by decide +kernel
theorem dU_whole_28 : decode cU_whole 28 = .ok (.aload_n 0, 1) := by decide +kernel
theorem dU_whole_29 : decode cU_whole 29 = .ok (.bipush 16, 2) := by decide +kernel
theorem dU_whole_31 : decode cU_whole 31 = .ok (.invokevirtual 66, 3) := by decide +kernel
theorem dU_whole_34 : decode cU_whole 34 = .ok (.lconst 0, 1) := by decide +kernel
theorem dU_whole_35 : decode cU_whole 35 = .ok (.lreturn, 1) := by decide +kernel
theorem dU_whole_36 : decode cU_whole 36 = .ok (.aload 4, 2) := by decide +kernel
theorem dU_whole_38 : decode cU_whole 38 = .ok (.lload 5, 2) := by decide +kernel
theorem dU_whole_40 : decode cU_whole 40 = .ok (.invokevirtual 69, 3) := by decide +kernel
theorem dU_whole_43 : decode cU_whole 43 = .ok (.istore 7, 2) := by decide +kernel
theorem dU_whole_45 : decode cU_whole 45 = .ok (.iload_n 3, 1) := by decide +kernel
theorem dU_whole_46 : decode cU_whole 46 = .ok (.ifCond .eq 9, 3) := by decide +kernel
theorem dU_whole_49 : decode cU_whole 49 = .ok (.ldc2_w 72, 3) := by decide +kernel
theorem dU_whole_52 : decode cU_whole 52 = .ok (.goto 6, 3) := by decide +kernel
theorem dU_whole_55 : decode cU_whole 55 = .ok (.ldc2_w 74, 3) := by decide +kernel
theorem dU_whole_58 : decode cU_whole 58 = .ok (.lstore 8, 2) := by decide +kernel
theorem dU_whole_60 : decode cU_whole 60 = .ok (.iload 7, 2) := by decide +kernel
theorem dU_whole_62 : decode cU_whole 62 = .ok (.ifCond .eq 10, 3) := by decide +kernel
theorem dU_whole_65 : decode cU_whole 65 = .ok (.lload 8, 2) := by decide +kernel
theorem dU_whole_67 : decode cU_whole 67 = .ok (.lconst 1, 1) := by decide +kernel
theorem dU_whole_68 : decode cU_whole 68 = .ok (.ladd, 1) := by decide +kernel
theorem dU_whole_69 : decode cU_whole 69 = .ok (.goto 5, 3) := by decide +kernel
theorem dU_whole_72 : decode cU_whole 72 = .ok (.lload 8, 2) := by decide +kernel
theorem dU_whole_74 : decode cU_whole 74 = .ok (.lstore 10, 2) := by decide +kernel
theorem dU_whole_76 : decode cU_whole 76 = .ok (.aload_n 0, 1) := by decide +kernel
theorem dU_whole_77 : decode cU_whole 77 = .ok (.aload 4, 2) := by decide +kernel
theorem dU_whole_79 : decode cU_whole 79 = .ok (.lload 5, 2) := by decide +kernel
theorem dU_whole_81 : decode cU_whole 81 = .ok (.lload 10, 2) := by decide +kernel
theorem dU_whole_83 : decode cU_whole 83 = .ok (.invokevirtual 76, 3) := by decide +kernel
theorem dU_whole_86 : decode cU_whole 86 = .ok (.lstore 12, 2) := by decide +kernel
theorem dU_whole_88 : decode cU_whole 88 = .ok (.iload 7, 2) := by decide +kernel
theorem dU_whole_90 : decode cU_whole 90 = .ok (.ifCond .eq 9, 3) := by decide +kernel
theorem dU_whole_93 : decode cU_whole 93 = .ok (.lload 12, 2) := by decide +kernel
theorem dU_whole_95 : decode cU_whole 95 = .ok (.lneg, 1) := by decide +kernel
theorem dU_whole_96 : decode cU_whole 96 = .ok (.goto 5, 3) := by decide +kernel
theorem dU_whole_99 : decode cU_whole 99 = .ok (.lload 12, 2) := by decide +kernel
theorem dU_whole_101 : decode cU_whole 101 = .ok (.lreturn, 1) := by decide +kernel
theorem dU_cut_0 : decode cU_cut 0 = .ok (.aload_n 1, 1) := by decide +kernel
theorem dU_cut_1 : decode cU_cut 1 = .ok (.lload_n 2, 1) := by decide +kernel
theorem dU_cut_2 : decode cU_cut 2 = .ok (.invokevirtual 136, 3) := by decide +kernel
theorem dU_cut_5 : decode cU_cut 5 = .ok (.lstore 6, 2) := by decide +kernel
theorem dU_cut_7 : decode cU_cut 7 = .ok (.aload_n 1, 1) := by decide +kernel
theorem dU_cut_8 : decode cU_cut 8 = .ok (.lload_n 2, 1) := by decide +kernel
theorem dU_cut_9 : decode cU_cut 9 = .ok (.invokevirtual 123, 3) := by decide +kernel
theorem dU_cut_12 : decode cU_cut 12 = .ok (.istore 8, 2) := by decide +kernel
theorem dU_cut_14 : decode cU_cut 14 = .ok (.lload 6, 2) := by decide +kernel
theorem dU_cut_16 : decode cU_cut 16 = .ok (.iload 8, 2) := by decide +kernel
theorem dU_cut_18 : decode cU_cut 18 = .ok (.invokestatic 162, 3) := by decide +kernel
theorem dU_cut_21 : decode cU_cut 21 = .ok (.lstore 9, 2) := by decide +kernel
theorem dU_cut_23 : decode cU_cut 23 = .ok (.iload 8, 2) := by decide +kernel
theorem dU_cut_25 : decode cU_cut 25 = .ok (.bipush 12, 2) := by decide +kernel
theorem dU_cut_27 : decode cU_cut 27 = .ok (.if_icmp .ge 13, 3) := by decide +kernel
theorem dU_cut_30 : decode cU_cut 30 = .ok (.lload 9, 2) := by decide +kernel
theorem dU_cut_32 : decode cU_cut 32 = .ok (.lload 4, 2) := by decide +kernel
theorem dU_cut_34 : decode cU_cut 34 = .ok (.invokestatic 165, 3) := by decide +kernel
theorem dU_cut_37 : decode cU_cut 37 = .ok (.ifCond .eq 12, 3) := by decide +kernel
theorem dU_cut_40 : decode cU_cut 40 = .ok (.aload_n 0, 1) := by decide +kernel
theorem dU_cut_41 : decode cU_cut 41 = .ok (.bipush 16, 2) := by decide +kernel
theorem dU_cut_43 : decode cU_cut 43 = .ok (.invokevirtual 66, 3) := by decide +kernel
theorem dU_cut_46 : decode cU_cut 46 = .ok (.lload 4, 2) := by decide +kernel
theorem dU_cut_48 : decode cU_cut 48 = .ok (.lreturn, 1) := by decide +kernel
theorem dU_cut_49 : decode cU_cut 49 = .ok (.iload 8, 2) := by decide +kernel
theorem dU_cut_51 : decode cU_cut 51 = .ok (.ifCond .ge 22, 3) := by decide +kernel
theorem dU_cut_54 : decode cU_cut 54 = .ok (.lload 9, 2) := by decide +kernel
theorem dU_cut_56 : decode cU_cut 56 = .ok (.iload 8, 2) := by decide +kernel
theorem dU_cut_58 : decode cU_cut 58 = .ok (.ineg, 1) := by decide +kernel
theorem dU_cut_59 : decode cU_cut 59 = .ok (.invokestatic 162, 3) := by decide +kernel
theorem dU_cut_62 : decode cU_cut 62 = .ok (.lload 6, 2) := by decide +kernel
theorem dU_cut_64 : decode cU_cut 64 = .ok (.lcmp, 1) := by decide +kernel
theorem dU_cut_65 : decode cU_cut 65 = .ok (.ifCond .eq 8, 3) := by decide +kernel
theorem dU_cut_68 : decode cU_cut 68 = .ok (.aload_n 0, 1) := by decide +kernel
theorem dU_cut_69 : decode cU_cut 69 = .ok (.iconst 1, 1) := by decide +kernel
theorem dU_cut_70 : decode cU_cut 70 = .ok (.invokevirtual 66, 3) := by decide +kernel
theorem dU_cut_73 : decode cU_cut 73 = .ok (.lload 9, 2) := by decide +kernel
theorem dU_cut_75 : decode cU_cut 75 = .ok (.lreturn, 1) := by decide +kernel
theorem dU_moved_0 : decode cU_moved 0 = .ok (.iload_n 2, 1) := by decide +kernel
theorem dU_moved_1 : decode cU_moved 1 = .ok (.bipush (-64), 2) := by decide +kernel
theorem dU_moved_3 : decode cU_moved 3 = .ok (.if_icmp .le 9, 3) := by decide +kernel
theorem dU_moved_6 : decode cU_moved 6 = .ok (.iload_n 2, 1) := by decide +kernel
theorem dU_moved_7 : decode cU_moved 7 = .ok (.bipush 64, 2) := by decide +kernel
theorem dU_moved_9 : decode cU_moved 9 = .ok (.if_icmp .lt 5, 3) := by decide +kernel
theorem dU_moved_12 : decode cU_moved 12 = .ok (.lconst 0, 1) := by decide +kernel
theorem dU_moved_13 : decode cU_moved 13 = .ok (.lreturn, 1) := by decide +kernel
theorem dU_moved_14 : decode cU_moved 14 = .ok (.iload_n 2, 1) := by decide +kernel
theorem dU_moved_15 : decode cU_moved 15 = .ok (.ifCond .ge 10, 3) := by decide +kernel
theorem dU_moved_18 : decode cU_moved 18 = .ok (.lload_n 0, 1) := by decide +kernel
theorem dU_moved_19 : decode cU_moved 19 = .ok (.iload_n 2, 1) := by decide +kernel
theorem dU_moved_20 : decode cU_moved 20 = .ok (.ineg, 1) := by decide +kernel
theorem dU_moved_21 : decode cU_moved 21 = .ok (.lushr, 1) := by decide +kernel
theorem dU_moved_22 : decode cU_moved 22 = .ok (.goto 6, 3) := by decide +kernel
theorem dU_moved_25 : decode cU_moved 25 = .ok (.lload_n 0, 1) := by decide +kernel
theorem dU_moved_26 : decode cU_moved 26 = .ok (.iload_n 2, 1) := by decide +kernel
theorem dU_moved_27 : decode cU_moved 27 = .ok (.lshl, 1) := by decide +kernel
theorem dU_moved_28 : decode cU_moved 28 = .ok (.lreturn, 1) := by decide +kernel
theorem dU_isBeyond_0 : decode cU_isBeyond 0 = .ok (.lload_n 0, 1) := by decide +kernel
theorem dU_isBeyond_1 : decode cU_isBeyond 1 = .ok (.ldc2_w 169, 3) := by decide +kernel
theorem dU_isBeyond_4 : decode cU_isBeyond 4 = .ok (.lxor, 1) := by decide +kernel
theorem dU_isBeyond_5 : decode cU_isBeyond 5 = .ok (.lload_n 2, 1) := by decide +kernel
theorem dU_isBeyond_6 : decode cU_isBeyond 6 = .ok (.ldc2_w 169, 3) := by decide +kernel
theorem dU_isBeyond_9 : decode cU_isBeyond 9 = .ok (.lxor, 1) := by decide +kernel
theorem dU_isBeyond_10 : decode cU_isBeyond 10 = .ok (.lcmp, 1) := by decide +kernel
theorem dU_isBeyond_11 : decode cU_isBeyond 11 = .ok (.ifCond .le 7, 3) := by decide +kernel
theorem dU_isBeyond_14 : decode cU_isBeyond 14 = .ok (.iconst 1, 1) := by decide +kernel
theorem dU_isBeyond_15 : decode cU_isBeyond 15 = .ok (.goto 4, 3) := by decide +kernel
theorem dU_isBeyond_18 : decode cU_isBeyond 18 = .ok (.iconst 0, 1) := by decide +kernel
theorem dU_isBeyond_19 : decode cU_isBeyond 19 = .ok (.ireturn, 1) := by decide +kernel
theorem dU_turn_0 : decode cU_turn 0 = .ok (.iload_n 2, 1) := by decide +kernel
theorem dU_turn_1 : decode cU_turn 1 = .ok (.invokestatic 20, 3) := by decide +kernel
theorem dU_turn_4 : decode cU_turn 4 = .ok (.iload_n 3, 1) := by decide +kernel
theorem dU_turn_5 : decode cU_turn 5 = .ok (.invokestatic 20, 3) := by decide +kernel
theorem dU_turn_8 : decode cU_turn 8 = .ok (.aload_n 0, 1) := by decide +kernel
theorem dU_turn_9 : decode cU_turn 9 = .ok (.iload_n 2, 1) := by decide +kernel
theorem dU_turn_10 : decode cU_turn 10 = .ok (.aload_n 0, 1) := by decide +kernel
theorem dU_turn_11 : decode cU_turn 11 = .ok (.iload_n 1, 1) := by decide +kernel
theorem dU_turn_12 : decode cU_turn 12 = .ok (.invokestatic 33, 3) := by decide +kernel
theorem dU_turn_15 : decode cU_turn 15 = .ok (.iload_n 1, 1) := by decide +kernel
theorem dU_turn_16 : decode cU_turn 16 = .ok (.ifCond .ne 7, 3) := by decide +kernel
theorem dU_turn_19 : decode cU_turn 19 = .ok (.iconst 1, 1) := by decide +kernel
theorem dU_turn_20 : decode cU_turn 20 = .ok (.goto 4, 3) := by decide +kernel
theorem dU_turn_23 : decode cU_turn 23 = .ok (.iconst 0, 1) := by decide +kernel
theorem dU_turn_24 : decode cU_turn 24 = .ok (.invokestatic 33, 3) := by decide +kernel
theorem dU_turn_27 : decode cU_turn 27 = .ok (.aload_n 0, 1) := by decide +kernel
theorem dU_turn_28 : decode cU_turn 28 = .ok (.getfield 9, 3) := by decide +kernel
theorem dU_turn_31 : decode cU_turn 31 = .ok (.iload_n 3, 1) := by decide +kernel
theorem dU_turn_32 : decode cU_turn 32 = .ok (.laload, 1) := by decide +kernel
theorem dU_turn_33 : decode cU_turn 33 = .ok (.invokevirtual 80, 3) := by decide +kernel
theorem dU_turn_36 : decode cU_turn 36 = .ok (.invokevirtual 47, 3) := by decide +kernel
theorem dU_turn_39 : decode cU_turn 39 = .ok (.lreturn, 1) := by decide +kernel
theorem dU_turned_0 : decode cU_turned 0 = .ok (.aload_n 1, 1) := by decide +kernel
theorem dU_turned_1 : decode cU_turned 1 = .ok (.lload_n 3, 1) := by decide +kernel
theorem dU_turned_2 : decode cU_turned 2 = .ok (.invokevirtual 69, 3) := by decide +kernel
theorem dU_turned_5 : decode cU_turned 5 = .ok (.istore 5, 2) := by decide +kernel
theorem dU_turned_7 : decode cU_turned 7 = .ok (.aload_n 1, 1) := by decide +kernel
theorem dU_turned_8 : decode cU_turned 8 = .ok (.lload_n 3, 1) := by decide +kernel
theorem dU_turned_9 : decode cU_turned 9 = .ok (.invokevirtual 51, 3) := by decide +kernel
theorem dU_turned_12 : decode cU_turned 12 = .ok (.ifCond .eq 8, 3) := by decide +kernel
theorem dU_turned_15 : decode cU_turned 15 = .ok (.aload_n 2, 1) := by decide +kernel
theorem dU_turned_16 : decode cU_turned 16 = .ok (.invokevirtual 88, 3) := by decide +kernel
theorem dU_turned_19 : decode cU_turned 19 = .ok (.lreturn, 1) := by decide +kernel
theorem dU_turned_20 : decode cU_turned 20 = .ok (.aload_n 1, 1) := by decide +kernel
theorem dU_turned_21 : decode cU_turned 21 = .ok (.lload_n 3, 1) := by decide +kernel
theorem dU_turned_22 : decode cU_turned 22 = .ok (.invokevirtual 116, 3) := by decide +kernel
theorem dU_turned_25 : decode cU_turned 25 = .ok (.ifCond .eq 10, 3) := by decide +kernel
theorem dU_turned_28 : decode cU_turned 28 = .ok (.aload_n 2, 1) := by decide +kernel
theorem dU_turned_29 : decode cU_turned 29 = .ok (.iload 5, 2) := by decide +kernel
theorem dU_turned_31 : decode cU_turned 31 = .ok (.invokevirtual 146, 3) := by decide +kernel
theorem dU_turned_34 : decode cU_turned 34 = .ok (.lreturn, 1) := by decide +kernel
theorem dU_turned_35 : decode cU_turned 35 = .ok (.aload_n 1, 1) := by decide +kernel
theorem dU_turned_36 : decode cU_turned 36 = .ok (.lload_n 3, 1) := by decide +kernel
theorem dU_turned_37 : decode cU_turned 37 = .ok (.invokevirtual 143, 3) := by decide +kernel
theorem dU_turned_40 : decode cU_turned 40 = .ok (.ifCond .eq 10, 3) := by decide +kernel
theorem dU_turned_43 : decode cU_turned 43 = .ok (.aload_n 2, 1) := by decide +kernel
theorem dU_turned_44 : decode cU_turned 44 = .ok (.iload 5, 2) := by decide +kernel
theorem dU_turned_46 : decode cU_turned 46 = .ok (.invokevirtual 58, 3) := by decide +kernel
theorem dU_turned_49 : decode cU_turned 49 = .ok (.lreturn, 1) := by decide +kernel
theorem dU_turned_50 : decode cU_turned 50 = .ok (.aload_n 0, 1) := by decide +kernel
theorem dU_turned_51 : decode cU_turned 51 = .ok (.aload_n 2, 1) := by decide +kernel
theorem dU_turned_52 : decode cU_turned 52 = .ok (.iload 5, 2) := by decide +kernel
theorem dU_turned_54 : decode cU_turned 54 = .ok (.aload_n 1, 1) := by decide +kernel
theorem dU_turned_55 : decode cU_turned 55 = .ok (.lload_n 3, 1) := by decide +kernel
theorem dU_turned_56 : decode cU_turned 56 = .ok (.invokevirtual 136, 3) := by decide +kernel
theorem dU_turned_59 : decode cU_turned 59 = .ok (.aload_n 1, 1) := by decide +kernel
theorem dU_turned_60 : decode cU_turned 60 = .ok (.lload_n 3, 1) := by decide +kernel
theorem dU_turned_61 : decode cU_turned 61 = .ok (.invokevirtual 123, 3) := by decide +kernel
theorem dU_turned_64 : decode cU_turned 64 = .ok (.invokevirtual 62, 3) := by decide +kernel
theorem dU_turned_67 : decode cU_turned 67 = .ok (.lreturn, 1) := by decide +kernel
theorem dU_kind_0 : decode cU_kind 0 = .ok (.iload_n 2, 1) := by decide +kernel
theorem dU_kind_1 : decode cU_kind 1 = .ok (.invokestatic 20, 3) := by decide +kernel
theorem dU_kind_4 : decode cU_kind 4 = .ok (.iload_n 1, 1) := by decide +kernel
theorem dU_kind_5 : decode cU_kind 5 = .ok (.invokestatic 33, 3) := by decide +kernel
theorem dU_kind_8 : decode cU_kind 8 = .ok (.astore_n 3, 1) := by decide +kernel
theorem dU_kind_9 : decode cU_kind 9 = .ok (.aload_n 3, 1) := by decide +kernel
theorem dU_kind_10 : decode cU_kind 10 = .ok (.aload_n 0, 1) := by decide +kernel
theorem dU_kind_11 : decode cU_kind 11 = .ok (.getfield 9, 3) := by decide +kernel
theorem dU_kind_14 : decode cU_kind 14 = .ok (.iload_n 2, 1) := by decide +kernel
theorem dU_kind_15 : decode cU_kind 15 = .ok (.laload, 1) := by decide +kernel
theorem dU_kind_16 : decode cU_kind 16 = .ok (.invokevirtual 84, 3) := by decide +kernel
theorem dU_kind_19 : decode cU_kind 19 = .ok (.istore 4, 2) := by decide +kernel
theorem dU_kind_21 : decode cU_kind 21 = .ok (.aload_n 3, 1) := by decide +kernel
theorem dU_kind_22 : decode cU_kind 22 = .ok (.aload_n 0, 1) := by decide +kernel
theorem dU_kind_23 : decode cU_kind 23 = .ok (.getfield 9, 3) := by decide +kernel
theorem dU_kind_26 : decode cU_kind 26 = .ok (.iload_n 2, 1) := by decide +kernel
theorem dU_kind_27 : decode cU_kind 27 = .ok (.laload, 1) := by decide +kernel
theorem dU_kind_28 : decode cU_kind 28 = .ok (.invokevirtual 69, 3) := by decide +kernel
theorem dU_kind_31 : decode cU_kind 31 = .ok (.ifCond .eq 11, 3) := by decide +kernel
theorem dU_kind_34 : decode cU_kind 34 = .ok (.iload 4, 2) := by decide +kernel
theorem dU_kind_36 : decode cU_kind 36 = .ok (.bipush 8, 2) := by decide +kernel
theorem dU_kind_38 : decode cU_kind 38 = .ok (.iadd, 1) := by decide +kernel
theorem dU_kind_39 : decode cU_kind 39 = .ok (.goto 5, 3) := by decide +kernel
theorem dU_kind_42 : decode cU_kind 42 = .ok (.iload 4, 2) := by decide +kernel
theorem dU_kind_44 : decode cU_kind 44 = .ok (.ireturn, 1) := by decide +kernel
theorem dU_negate_0 : decode cU_negate 0 = .ok (.iload_n 2, 1) := by decide +kernel
theorem dU_negate_1 : decode cU_negate 1 = .ok (.invokestatic 20, 3) := by decide +kernel
theorem dU_negate_4 : decode cU_negate 4 = .ok (.iload_n 3, 1) := by decide +kernel
theorem dU_negate_5 : decode cU_negate 5 = .ok (.invokestatic 20, 3) := by decide +kernel
theorem dU_negate_8 : decode cU_negate 8 = .ok (.iload_n 1, 1) := by decide +kernel
theorem dU_negate_9 : decode cU_negate 9 = .ok (.invokestatic 33, 3) := by decide +kernel
theorem dU_negate_12 : decode cU_negate 12 = .ok (.astore 4, 2) := by decide +kernel
theorem dU_negate_14 : decode cU_negate 14 = .ok (.aload 4, 2) := by decide +kernel
theorem dU_negate_16 : decode cU_negate 16 = .ok (.aload_n 0, 1) := by decide +kernel
theorem dU_negate_17 : decode cU_negate 17 = .ok (.getfield 9, 3) := by decide +kernel
theorem dU_negate_20 : decode cU_negate 20 = .ok (.iload_n 3, 1) := by decide +kernel
theorem dU_negate_21 : decode cU_negate 21 = .ok (.laload, 1) := by decide +kernel
theorem dU_negate_22 : decode cU_negate 22 = .ok (.invokevirtual 37, 3) := by decide +kernel
theorem dU_negate_25 : decode cU_negate 25 = .ok (.lstore 5, 2) := by decide +kernel
theorem dU_negate_27 : decode cU_negate 27 = .ok (.aload_n 0, 1) := by decide +kernel
theorem dU_negate_28 : decode cU_negate 28 = .ok (.iload_n 2, 1) := by decide +kernel
theorem dU_negate_29 : decode cU_negate 29 = .ok (.aload 4, 2) := by decide +kernel
theorem dU_negate_31 : decode cU_negate 31 = .ok (.lload 5, 2) := by decide +kernel
theorem dU_negate_33 : decode cU_negate 33 = .ok (.invokevirtual 51, 3) := by decide +kernel
theorem dU_negate_36 : decode cU_negate 36 = .ok (.ifCond .eq 11, 3) := by decide +kernel
theorem dU_negate_39 : decode cU_negate 39 = .ok (.aload 4, 2) := by decide +kernel
theorem dU_negate_41 : decode cU_negate 41 = .ok (.invokevirtual 88, 3) := by decide +kernel
theorem dU_negate_44 : decode cU_negate 44 = .ok (.goto 10, 3) := by decide +kernel
theorem dU_negate_47 : decode cU_negate 47 = .ok (.aload 4, 2) := by decide +kernel
theorem dU_negate_49 : decode cU_negate 49 = .ok (.lload 5, 2) := by decide +kernel
theorem dU_negate_51 : decode cU_negate 51 = .ok (.invokevirtual 92, 3) := by decide +kernel
theorem dU_negate_54 : decode cU_negate 54 = .ok (.invokevirtual 47, 3) := by decide +kernel
theorem dU_negate_57 : decode cU_negate 57 = .ok (.lreturn, 1) := by decide +kernel
