/-! Decode rows (by program). -/
theorem dF_own_0 : decode cF_own 0 = .ok (.lload_n 1, 1) := by decide +kernel
theorem dF_own_1 : decode cF_own 1 = .ok (.aload_n 0, 1) := by decide +kernel
theorem dF_own_2 : decode cF_own 2 = .ok (.getfield 38, 3) := by decide +kernel
theorem dF_own_5 : decode cF_own 5 = .ok (.aload_n 0, 1) := by decide +kernel
theorem dF_own_6 : decode cF_own 6 = .ok (.getfield 38, 3) := by decide +kernel
theorem dF_own_9 : decode cF_own 9 = .ok (.lconst 1, 1) := by decide +kernel
theorem dF_own_10 : decode cF_own 10 = .ok (.lsub, 1) := by decide +kernel
theorem dF_own_11 : decode cF_own 11 = .ok (.lor, 1) := by decide +kernel
theorem dF_own_12 : decode cF_own 12 = .ok (.land, 1) := by decide +kernel
theorem dF_own_13 : decode cF_own 13 = .ok (.lreturn, 1) := by decide +kernel
theorem dF_isNone_0 : decode cF_isNone 0 = .ok (.aload_n 0, 1) := by decide +kernel
theorem dF_isNone_1 : decode cF_isNone 1 = .ok (.lload_n 1, 1) := by decide +kernel
theorem dF_isNone_2 : decode cF_isNone 2 = .ok (.invokevirtual 50, 3) := by decide +kernel
theorem dF_isNone_5 : decode cF_isNone 5 = .ok (.aload_n 0, 1) := by decide +kernel
theorem dF_isNone_6 : decode cF_isNone 6 = .ok (.getfield 47, 3) := by decide +kernel
theorem dF_isNone_9 : decode cF_isNone 9 = .ok (.lcmp, 1) := by decide +kernel
theorem dF_isNone_10 : decode cF_isNone 10 = .ok (.ifCond .le 7, 3) := by decide +kernel
theorem dF_isNone_13 : decode cF_isNone 13 = .ok (.iconst 1, 1) := by decide +kernel
theorem dF_isNone_14 : decode cF_isNone 14 = .ok (.goto 4, 3) := by decide +kernel
theorem dF_isNone_17 : decode cF_isNone 17 = .ok (.iconst 0, 1) := by decide +kernel
theorem dF_isNone_18 : decode cF_isNone 18 = .ok (.ireturn, 1) := by decide +kernel
theorem dF_size_0 : decode cF_size 0 = .ok (.lload_n 1, 1) := by decide +kernel
theorem dF_size_1 : decode cF_size 1 = .ok (.aload_n 0, 1) := by decide +kernel
theorem dF_size_2 : decode cF_size 2 = .ok (.getfield 38, 3) := by decide +kernel
theorem dF_size_5 : decode cF_size 5 = .ok (.lconst 1, 1) := by decide +kernel
theorem dF_size_6 : decode cF_size 6 = .ok (.lsub, 1) := by decide +kernel
theorem dF_size_7 : decode cF_size 7 = .ok (.land, 1) := by decide +kernel
theorem dF_size_8 : decode cF_size 8 = .ok (.lreturn, 1) := by decide +kernel
theorem dF_none_0 : decode cF_none 0 = .ok (.aload_n 0, 1) := by decide +kernel
theorem dF_none_1 : decode cF_none 1 = .ok (.getfield 47, 3) := by decide +kernel
theorem dF_none_4 : decode cF_none 4 = .ok (.aload_n 0, 1) := by decide +kernel
theorem dF_none_5 : decode cF_none 5 = .ok (.getfield 42, 3) := by decide +kernel
theorem dF_none_8 : decode cF_none 8 = .ok (.iconst 1, 1) := by decide +kernel
theorem dF_none_9 : decode cF_none 9 = .ok (.lushr, 1) := by decide +kernel
theorem dF_none_10 : decode cF_none 10 = .ok (.lor, 1) := by decide +kernel
theorem dF_none_11 : decode cF_none 11 = .ok (.lreturn, 1) := by decide +kernel
theorem dF_isMinus_0 : decode cF_isMinus 0 = .ok (.lload_n 1, 1) := by decide +kernel
theorem dF_isMinus_1 : decode cF_isMinus 1 = .ok (.aload_n 0, 1) := by decide +kernel
theorem dF_isMinus_2 : decode cF_isMinus 2 = .ok (.getfield 38, 3) := by decide +kernel
theorem dF_isMinus_5 : decode cF_isMinus 5 = .ok (.land, 1) := by decide +kernel
theorem dF_isMinus_6 : decode cF_isMinus 6 = .ok (.lconst 0, 1) := by decide +kernel
theorem dF_isMinus_7 : decode cF_isMinus 7 = .ok (.lcmp, 1) := by decide +kernel
theorem dF_isMinus_8 : decode cF_isMinus 8 = .ok (.ifCond .eq 7, 3) := by decide +kernel
theorem dF_isMinus_11 : decode cF_isMinus 11 = .ok (.iconst 1, 1) := by decide +kernel
theorem dF_isMinus_12 : decode cF_isMinus 12 = .ok (.goto 4, 3) := by decide +kernel
theorem dF_isMinus_15 : decode cF_isMinus 15 = .ok (.iconst 0, 1) := by decide +kernel
theorem dF_isMinus_16 : decode cF_isMinus 16 = .ok (.ireturn, 1) := by decide +kernel
theorem dF_isEndless_0 : decode cF_isEndless 0 = .ok (.aload_n 0, 1) := by decide +kernel
theorem dF_isEndless_1 : decode cF_isEndless 1 = .ok (.lload_n 1, 1) := by decide +kernel
theorem dF_isEndless_2 : decode cF_isEndless 2 = .ok (.invokevirtual 50, 3) := by decide +kernel
theorem dF_isEndless_5 : decode cF_isEndless 5 = .ok (.aload_n 0, 1) := by decide +kernel
theorem dF_isEndless_6 : decode cF_isEndless 6 = .ok (.getfield 47, 3) := by decide +kernel
theorem dF_isEndless_9 : decode cF_isEndless 9 = .ok (.lcmp, 1) := by decide +kernel
theorem dF_isEndless_10 : decode cF_isEndless 10 = .ok (.ifCond .ne 7, 3) := by decide +kernel
theorem dF_isEndless_13 : decode cF_isEndless 13 = .ok (.iconst 1, 1) := by decide +kernel
theorem dF_isEndless_14 : decode cF_isEndless 14 = .ok (.goto 4, 3) := by decide +kernel
theorem dF_isEndless_17 : decode cF_isEndless 17 = .ok (.iconst 0, 1) := by decide +kernel
theorem dF_isEndless_18 : decode cF_isEndless 18 = .ok (.ireturn, 1) := by decide +kernel
theorem dF_power_0 : decode cF_power 0 = .ok (.aload_n 0, 1) := by decide +kernel
theorem dF_power_1 : decode cF_power 1 = .ok (.lload_n 1, 1) := by decide +kernel
theorem dF_power_2 : decode cF_power 2 = .ok (.invokevirtual 50, 3) := by decide +kernel
theorem dF_power_5 : decode cF_power 5 = .ok (.aload_n 0, 1) := by decide +kernel
theorem dF_power_6 : decode cF_power 6 = .ok (.getfield 31, 3) := by decide +kernel
theorem dF_power_9 : decode cF_power 9 = .ok (.iconst 1, 1) := by decide +kernel
theorem dF_power_10 : decode cF_power 10 = .ok (.isub, 1) := by decide +kernel
theorem dF_power_11 : decode cF_power 11 = .ok (.lushr, 1) := by decide +kernel
theorem dF_power_12 : decode cF_power 12 = .ok (.l2i, 1) := by decide +kernel
theorem dF_power_13 : decode cF_power 13 = .ok (.istore_n 3, 1) := by decide +kernel
theorem dF_power_14 : decode cF_power 14 = .ok (.aload_n 0, 1) := by decide +kernel
theorem dF_power_15 : decode cF_power 15 = .ok (.iload_n 3, 1) := by decide +kernel
theorem dF_power_16 : decode cF_power 16 = .ok (.iconst 1, 1) := by decide +kernel
theorem dF_power_17 : decode cF_power 17 = .ok (.invokestatic 74, 3) := by decide +kernel
theorem dF_power_20 : decode cF_power 20 = .ok (.invokevirtual 80, 3) := by decide +kernel
theorem dF_power_23 : decode cF_power 23 = .ok (.aload_n 0, 1) := by decide +kernel
theorem dF_power_24 : decode cF_power 24 = .ok (.lload_n 1, 1) := by decide +kernel
theorem dF_power_25 : decode cF_power 25 = .ok (.invokevirtual 67, 3) := by decide +kernel
theorem dF_power_28 : decode cF_power 28 = .ok (.invokestatic 70, 3) := by decide +kernel
theorem dF_power_31 : decode cF_power 31 = .ok (.isub, 1) := by decide +kernel
theorem dF_power_32 : decode cF_power 32 = .ok (.ireturn, 1) := by decide +kernel
theorem dF_unitPower_0 : decode cF_unitPower 0 = .ok (.iload_n 1, 1) := by decide +kernel
theorem dF_unitPower_1 : decode cF_unitPower 1 = .ok (.aload_n 0, 1) := by decide +kernel
theorem dF_unitPower_2 : decode cF_unitPower 2 = .ok (.getfield 35, 3) := by decide +kernel
theorem dF_unitPower_5 : decode cF_unitPower 5 = .ok (.isub, 1) := by decide +kernel
theorem dF_unitPower_6 : decode cF_unitPower 6 = .ok (.aload_n 0, 1) := by decide +kernel
theorem dF_unitPower_7 : decode cF_unitPower 7 = .ok (.getfield 31, 3) := by decide +kernel
theorem dF_unitPower_10 : decode cF_unitPower 10 = .ok (.iconst 1, 1) := by decide +kernel
theorem dF_unitPower_11 : decode cF_unitPower 11 = .ok (.isub, 1) := by decide +kernel
theorem dF_unitPower_12 : decode cF_unitPower 12 = .ok (.isub, 1) := by decide +kernel
theorem dF_unitPower_13 : decode cF_unitPower 13 = .ok (.ireturn, 1) := by decide +kernel
theorem dF_plain_0 : decode cF_plain 0 = .ok (.aload_n 0, 1) := by decide +kernel
theorem dF_plain_1 : decode cF_plain 1 = .ok (.lload_n 1, 1) := by decide +kernel
theorem dF_plain_2 : decode cF_plain 2 = .ok (.invokevirtual 50, 3) := by decide +kernel
theorem dF_plain_5 : decode cF_plain 5 = .ok (.lstore_n 3, 1) := by decide +kernel
theorem dF_plain_6 : decode cF_plain 6 = .ok (.lload_n 3, 1) := by decide +kernel
theorem dF_plain_7 : decode cF_plain 7 = .ok (.aload_n 0, 1) := by decide +kernel
theorem dF_plain_8 : decode cF_plain 8 = .ok (.getfield 42, 3) := by decide +kernel
theorem dF_plain_11 : decode cF_plain 11 = .ok (.lcmp, 1) := by decide +kernel
theorem dF_plain_12 : decode cF_plain 12 = .ok (.ifCond .ge 7, 3) := by decide +kernel
theorem dF_plain_15 : decode cF_plain 15 = .ok (.lload_n 3, 1) := by decide +kernel
theorem dF_plain_16 : decode cF_plain 16 = .ok (.goto 16, 3) := by decide +kernel
theorem dF_plain_19 : decode cF_plain 19 = .ok (.lload_n 3, 1) := by decide +kernel
theorem dF_plain_20 : decode cF_plain 20 = .ok (.aload_n 0, 1) := by decide +kernel
theorem dF_plain_21 : decode cF_plain 21 = .ok (.getfield 42, 3) := by decide +kernel
theorem dF_plain_24 : decode cF_plain 24 = .ok (.lconst 1, 1) := by decide +kernel
theorem dF_plain_25 : decode cF_plain 25 = .ok (.lsub, 1) := by decide +kernel
theorem dF_plain_26 : decode cF_plain 26 = .ok (.land, 1) := by decide +kernel
theorem dF_plain_27 : decode cF_plain 27 = .ok (.aload_n 0, 1) := by decide +kernel
theorem dF_plain_28 : decode cF_plain 28 = .ok (.getfield 42, 3) := by decide +kernel
theorem dF_plain_31 : decode cF_plain 31 = .ok (.lor, 1) := by decide +kernel
theorem dF_plain_32 : decode cF_plain 32 = .ok (.lreturn, 1) := by decide +kernel
theorem dF_lift_0 : decode cF_lift 0 = .ok (.lload_n 0, 1) := by decide +kernel
theorem dF_lift_1 : decode cF_lift 1 = .ok (.invokestatic 84, 3) := by decide +kernel
theorem dF_lift_4 : decode cF_lift 4 = .ok (.bipush 10, 2) := by decide +kernel
theorem dF_lift_6 : decode cF_lift 6 = .ok (.isub, 1) := by decide +kernel
theorem dF_lift_7 : decode cF_lift 7 = .ok (.ireturn, 1) := by decide +kernel
theorem dF_significand_0 : decode cF_significand 0 = .ok (.aload_n 0, 1) := by decide +kernel
theorem dF_significand_1 : decode cF_significand 1 = .ok (.lload_n 1, 1) := by decide +kernel
theorem dF_significand_2 : decode cF_significand 2 = .ok (.invokevirtual 67, 3) := by decide +kernel
theorem dF_significand_5 : decode cF_significand 5 = .ok (.lstore_n 3, 1) := by decide +kernel
theorem dF_significand_6 : decode cF_significand 6 = .ok (.lload_n 3, 1) := by decide +kernel
theorem dF_significand_7 : decode cF_significand 7 = .ok (.lload_n 3, 1) := by decide +kernel
theorem dF_significand_8 : decode cF_significand 8 = .ok (.invokestatic 70, 3) := by decide +kernel
theorem dF_significand_11 : decode cF_significand 11 = .ok (.lshl, 1) := by decide +kernel
theorem dF_significand_12 : decode cF_significand 12 = .ok (.lreturn, 1) := by decide +kernel
theorem dF_zero_0 : decode cF_zero 0 = .ok (.aload_n 0, 1) := by decide +kernel
theorem dF_zero_1 : decode cF_zero 1 = .ok (.iload_n 1, 1) := by decide +kernel
theorem dF_zero_2 : decode cF_zero 2 = .ok (.lconst 0, 1) := by decide +kernel
theorem dF_zero_3 : decode cF_zero 3 = .ok (.invokevirtual 87, 3) := by decide +kernel
theorem dF_zero_6 : decode cF_zero 6 = .ok (.lreturn, 1) := by decide +kernel
theorem dF_signed_0 : decode cF_signed 0 = .ok (.iload_n 1, 1) := by decide +kernel
theorem dF_signed_1 : decode cF_signed 1 = .ok (.ifCond .eq 12, 3) := by decide +kernel
theorem dF_signed_4 : decode cF_signed 4 = .ok (.lload_n 2, 1) := by decide +kernel
theorem dF_signed_5 : decode cF_signed 5 = .ok (.aload_n 0, 1) := by decide +kernel
theorem dF_signed_6 : decode cF_signed 6 = .ok (.getfield 38, 3) := by decide +kernel
theorem dF_signed_9 : decode cF_signed 9 = .ok (.lor, 1) := by decide +kernel
theorem dF_signed_10 : decode cF_signed 10 = .ok (.goto 4, 3) := by decide +kernel
theorem dF_signed_13 : decode cF_signed 13 = .ok (.lload_n 2, 1) := by decide +kernel
theorem dF_signed_14 : decode cF_signed 14 = .ok (.lreturn, 1) := by decide +kernel
theorem dF_greatest_0 : decode cF_greatest 0 = .ok (.aload_n 0, 1) := by decide +kernel
theorem dF_greatest_1 : decode cF_greatest 1 = .ok (.iload_n 1, 1) := by decide +kernel
theorem dF_greatest_2 : decode cF_greatest 2 = .ok (.aload_n 0, 1) := by decide +kernel
theorem dF_greatest_3 : decode cF_greatest 3 = .ok (.getfield 47, 3) := by decide +kernel
theorem dF_greatest_6 : decode cF_greatest 6 = .ok (.lconst 1, 1) := by decide +kernel
theorem dF_greatest_7 : decode cF_greatest 7 = .ok (.lsub, 1) := by decide +kernel
theorem dF_greatest_8 : decode cF_greatest 8 = .ok (.invokevirtual 87, 3) := by decide +kernel
theorem dF_greatest_11 : decode cF_greatest 11 = .ok (.lreturn, 1) := by decide +kernel
theorem dF_endless_0 : decode cF_endless 0 = .ok (.aload_n 0, 1) := by decide +kernel
theorem dF_endless_1 : decode cF_endless 1 = .ok (.iload_n 1, 1) := by decide +kernel
theorem dF_endless_2 : decode cF_endless 2 = .ok (.aload_n 0, 1) := by decide +kernel
theorem dF_endless_3 : decode cF_endless 3 = .ok (.getfield 47, 3) := by decide +kernel
theorem dF_endless_6 : decode cF_endless 6 = .ok (.invokevirtual 87, 3) := by decide +kernel
theorem dF_endless_9 : decode cF_endless 9 = .ok (.lreturn, 1) := by decide +kernel
theorem dF_opposite_0 : decode cF_opposite 0 = .ok (.lload_n 1, 1) := by decide +kernel
theorem dF_opposite_1 : decode cF_opposite 1 = .ok (.aload_n 0, 1) := by decide +kernel
theorem dF_opposite_2 : decode cF_opposite 2 = .ok (.getfield 38, 3) := by decide +kernel
theorem dF_opposite_5 : decode cF_opposite 5 = .ok (.lxor, 1) := by decide +kernel
theorem dF_opposite_6 : decode cF_opposite 6 = .ok (.lreturn, 1) := by decide +kernel
theorem dF_isZero_0 : decode cF_isZero 0 = .ok (.aload_n 0, 1) := by decide +kernel
theorem dF_isZero_1 : decode cF_isZero 1 = .ok (.lload_n 1, 1) := by decide +kernel
theorem dF_isZero_2 : decode cF_isZero 2 = .ok (.invokevirtual 50, 3) := by decide +kernel
theorem dF_isZero_5 : decode cF_isZero 5 = .ok (.lconst 0, 1) := by decide +kernel
theorem dF_isZero_6 : decode cF_isZero 6 = .ok (.lcmp, 1) := by decide +kernel
theorem dF_isZero_7 : decode cF_isZero 7 = .ok (.ifCond .ne 7, 3) := by decide +kernel
theorem dF_isZero_10 : decode cF_isZero 10 = .ok (.iconst 1, 1) := by decide +kernel
theorem dF_isZero_11 : decode cF_isZero 11 = .ok (.goto 4, 3) := by decide +kernel
theorem dF_isZero_14 : decode cF_isZero 14 = .ok (.iconst 0, 1) := by decide +kernel
theorem dF_isZero_15 : decode cF_isZero 15 = .ok (.ireturn, 1) := by decide +kernel
theorem dF_rank_0 : decode cF_rank 0 = .ok (.aload_n 0, 1) := by decide +kernel
theorem dF_rank_1 : decode cF_rank 1 = .ok (.lload_n 1, 1) := by decide +kernel
theorem dF_rank_2 : decode cF_rank 2 = .ok (.invokevirtual 64, 3) := by decide +kernel
theorem dF_rank_5 : decode cF_rank 5 = .ok (.ifCond .eq 12, 3) := by decide +kernel
theorem dF_rank_8 : decode cF_rank 8 = .ok (.aload_n 0, 1) := by decide +kernel
theorem dF_rank_9 : decode cF_rank 9 = .ok (.lload_n 1, 1) := by decide +kernel
theorem dF_rank_10 : decode cF_rank 10 = .ok (.invokevirtual 50, 3) := by decide +kernel
theorem dF_rank_13 : decode cF_rank 13 = .ok (.lneg, 1) := by decide +kernel
theorem dF_rank_14 : decode cF_rank 14 = .ok (.goto 8, 3) := by decide +kernel
theorem dF_rank_17 : decode cF_rank 17 = .ok (.aload_n 0, 1) := by decide +kernel
theorem dF_rank_18 : decode cF_rank 18 = .ok (.lload_n 1, 1) := by decide +kernel
theorem dF_rank_19 : decode cF_rank 19 = .ok (.invokevirtual 50, 3) := by decide +kernel
theorem dF_rank_22 : decode cF_rank 22 = .ok (.lreturn, 1) := by decide +kernel
theorem dF_sort_0 : decode cF_sort 0 = .ok (.aload_n 0, 1) := by decide +kernel
theorem dF_sort_1 : decode cF_sort 1 = .ok (.lload_n 1, 1) := by decide +kernel
theorem dF_sort_2 : decode cF_sort 2 = .ok (.invokevirtual 54, 3) := by decide +kernel
theorem dF_sort_5 : decode cF_sort 5 = .ok (.ifCond .eq 5, 3) := by decide +kernel
theorem dF_sort_8 : decode cF_sort 8 = .ok (.iconst 0, 1) := by decide +kernel
theorem dF_sort_9 : decode cF_sort 9 = .ok (.ireturn, 1) := by decide +kernel
theorem dF_sort_10 : decode cF_sort 10 = .ok (.aload_n 0, 1) := by decide +kernel
theorem dF_sort_11 : decode cF_sort 11 = .ok (.lload_n 1, 1) := by decide +kernel
theorem dF_sort_12 : decode cF_sort 12 = .ok (.invokevirtual 58, 3) := by decide +kernel
theorem dF_sort_15 : decode cF_sort 15 = .ok (.ifCond .eq 5, 3) := by decide +kernel
theorem dF_sort_18 : decode cF_sort 18 = .ok (.iconst 1, 1) := by decide +kernel
theorem dF_sort_19 : decode cF_sort 19 = .ok (.ireturn, 1) := by decide +kernel
theorem dF_sort_20 : decode cF_sort 20 = .ok (.aload_n 0, 1) := by decide +kernel
theorem dF_sort_21 : decode cF_sort 21 = .ok (.lload_n 1, 1) := by decide +kernel
theorem dF_sort_22 : decode cF_sort 22 = .ok (.invokevirtual 61, 3) := by decide +kernel
theorem dF_sort_25 : decode cF_sort 25 = .ok (.ifCond .eq 5, 3) := by decide +kernel
theorem dF_sort_28 : decode cF_sort 28 = .ok (.iconst 4, 1) := by decide +kernel
theorem dF_sort_29 : decode cF_sort 29 = .ok (.ireturn, 1) := by decide +kernel
theorem dF_sort_30 : decode cF_sort 30 = .ok (.aload_n 0, 1) := by decide +kernel
theorem dF_sort_31 : decode cF_sort 31 = .ok (.lload_n 1, 1) := by decide +kernel
theorem dF_sort_32 : decode cF_sort 32 = .ok (.invokevirtual 50, 3) := by decide +kernel
theorem dF_sort_35 : decode cF_sort 35 = .ok (.aload_n 0, 1) := by decide +kernel
theorem dF_sort_36 : decode cF_sort 36 = .ok (.getfield 42, 3) := by decide +kernel
theorem dF_sort_39 : decode cF_sort 39 = .ok (.lcmp, 1) := by decide +kernel
theorem dF_sort_40 : decode cF_sort 40 = .ok (.ifCond .ge 7, 3) := by decide +kernel
theorem dF_sort_43 : decode cF_sort 43 = .ok (.iconst 3, 1) := by decide +kernel
theorem dF_sort_44 : decode cF_sort 44 = .ok (.goto 4, 3) := by decide +kernel
theorem dF_sort_47 : decode cF_sort 47 = .ok (.iconst 2, 1) := by decide +kernel
theorem dF_sort_48 : decode cF_sort 48 = .ok (.ireturn, 1) := by decide +kernel
