theorem dX12_firstOfWay_1 : decode cX12_firstOfWay 1 = .ok (.aload_n 0, 1) := by decide +kernel
theorem dX12_firstOfWay_2 : decode cX12_firstOfWay 2 = .ok (.getfield 39, 3) := by decide +kernel
theorem dX12_firstOfWay_5 : decode cX12_firstOfWay 5 = .ok (.bipush 11, 2) := by decide +kernel
theorem dX12_firstOfWay_7 : decode cX12_firstOfWay 7 = .ok (.iaload, 1) := by decide +kernel
theorem dX12_firstOfWay_8 : decode cX12_firstOfWay 8 = .ok (.iload_n 1, 1) := by decide +kernel
theorem dX12_firstOfWay_9 : decode cX12_firstOfWay 9 = .ok (.invokevirtual 379, 3) := by decide +kernel
theorem dX12_firstOfWay_12 : decode cX12_firstOfWay 12 = .ok (.istore_n 2, 1) := by decide +kernel
theorem dX12_firstOfWay_13 : decode cX12_firstOfWay 13 = .ok (.iconst 0, 1) := by decide +kernel
theorem dX12_firstOfWay_14 : decode cX12_firstOfWay 14 = .ok (.istore_n 3, 1) := by decide +kernel
theorem dX12_firstOfWay_15 : decode cX12_firstOfWay 15 = .ok (.aload_n 0, 1) := by decide +kernel
theorem dX12_firstOfWay_16 : decode cX12_firstOfWay 16 = .ok (.aload_n 0, 1) := by decide +kernel
theorem dX12_firstOfWay_17 : decode cX12_firstOfWay 17 = .ok (.getfield 39, 3) := by decide +kernel
theorem dX12_firstOfWay_20 : decode cX12_firstOfWay 20 = .ok (.bipush 11, 2) := by decide +kernel
theorem dX12_firstOfWay_22 : decode cX12_firstOfWay 22 = .ok (.iaload, 1) := by decide +kernel
theorem dX12_firstOfWay_23 : decode cX12_firstOfWay 23 = .ok (.iload_n 3, 1) := by decide +kernel
theorem dX12_firstOfWay_24 : decode cX12_firstOfWay 24 = .ok (.invokevirtual 355, 3) := by decide +kernel
theorem dX12_firstOfWay_27 : decode cX12_firstOfWay 27 = .ok (.ifCond .eq 23, 3) := by decide +kernel
theorem dX12_firstOfWay_30 : decode cX12_firstOfWay 30 = .ok (.aload_n 0, 1) := by decide +kernel
theorem dX12_firstOfWay_31 : decode cX12_firstOfWay 31 = .ok (.iload_n 3, 1) := by decide +kernel
theorem dX12_firstOfWay_32 : decode cX12_firstOfWay 32 = .ok (.invokevirtual 329, 3) := by decide +kernel
theorem dX12_firstOfWay_35 : decode cX12_firstOfWay 35 = .ok (.ifCond .ne 15, 3) := by decide +kernel
theorem dX12_firstOfWay_38 : decode cX12_firstOfWay 38 = .ok (.aload_n 0, 1) := by decide +kernel
theorem dX12_firstOfWay_39 : decode cX12_firstOfWay 39 = .ok (.iload_n 3, 1) := by decide +kernel
theorem dX12_firstOfWay_40 : decode cX12_firstOfWay 40 = .ok (.iload_n 1, 1) := by decide +kernel
theorem dX12_firstOfWay_41 : decode cX12_firstOfWay 41 = .ok (.invokevirtual 379, 3) := by decide +kernel
theorem dX12_firstOfWay_44 : decode cX12_firstOfWay 44 = .ok (.iload_n 2, 1) := by decide +kernel
theorem dX12_firstOfWay_45 : decode cX12_firstOfWay 45 = .ok (.iconst 1, 1) := by decide +kernel
theorem dX12_firstOfWay_46 : decode cX12_firstOfWay 46 = .ok (.isub, 1) := by decide +kernel
theorem dX12_firstOfWay_47 : decode cX12_firstOfWay 47 = .ok (.if_icmp .eq 9, 3) := by decide +kernel
theorem dX12_firstOfWay_50 : decode cX12_firstOfWay 50 = .ok (.iinc 3 1, 3) := by decide +kernel
theorem dX12_firstOfWay_53 : decode cX12_firstOfWay 53 = .ok (.goto (-38), 3) := by decide +kernel
theorem dX12_firstOfWay_56 : decode cX12_firstOfWay 56 = .ok (.iload_n 3, 1) := by decide +kernel
theorem dX12_firstOfWay_57 : decode cX12_firstOfWay 57 = .ok (.ireturn, 1) := by decide +kernel
theorem dX12_whistle_0 : decode cX12_whistle 0 = .ok (.aload_n 0, 1) := by decide +kernel
theorem dX12_whistle_1 : decode cX12_whistle 1 = .ok (.iload_n 1, 1) := by decide +kernel
theorem dX12_whistle_2 : decode cX12_whistle 2 = .ok (.invokevirtual 321, 3) := by decide +kernel
theorem dX12_whistle_5 : decode cX12_whistle 5 = .ok (.ifCond .eq 31, 3) := by decide +kernel
theorem dX12_whistle_8 : decode cX12_whistle 8 = .ok (.iload_n 1, 1) := by decide +kernel
theorem dX12_whistle_9 : decode cX12_whistle 9 = .ok (.aload_n 0, 1) := by decide +kernel
theorem dX12_whistle_10 : decode cX12_whistle 10 = .ok (.getfield 39, 3) := by decide +kernel
theorem dX12_whistle_13 : decode cX12_whistle 13 = .ok (.bipush 11, 2) := by decide +kernel
theorem dX12_whistle_15 : decode cX12_whistle 15 = .ok (.iaload, 1) := by decide +kernel
theorem dX12_whistle_16 : decode cX12_whistle 16 = .ok (.if_icmp .eq 20, 3) := by decide +kernel
theorem dX12_whistle_19 : decode cX12_whistle 19 = .ok (.aload_n 0, 1) := by decide +kernel
theorem dX12_whistle_20 : decode cX12_whistle 20 = .ok (.aload_n 0, 1) := by decide +kernel
theorem dX12_whistle_21 : decode cX12_whistle 21 = .ok (.getfield 39, 3) := by decide +kernel
theorem dX12_whistle_24 : decode cX12_whistle 24 = .ok (.bipush 11, 2) := by decide +kernel
theorem dX12_whistle_26 : decode cX12_whistle 26 = .ok (.iaload, 1) := by decide +kernel
theorem dX12_whistle_27 : decode cX12_whistle 27 = .ok (.iload_n 1, 1) := by decide +kernel
theorem dX12_whistle_28 : decode cX12_whistle 28 = .ok (.invokevirtual 379, 3) := by decide +kernel
theorem dX12_whistle_31 : decode cX12_whistle 31 = .ok (.bipush 99, 2) := by decide +kernel
theorem dX12_whistle_33 : decode cX12_whistle 33 = .ok (.if_icmp .ne 5, 3) := by decide +kernel
theorem dX12_whistle_36 : decode cX12_whistle 36 = .ok (.iconst (-1), 1) := by decide +kernel
theorem dX12_whistle_37 : decode cX12_whistle 37 = .ok (.ireturn, 1) := by decide +kernel
theorem dX12_whistle_38 : decode cX12_whistle 38 = .ok (.aload_n 0, 1) := by decide +kernel
theorem dX12_whistle_39 : decode cX12_whistle 39 = .ok (.invokevirtual 376, 3) := by decide +kernel
theorem dX12_whistle_42 : decode cX12_whistle 42 = .ok (.aload_n 0, 1) := by decide +kernel
theorem dX12_whistle_43 : decode cX12_whistle 43 = .ok (.getfield 39, 3) := by decide +kernel
theorem dX12_whistle_46 : decode cX12_whistle 46 = .ok (.bipush 11, 2) := by decide +kernel
theorem dX12_whistle_48 : decode cX12_whistle 48 = .ok (.aload_n 0, 1) := by decide +kernel
theorem dX12_whistle_49 : decode cX12_whistle 49 = .ok (.iload_n 1, 1) := by decide +kernel
theorem dX12_whistle_50 : decode cX12_whistle 50 = .ok (.invokevirtual 382, 3) := by decide +kernel
theorem dX12_whistle_53 : decode cX12_whistle 53 = .ok (.iastore, 1) := by decide +kernel
theorem dX12_whistle_54 : decode cX12_whistle 54 = .ok (.aload_n 0, 1) := by decide +kernel
theorem dX12_whistle_55 : decode cX12_whistle 55 = .ok (.getfield 39, 3) := by decide +kernel
theorem dX12_whistle_58 : decode cX12_whistle 58 = .ok (.bipush 11, 2) := by decide +kernel
theorem dX12_whistle_60 : decode cX12_whistle 60 = .ok (.iaload, 1) := by decide +kernel
theorem dX12_whistle_61 : decode cX12_whistle 61 = .ok (.ireturn, 1) := by decide +kernel
theorem dX12_pitch_0 : decode cX12_pitch 0 = .ok (.aload_n 0, 1) := by decide +kernel
theorem dX12_pitch_1 : decode cX12_pitch 1 = .ok (.iload_n 1, 1) := by decide +kernel
theorem dX12_pitch_2 : decode cX12_pitch 2 = .ok (.invokevirtual 316, 3) := by decide +kernel
theorem dX12_pitch_5 : decode cX12_pitch 5 = .ok (.ifCond .eq 20, 3) := by decide +kernel
theorem dX12_pitch_8 : decode cX12_pitch 8 = .ok (.aload_n 0, 1) := by decide +kernel
theorem dX12_pitch_9 : decode cX12_pitch 9 = .ok (.iload_n 2, 1) := by decide +kernel
theorem dX12_pitch_10 : decode cX12_pitch 10 = .ok (.invokevirtual 321, 3) := by decide +kernel
theorem dX12_pitch_13 : decode cX12_pitch 13 = .ok (.ifCond .eq 12, 3) := by decide +kernel
theorem dX12_pitch_16 : decode cX12_pitch 16 = .ok (.aload_n 0, 1) := by decide +kernel
theorem dX12_pitch_17 : decode cX12_pitch 17 = .ok (.iload_n 1, 1) := by decide +kernel
theorem dX12_pitch_18 : decode cX12_pitch 18 = .ok (.invokevirtual 306, 3) := by decide +kernel
theorem dX12_pitch_21 : decode cX12_pitch 21 = .ok (.iload_n 2, 1) := by decide +kernel
theorem dX12_pitch_22 : decode cX12_pitch 22 = .ok (.if_icmp .ne 5, 3) := by decide +kernel
theorem dX12_pitch_25 : decode cX12_pitch 25 = .ok (.iconst (-1), 1) := by decide +kernel
theorem dX12_pitch_26 : decode cX12_pitch 26 = .ok (.ireturn, 1) := by decide +kernel
theorem dX12_pitch_27 : decode cX12_pitch 27 = .ok (.aload_n 0, 1) := by decide +kernel
theorem dX12_pitch_28 : decode cX12_pitch 28 = .ok (.invokevirtual 376, 3) := by decide +kernel
theorem dX12_pitch_31 : decode cX12_pitch 31 = .ok (.aload_n 0, 1) := by decide +kernel
theorem dX12_pitch_32 : decode cX12_pitch 32 = .ok (.iload_n 1, 1) := by decide +kernel
theorem dX12_pitch_33 : decode cX12_pitch 33 = .ok (.invokevirtual 306, 3) := by decide +kernel
theorem dX12_pitch_36 : decode cX12_pitch 36 = .ok (.istore_n 3, 1) := by decide +kernel
theorem dX12_pitch_37 : decode cX12_pitch 37 = .ok (.aload_n 0, 1) := by decide +kernel
theorem dX12_pitch_38 : decode cX12_pitch 38 = .ok (.getfield 39, 3) := by decide +kernel
theorem dX12_pitch_41 : decode cX12_pitch 41 = .ok (.bipush 13, 2) := by decide +kernel
theorem dX12_pitch_43 : decode cX12_pitch 43 = .ok (.iconst 4, 1) := by decide +kernel
theorem dX12_pitch_44 : decode cX12_pitch 44 = .ok (.iload_n 1, 1) := by decide +kernel
theorem dX12_pitch_45 : decode cX12_pitch 45 = .ok (.imul, 1) := by decide +kernel
theorem dX12_pitch_46 : decode cX12_pitch 46 = .ok (.iadd, 1) := by decide +kernel
theorem dX12_pitch_47 : decode cX12_pitch 47 = .ok (.iload_n 2, 1) := by decide +kernel
theorem dX12_pitch_48 : decode cX12_pitch 48 = .ok (.iastore, 1) := by decide +kernel
theorem dX12_pitch_49 : decode cX12_pitch 49 = .ok (.iload_n 3, 1) := by decide +kernel
theorem dX12_pitch_50 : decode cX12_pitch 50 = .ok (.ireturn, 1) := by decide +kernel
theorem dX12_steady_0 : decode cX12_steady 0 = .ok (.aload_n 0, 1) := by decide +kernel
theorem dX12_steady_1 : decode cX12_steady 1 = .ok (.iload_n 1, 1) := by decide +kernel
theorem dX12_steady_2 : decode cX12_steady 2 = .ok (.invokevirtual 316, 3) := by decide +kernel
theorem dX12_steady_5 : decode cX12_steady 5 = .ok (.ifCond .eq 15, 3) := by decide +kernel
theorem dX12_steady_8 : decode cX12_steady 8 = .ok (.iload_n 2, 1) := by decide +kernel
theorem dX12_steady_9 : decode cX12_steady 9 = .ok (.i2l, 1) := by decide +kernel
theorem dX12_steady_10 : decode cX12_steady 10 = .ok (.lconst 1, 1) := by decide +kernel
theorem dX12_steady_11 : decode cX12_steady 11 = .ok (.ldc2_w 385, 3) := by decide +kernel
theorem dX12_steady_14 : decode cX12_steady 14 = .ok (.invokestatic 136, 3) := by decide +kernel
theorem dX12_steady_17 : decode cX12_steady 17 = .ok (.ifCond .ne 5, 3) := by decide +kernel
theorem dX12_steady_20 : decode cX12_steady 20 = .ok (.iconst (-1), 1) := by decide +kernel
theorem dX12_steady_21 : decode cX12_steady 21 = .ok (.ireturn, 1) := by decide +kernel
theorem dX12_steady_22 : decode cX12_steady 22 = .ok (.aload_n 0, 1) := by decide +kernel
theorem dX12_steady_23 : decode cX12_steady 23 = .ok (.invokevirtual 376, 3) := by decide +kernel
theorem dX12_steady_26 : decode cX12_steady 26 = .ok (.aload_n 0, 1) := by decide +kernel
theorem dX12_steady_27 : decode cX12_steady 27 = .ok (.iload_n 1, 1) := by decide +kernel
theorem dX12_steady_28 : decode cX12_steady 28 = .ok (.invokevirtual 339, 3) := by decide +kernel
theorem dX12_steady_31 : decode cX12_steady 31 = .ok (.iload_n 2, 1) := by decide +kernel
theorem dX12_steady_32 : decode cX12_steady 32 = .ok (.iadd, 1) := by decide +kernel
theorem dX12_steady_33 : decode cX12_steady 33 = .ok (.istore_n 3, 1) := by decide +kernel
theorem dX12_steady_34 : decode cX12_steady 34 = .ok (.aload_n 0, 1) := by decide +kernel
theorem dX12_steady_35 : decode cX12_steady 35 = .ok (.getfield 39, 3) := by decide +kernel
theorem dX12_steady_38 : decode cX12_steady 38 = .ok (.bipush 13, 2) := by decide +kernel
theorem dX12_steady_40 : decode cX12_steady 40 = .ok (.iconst 4, 1) := by decide +kernel
theorem dX12_steady_41 : decode cX12_steady 41 = .ok (.iload_n 1, 1) := by decide +kernel
theorem dX12_steady_42 : decode cX12_steady 42 = .ok (.imul, 1) := by decide +kernel
theorem dX12_steady_43 : decode cX12_steady 43 = .ok (.iadd, 1) := by decide +kernel
theorem dX12_steady_44 : decode cX12_steady 44 = .ok (.iconst 1, 1) := by decide +kernel
theorem dX12_steady_45 : decode cX12_steady 45 = .ok (.iadd, 1) := by decide +kernel
theorem dX12_steady_46 : decode cX12_steady 46 = .ok (.iload_n 3, 1) := by decide +kernel
theorem dX12_steady_47 : decode cX12_steady 47 = .ok (.bipush 99, 2) := by decide +kernel
theorem dX12_steady_49 : decode cX12_steady 49 = .ok (.if_icmp .le 8, 3) := by decide +kernel
theorem dX12_steady_52 : decode cX12_steady 52 = .ok (.bipush 99, 2) := by decide +kernel
theorem dX12_steady_54 : decode cX12_steady 54 = .ok (.goto 4, 3) := by decide +kernel
theorem dX12_steady_57 : decode cX12_steady 57 = .ok (.iload_n 3, 1) := by decide +kernel
theorem dX12_steady_58 : decode cX12_steady 58 = .ok (.iastore, 1) := by decide +kernel
theorem dX12_steady_59 : decode cX12_steady 59 = .ok (.aload_n 0, 1) := by decide +kernel
theorem dX12_steady_60 : decode cX12_steady 60 = .ok (.iload_n 1, 1) := by decide +kernel
theorem dX12_steady_61 : decode cX12_steady 61 = .ok (.invokevirtual 339, 3) := by decide +kernel
theorem dX12_steady_64 : decode cX12_steady 64 = .ok (.ireturn, 1) := by decide +kernel
theorem dX12_bush_0 : decode cX12_bush 0 = .ok (.aload_n 0, 1) := by decide +kernel
theorem dX12_bush_1 : decode cX12_bush 1 = .ok (.iload_n 1, 1) := by decide +kernel
theorem dX12_bush_2 : decode cX12_bush 2 = .ok (.invokevirtual 321, 3) := by decide +kernel
theorem dX12_bush_5 : decode cX12_bush 5 = .ok (.ifCond .ne 5, 3) := by decide +kernel
theorem dX12_bush_8 : decode cX12_bush 8 = .ok (.iconst (-1), 1) := by decide +kernel
theorem dX12_bush_9 : decode cX12_bush 9 = .ok (.ireturn, 1) := by decide +kernel
theorem dX12_bush_10 : decode cX12_bush 10 = .ok (.aload_n 0, 1) := by decide +kernel
theorem dX12_bush_11 : decode cX12_bush 11 = .ok (.invokevirtual 376, 3) := by decide +kernel
theorem dX12_bush_14 : decode cX12_bush 14 = .ok (.aload_n 0, 1) := by decide +kernel
theorem dX12_bush_15 : decode cX12_bush 15 = .ok (.getfield 39, 3) := by decide +kernel
theorem dX12_bush_18 : decode cX12_bush 18 = .ok (.bipush 37, 2) := by decide +kernel
theorem dX12_bush_20 : decode cX12_bush 20 = .ok (.iload_n 1, 1) := by decide +kernel
theorem dX12_bush_21 : decode cX12_bush 21 = .ok (.iadd, 1) := by decide +kernel
theorem dX12_bush_22 : decode cX12_bush 22 = .ok (.iconst 1, 1) := by decide +kernel
theorem dX12_bush_23 : decode cX12_bush 23 = .ok (.aload_n 0, 1) := by decide +kernel
theorem dX12_bush_24 : decode cX12_bush 24 = .ok (.getfield 39, 3) := by decide +kernel
theorem dX12_bush_27 : decode cX12_bush 27 = .ok (.bipush 37, 2) := by decide +kernel
theorem dX12_bush_29 : decode cX12_bush 29 = .ok (.iload_n 1, 1) := by decide +kernel
theorem dX12_bush_30 : decode cX12_bush 30 = .ok (.iadd, 1) := by decide +kernel
theorem dX12_bush_31 : decode cX12_bush 31 = .ok (.iaload, 1) := by decide +kernel
theorem dX12_bush_32 : decode cX12_bush 32 = .ok (.isub, 1) := by decide +kernel
theorem dX12_bush_33 : decode cX12_bush 33 = .ok (.iastore, 1) := by decide +kernel
theorem dX12_bush_34 : decode cX12_bush 34 = .ok (.aload_n 0, 1) := by decide +kernel
theorem dX12_bush_35 : decode cX12_bush 35 = .ok (.getfield 39, 3) := by decide +kernel
theorem dX12_bush_38 : decode cX12_bush 38 = .ok (.bipush 37, 2) := by decide +kernel
theorem dX12_bush_40 : decode cX12_bush 40 = .ok (.iload_n 1, 1) := by decide +kernel
theorem dX12_bush_41 : decode cX12_bush 41 = .ok (.iadd, 1) := by decide +kernel
theorem dX12_bush_42 : decode cX12_bush 42 = .ok (.iaload, 1) := by decide +kernel
theorem dX12_bush_43 : decode cX12_bush 43 = .ok (.ireturn, 1) := by decide +kernel
theorem dX12_keeps_0 : decode cX12_keeps 0 = .ok (.iconst 0, 1) := by decide +kernel
theorem dX12_keeps_1 : decode cX12_keeps 1 = .ok (.istore_n 1, 1) := by decide +kernel
theorem dX12_keeps_2 : decode cX12_keeps 2 = .ok (.iload_n 1, 1) := by decide +kernel
theorem dX12_keeps_3 : decode cX12_keeps 3 = .ok (.bipush 99, 2) := by decide +kernel
theorem dX12_keeps_5 : decode cX12_keeps 5 = .ok (.if_icmp .ge 24, 3) := by decide +kernel
theorem dX12_keeps_8 : decode cX12_keeps 8 = .ok (.aload_n 0, 1) := by decide +kernel
theorem dX12_keeps_9 : decode cX12_keeps 9 = .ok (.getfield 55, 3) := by decide +kernel
theorem dX12_keeps_12 : decode cX12_keeps 12 = .ok (.iload_n 1, 1) := by decide +kernel
theorem dX12_keeps_13 : decode cX12_keeps 13 = .ok (.aload_n 0, 1) := by decide +kernel
theorem dX12_keeps_14 : decode cX12_keeps 14 = .ok (.getfield 39, 3) := by decide +kernel
theorem dX12_keeps_17 : decode cX12_keeps 17 = .ok (.bipush 10, 2) := by decide +kernel
theorem dX12_keeps_19 : decode cX12_keeps 19 = .ok (.iload_n 1, 1) := by decide +kernel
theorem dX12_keeps_20 : decode cX12_keeps 20 = .ok (.iadd, 1) := by decide +kernel
theorem dX12_keeps_21 : decode cX12_keeps 21 = .ok (.iaload, 1) := by decide +kernel
theorem dX12_keeps_22 : decode cX12_keeps 22 = .ok (.iastore, 1) := by decide +kernel
theorem dX12_keeps_23 : decode cX12_keeps 23 = .ok (.iinc 1 1, 3) := by decide +kernel
theorem dX12_keeps_26 : decode cX12_keeps 26 = .ok (.goto (-24), 3) := by decide +kernel
theorem dX12_keeps_29 : decode cX12_keeps 29 = .ok (.return_, 1) := by decide +kernel
theorem dX12_laysBack_0 : decode cX12_laysBack 0 = .ok (.iconst 0, 1) := by decide +kernel
theorem dX12_laysBack_1 : decode cX12_laysBack 1 = .ok (.istore_n 1, 1) := by decide +kernel
theorem dX12_laysBack_2 : decode cX12_laysBack 2 = .ok (.iload_n 1, 1) := by decide +kernel
theorem dX12_laysBack_3 : decode cX12_laysBack 3 = .ok (.bipush 99, 2) := by decide +kernel
theorem dX12_laysBack_5 : decode cX12_laysBack 5 = .ok (.if_icmp .ge 24, 3) := by decide +kernel
theorem dX12_laysBack_8 : decode cX12_laysBack 8 = .ok (.aload_n 0, 1) := by decide +kernel
theorem dX12_laysBack_9 : decode cX12_laysBack 9 = .ok (.getfield 39, 3) := by decide +kernel
theorem dX12_laysBack_12 : decode cX12_laysBack 12 = .ok (.bipush 10, 2) := by decide +kernel
theorem dX12_laysBack_14 : decode cX12_laysBack 14 = .ok (.iload_n 1, 1) := by decide +kernel
theorem dX12_laysBack_15 : decode cX12_laysBack 15 = .ok (.iadd, 1) := by decide +kernel
theorem dX12_laysBack_16 : decode cX12_laysBack 16 = .ok (.aload_n 0, 1) := by decide +kernel
theorem dX12_laysBack_17 : decode cX12_laysBack 17 = .ok (.getfield 55, 3) := by decide +kernel
theorem dX12_laysBack_20 : decode cX12_laysBack 20 = .ok (.iload_n 1, 1) := by decide +kernel
theorem dX12_laysBack_21 : decode cX12_laysBack 21 = .ok (.iaload, 1) := by decide +kernel
theorem dX12_laysBack_22 : decode cX12_laysBack 22 = .ok (.iastore, 1) := by decide +kernel
theorem dX12_laysBack_23 : decode cX12_laysBack 23 = .ok (.iinc 1 1, 3) := by decide +kernel
theorem dX12_laysBack_26 : decode cX12_laysBack 26 = .ok (.goto (-24), 3) := by decide +kernel
theorem dX12_laysBack_29 : decode cX12_laysBack 29 = .ok (.return_, 1) := by decide +kernel
theorem dX12_ahead_0 : decode cX12_ahead 0 = .ok (.aload_n 0, 1) := by decide +kernel
theorem dX12_ahead_1 : decode cX12_ahead 1 = .ok (.invokevirtual 373, 3) := by decide +kernel
theorem dX12_ahead_4 : decode cX12_ahead 4 = .ok (.ifCond .eq 39, 3) := by decide +kernel
theorem dX12_ahead_7 : decode cX12_ahead 7 = .ok (.iload_n 2, 1) := by decide +kernel
theorem dX12_ahead_8 : decode cX12_ahead 8 = .ok (.i2l, 1) := by decide +kernel
theorem dX12_ahead_9 : decode cX12_ahead 9 = .ok (.lconst 0, 1) := by decide +kernel
theorem dX12_ahead_10 : decode cX12_ahead 10 = .ok (.ldc2_w 387, 3) := by decide +kernel
theorem dX12_ahead_13 : decode cX12_ahead 13 = .ok (.invokestatic 136, 3) := by decide +kernel
theorem dX12_ahead_16 : decode cX12_ahead 16 = .ok (.ifCond .eq 27, 3) := by decide +kernel
theorem dX12_ahead_19 : decode cX12_ahead 19 = .ok (.iload_n 3, 1) := by decide +kernel
theorem dX12_ahead_20 : decode cX12_ahead 20 = .ok (.i2l, 1) := by decide +kernel
theorem dX12_ahead_21 : decode cX12_ahead 21 = .ok (.lconst 0, 1) := by decide +kernel
theorem dX12_ahead_22 : decode cX12_ahead 22 = .ok (.ldc2_w 324, 3) := by decide +kernel
theorem dX12_ahead_25 : decode cX12_ahead 25 = .ok (.invokestatic 136, 3) := by decide +kernel
theorem dX12_ahead_28 : decode cX12_ahead 28 = .ok (.ifCond .eq 15, 3) := by decide +kernel
theorem dX12_ahead_31 : decode cX12_ahead 31 = .ok (.iload_n 3, 1) := by decide +kernel
theorem dX12_ahead_32 : decode cX12_ahead 32 = .ok (.ifCond .le 13, 3) := by decide +kernel
theorem dX12_ahead_35 : decode cX12_ahead 35 = .ok (.aload_n 0, 1) := by decide +kernel
theorem dX12_ahead_36 : decode cX12_ahead 36 = .ok (.iload_n 1, 1) := by decide +kernel
theorem dX12_ahead_37 : decode cX12_ahead 37 = .ok (.invokevirtual 316, 3) := by decide +kernel
theorem dX12_ahead_40 : decode cX12_ahead 40 = .ok (.ifCond .ne 5, 3) := by decide +kernel
theorem dX12_ahead_43 : decode cX12_ahead 43 = .ok (.iconst (-1), 1) := by decide +kernel
theorem dX12_ahead_44 : decode cX12_ahead 44 = .ok (.ireturn, 1) := by decide +kernel
theorem dX12_ahead_45 : decode cX12_ahead 45 = .ok (.aload_n 0, 1) := by decide +kernel
theorem dX12_ahead_46 : decode cX12_ahead 46 = .ok (.invokevirtual 389, 3) := by decide +kernel
theorem dX12_ahead_49 : decode cX12_ahead 49 = .ok (.aload_n 0, 1) := by decide +kernel
theorem dX12_ahead_50 : decode cX12_ahead 50 = .ok (.iload_n 2, 1) := by decide +kernel
theorem dX12_ahead_51 : decode cX12_ahead 51 = .ok (.invokevirtual 392, 3) := by decide +kernel
theorem dX12_ahead_54 : decode cX12_ahead 54 = .ok (.iload_n 3, 1) := by decide +kernel
theorem dX12_ahead_55 : decode cX12_ahead 55 = .ok (.ifCond .ne 13, 3) := by decide +kernel
theorem dX12_ahead_58 : decode cX12_ahead 58 = .ok (.aload_n 0, 1) := by decide +kernel
theorem dX12_ahead_59 : decode cX12_ahead 59 = .ok (.getfield 39, 3) := by decide +kernel
theorem dX12_ahead_62 : decode cX12_ahead 62 = .ok (.bipush 11, 2) := by decide +kernel
theorem dX12_ahead_64 : decode cX12_ahead 64 = .ok (.iaload, 1) := by decide +kernel
theorem dX12_ahead_65 : decode cX12_ahead 65 = .ok (.goto 21, 3) := by decide +kernel
theorem dX12_ahead_68 : decode cX12_ahead 68 = .ok (.iload_n 3, 1) := by decide +kernel
theorem dX12_ahead_69 : decode cX12_ahead 69 = .ok (.iconst 1, 1) := by decide +kernel
theorem dX12_ahead_70 : decode cX12_ahead 70 = .ok (.if_icmp .ne 11, 3) := by decide +kernel
theorem dX12_ahead_73 : decode cX12_ahead 73 = .ok (.aload_n 0, 1) := by decide +kernel
theorem dX12_ahead_74 : decode cX12_ahead 74 = .ok (.iload_n 1, 1) := by decide +kernel
theorem dX12_ahead_75 : decode cX12_ahead 75 = .ok (.invokevirtual 303, 3) := by decide +kernel
theorem dX12_ahead_78 : decode cX12_ahead 78 = .ok (.goto 8, 3) := by decide +kernel
theorem dX12_ahead_81 : decode cX12_ahead 81 = .ok (.aload_n 0, 1) := by decide +kernel
theorem dX12_ahead_82 : decode cX12_ahead 82 = .ok (.iload_n 1, 1) := by decide +kernel
theorem dX12_ahead_83 : decode cX12_ahead 83 = .ok (.invokevirtual 395, 3) := by decide +kernel
theorem dX12_ahead_86 : decode cX12_ahead 86 = .ok (.istore 4, 2) := by decide +kernel
theorem dX12_ahead_88 : decode cX12_ahead 88 = .ok (.aload_n 0, 1) := by decide +kernel
theorem dX12_ahead_89 : decode cX12_ahead 89 = .ok (.invokevirtual 398, 3) := by decide +kernel
theorem dX12_ahead_92 : decode cX12_ahead 92 = .ok (.iload 4, 2) := by decide +kernel
theorem dX12_ahead_94 : decode cX12_ahead 94 = .ok (.ireturn, 1) := by decide +kernel
theorem dX12_first_0 : decode cX12_first 0 = .ok (.aload_n 0, 1) := by decide +kernel
theorem dX12_first_1 : decode cX12_first 1 = .ok (.iload_n 1, 1) := by decide +kernel
theorem dX12_first_2 : decode cX12_first 2 = .ok (.invokevirtual 316, 3) := by decide +kernel
theorem dX12_first_5 : decode cX12_first 5 = .ok (.ifCond .ne 5, 3) := by decide +kernel
theorem dX12_first_8 : decode cX12_first 8 = .ok (.iconst (-1), 1) := by decide +kernel
theorem dX12_first_9 : decode cX12_first 9 = .ok (.ireturn, 1) := by decide +kernel
theorem dX12_first_10 : decode cX12_first 10 = .ok (.bipush (-2), 2) := by decide +kernel
theorem dX12_first_12 : decode cX12_first 12 = .ok (.istore_n 2, 1) := by decide +kernel
theorem dX12_first_13 : decode cX12_first 13 = .ok (.aload_n 0, 1) := by decide +kernel
theorem dX12_first_14 : decode cX12_first 14 = .ok (.invokevirtual 389, 3) := by decide +kernel
theorem dX12_first_17 : decode cX12_first 17 = .ok (.iconst 0, 1) := by decide +kernel
theorem dX12_first_18 : decode cX12_first 18 = .ok (.istore_n 3, 1) := by decide +kernel
theorem dX12_first_19 : decode cX12_first 19 = .ok (.iload_n 3, 1) := by decide +kernel
theorem dX12_first_20 : decode cX12_first 20 = .ok (.sipush 200, 3) := by decide +kernel
theorem dX12_first_23 : decode cX12_first 23 = .ok (.if_icmp .ge 34, 3) := by decide +kernel
theorem dX12_first_26 : decode cX12_first 26 = .ok (.iload_n 2, 1) := by decide +kernel
theorem dX12_first_27 : decode cX12_first 27 = .ok (.ifCond .ge 30, 3) := by decide +kernel
theorem dX12_first_30 : decode cX12_first 30 = .ok (.aload_n 0, 1) := by decide +kernel
theorem dX12_first_31 : decode cX12_first 31 = .ok (.invokevirtual 370, 3) := by decide +kernel
theorem dX12_first_34 : decode cX12_first 34 = .ok (.iload_n 1, 1) := by decide +kernel
theorem dX12_first_35 : decode cX12_first 35 = .ok (.invokestatic 364, 3) := by decide +kernel
theorem dX12_first_38 : decode cX12_first 38 = .ok (.ifCond .eq 13, 3) := by decide +kernel
theorem dX12_first_41 : decode cX12_first 41 = .ok (.aload_n 0, 1) := by decide +kernel
theorem dX12_first_42 : decode cX12_first 42 = .ok (.getfield 39, 3) := by decide +kernel
theorem dX12_first_45 : decode cX12_first 45 = .ok (.bipush 10, 2) := by decide +kernel
theorem dX12_first_47 : decode cX12_first 47 = .ok (.iaload, 1) := by decide +kernel
theorem dX12_first_48 : decode cX12_first 48 = .ok (.iconst 1, 1) := by decide +kernel
theorem dX12_first_49 : decode cX12_first 49 = .ok (.isub, 1) := by decide +kernel
theorem dX12_first_50 : decode cX12_first 50 = .ok (.istore_n 2, 1) := by decide +kernel
theorem dX12_first_51 : decode cX12_first 51 = .ok (.iinc 3 1, 3) := by decide +kernel
theorem dX12_first_54 : decode cX12_first 54 = .ok (.goto (-35), 3) := by decide +kernel
theorem dX12_first_57 : decode cX12_first 57 = .ok (.aload_n 0, 1) := by decide +kernel
theorem dX12_first_58 : decode cX12_first 58 = .ok (.invokevirtual 398, 3) := by decide +kernel
theorem dX12_first_61 : decode cX12_first 61 = .ok (.iload_n 2, 1) := by decide +kernel
theorem dX12_first_62 : decode cX12_first 62 = .ok (.ireturn, 1) := by decide +kernel
theorem dX12_way_0 : decode cX12_way 0 = .ok (.aload_n 0, 1) := by decide +kernel
theorem dX12_way_1 : decode cX12_way 1 = .ok (.iload_n 1, 1) := by decide +kernel
theorem dX12_way_2 : decode cX12_way 2 = .ok (.invokevirtual 321, 3) := by decide +kernel
theorem dX12_way_5 : decode cX12_way 5 = .ok (.ifCond .ne 5, 3) := by decide +kernel
theorem dX12_way_8 : decode cX12_way 8 = .ok (.iconst (-1), 1) := by decide +kernel
theorem dX12_way_9 : decode cX12_way 9 = .ok (.ireturn, 1) := by decide +kernel
theorem dX12_way_10 : decode cX12_way 10 = .ok (.aload_n 0, 1) := by decide +kernel
theorem dX12_way_11 : decode cX12_way 11 = .ok (.aload_n 0, 1) := by decide +kernel
theorem dX12_way_12 : decode cX12_way 12 = .ok (.getfield 39, 3) := by decide +kernel
theorem dX12_way_15 : decode cX12_way 15 = .ok (.bipush 11, 2) := by decide +kernel
theorem dX12_way_17 : decode cX12_way 17 = .ok (.iaload, 1) := by decide +kernel
theorem dX12_way_18 : decode cX12_way 18 = .ok (.iload_n 1, 1) := by decide +kernel
theorem dX12_way_19 : decode cX12_way 19 = .ok (.invokevirtual 379, 3) := by decide +kernel
theorem dX12_way_22 : decode cX12_way 22 = .ok (.istore_n 2, 1) := by decide +kernel
theorem dX12_way_23 : decode cX12_way 23 = .ok (.iload_n 2, 1) := by decide +kernel
theorem dX12_way_24 : decode cX12_way 24 = .ok (.bipush 99, 2) := by decide +kernel
theorem dX12_way_26 : decode cX12_way 26 = .ok (.if_icmp .ne 8, 3) := by decide +kernel
theorem dX12_way_29 : decode cX12_way 29 = .ok (.bipush (-2), 2) := by decide +kernel
theorem dX12_way_31 : decode cX12_way 31 = .ok (.goto 4, 3) := by decide +kernel
theorem dX12_way_34 : decode cX12_way 34 = .ok (.iload_n 2, 1) := by decide +kernel
theorem dX12_way_35 : decode cX12_way 35 = .ok (.ireturn, 1) := by decide +kernel
theorem dX12_reach_0 : decode cX12_reach 0 = .ok (.aload_n 0, 1) := by decide +kernel
theorem dX12_reach_1 : decode cX12_reach 1 = .ok (.invokevirtual 373, 3) := by decide +kernel
theorem dX12_reach_4 : decode cX12_reach 4 = .ok (.ifCond .eq 15, 3) := by decide +kernel
theorem dX12_reach_7 : decode cX12_reach 7 = .ok (.iload_n 1, 1) := by decide +kernel
theorem dX12_reach_8 : decode cX12_reach 8 = .ok (.i2l, 1) := by decide +kernel
theorem dX12_reach_9 : decode cX12_reach 9 = .ok (.lconst 0, 1) := by decide +kernel
theorem dX12_reach_10 : decode cX12_reach 10 = .ok (.ldc2_w 401, 3) := by decide +kernel
theorem dX12_reach_13 : decode cX12_reach 13 = .ok (.invokestatic 136, 3) := by decide +kernel
theorem dX12_reach_16 : decode cX12_reach 16 = .ok (.ifCond .ne 5, 3) := by decide +kernel
theorem dX12_reach_19 : decode cX12_reach 19 = .ok (.iconst (-1), 1) := by decide +kernel
theorem dX12_reach_20 : decode cX12_reach 20 = .ok (.ireturn, 1) := by decide +kernel
theorem dX12_reach_21 : decode cX12_reach 21 = .ok (.iconst 0, 1) := by decide +kernel
theorem dX12_reach_22 : decode cX12_reach 22 = .ok (.istore_n 2, 1) := by decide +kernel
theorem dX12_reach_23 : decode cX12_reach 23 = .ok (.aload_n 0, 1) := by decide +kernel
theorem dX12_reach_24 : decode cX12_reach 24 = .ok (.aload_n 0, 1) := by decide +kernel
theorem dX12_reach_25 : decode cX12_reach 25 = .ok (.getfield 39, 3) := by decide +kernel
theorem dX12_reach_28 : decode cX12_reach 28 = .ok (.bipush 11, 2) := by decide +kernel
theorem dX12_reach_30 : decode cX12_reach 30 = .ok (.iaload, 1) := by decide +kernel
theorem dX12_reach_31 : decode cX12_reach 31 = .ok (.invokevirtual 332, 3) := by decide +kernel
theorem dX12_reach_34 : decode cX12_reach 34 = .ok (.iconst 0, 1) := by decide +kernel
theorem dX12_reach_35 : decode cX12_reach 35 = .ok (.istore_n 3, 1) := by decide +kernel
theorem dX12_reach_36 : decode cX12_reach 36 = .ok (.iload_n 3, 1) := by decide +kernel
theorem dX12_reach_37 : decode cX12_reach 37 = .ok (.aload_n 0, 1) := by decide +kernel
theorem dX12_reach_38 : decode cX12_reach 38 = .ok (.invokevirtual 300, 3) := by decide +kernel
theorem dX12_reach_41 : decode cX12_reach 41 = .ok (.if_icmp .ge 27, 3) := by decide +kernel
theorem dX12_reach_44 : decode cX12_reach 44 = .ok (.iload_n 2, 1) := by decide +kernel
theorem dX12_reach_45 : decode cX12_reach 45 = .ok (.aload_n 0, 1) := by decide +kernel
theorem dX12_reach_46 : decode cX12_reach 46 = .ok (.getfield 46, 3) := by decide +kernel
theorem dX12_reach_49 : decode cX12_reach 49 = .ok (.iload_n 3, 1) := by decide +kernel
theorem dX12_reach_50 : decode cX12_reach 50 = .ok (.iaload, 1) := by decide +kernel
theorem dX12_reach_51 : decode cX12_reach 51 = .ok (.iload_n 1, 1) := by decide +kernel
theorem dX12_reach_52 : decode cX12_reach 52 = .ok (.if_icmp .gt 7, 3) := by decide +kernel
theorem dX12_reach_55 : decode cX12_reach 55 = .ok (.iconst 1, 1) := by decide +kernel
theorem dX12_reach_56 : decode cX12_reach 56 = .ok (.goto 4, 3) := by decide +kernel
theorem dX12_reach_59 : decode cX12_reach 59 = .ok (.iconst 0, 1) := by decide +kernel
theorem dX12_reach_60 : decode cX12_reach 60 = .ok (.iadd, 1) := by decide +kernel
theorem dX12_reach_61 : decode cX12_reach 61 = .ok (.istore_n 2, 1) := by decide +kernel
theorem dX12_reach_62 : decode cX12_reach 62 = .ok (.iinc 3 1, 3) := by decide +kernel
theorem dX12_reach_65 : decode cX12_reach 65 = .ok (.goto (-29), 3) := by decide +kernel
theorem dX12_reach_68 : decode cX12_reach 68 = .ok (.iload_n 2, 1) := by decide +kernel
theorem dX12_reach_69 : decode cX12_reach 69 = .ok (.ireturn, 1) := by decide +kernel
theorem dX12_knowsAll_0 : decode cX12_knowsAll 0 = .ok (.aload_n 0, 1) := by decide +kernel
theorem dX12_knowsAll_1 : decode cX12_knowsAll 1 = .ok (.iload_n 1, 1) := by decide +kernel
theorem dX12_knowsAll_2 : decode cX12_knowsAll 2 = .ok (.invokevirtual 316, 3) := by decide +kernel
theorem dX12_knowsAll_5 : decode cX12_knowsAll 5 = .ok (.ifCond .ne 6, 3) := by decide +kernel
theorem dX12_knowsAll_8 : decode cX12_knowsAll 8 = .ok (.bipush (-3), 2) := by decide +kernel
theorem dX12_knowsAll_10 : decode cX12_knowsAll 10 = .ok (.ireturn, 1) := by decide +kernel
theorem dX12_knowsAll_11 : decode cX12_knowsAll 11 = .ok (.iconst 1, 1) := by decide +kernel
theorem dX12_knowsAll_12 : decode cX12_knowsAll 12 = .ok (.aload_n 0, 1) := by decide +kernel
theorem dX12_knowsAll_13 : decode cX12_knowsAll 13 = .ok (.getfield 39, 3) := by decide +kernel
theorem dX12_knowsAll_16 : decode cX12_knowsAll 16 = .ok (.iconst 2, 1) := by decide +kernel
theorem dX12_knowsAll_17 : decode cX12_knowsAll 17 = .ok (.iaload, 1) := by decide +kernel
theorem dX12_knowsAll_18 : decode cX12_knowsAll 18 = .ok (.ishl, 1) := by decide +kernel
theorem dX12_knowsAll_19 : decode cX12_knowsAll 19 = .ok (.iconst 1, 1) := by decide +kernel
theorem dX12_knowsAll_20 : decode cX12_knowsAll 20 = .ok (.isub, 1) := by decide +kernel
theorem dX12_knowsAll_21 : decode cX12_knowsAll 21 = .ok (.istore_n 2, 1) := by decide +kernel
theorem dX12_knowsAll_22 : decode cX12_knowsAll 22 = .ok (.aload_n 0, 1) := by decide +kernel
theorem dX12_knowsAll_23 : decode cX12_knowsAll 23 = .ok (.iload_n 1, 1) := by decide +kernel
theorem dX12_knowsAll_24 : decode cX12_knowsAll 24 = .ok (.invokevirtual 395, 3) := by decide +kernel
theorem dX12_knowsAll_27 : decode cX12_knowsAll 27 = .ok (.iload_n 2, 1) := by decide +kernel
theorem dX12_knowsAll_28 : decode cX12_knowsAll 28 = .ok (.if_icmp .ne 13, 3) := by decide +kernel
theorem dX12_knowsAll_31 : decode cX12_knowsAll 31 = .ok (.aload_n 0, 1) := by decide +kernel
theorem dX12_knowsAll_32 : decode cX12_knowsAll 32 = .ok (.getfield 39, 3) := by decide +kernel
theorem dX12_knowsAll_35 : decode cX12_knowsAll 35 = .ok (.bipush 10, 2) := by decide +kernel
theorem dX12_knowsAll_37 : decode cX12_knowsAll 37 = .ok (.iaload, 1) := by decide +kernel
theorem dX12_knowsAll_38 : decode cX12_knowsAll 38 = .ok (.iconst 1, 1) := by decide +kernel
theorem dX12_knowsAll_39 : decode cX12_knowsAll 39 = .ok (.isub, 1) := by decide +kernel
theorem dX12_knowsAll_40 : decode cX12_knowsAll 40 = .ok (.ireturn, 1) := by decide +kernel
theorem dX12_knowsAll_41 : decode cX12_knowsAll 41 = .ok (.bipush (-2), 2) := by decide +kernel
theorem dX12_knowsAll_43 : decode cX12_knowsAll 43 = .ok (.istore_n 3, 1) := by decide +kernel
theorem dX12_knowsAll_44 : decode cX12_knowsAll 44 = .ok (.aload_n 0, 1) := by decide +kernel
theorem dX12_knowsAll_45 : decode cX12_knowsAll 45 = .ok (.invokevirtual 389, 3) := by decide +kernel
theorem dX12_knowsAll_48 : decode cX12_knowsAll 48 = .ok (.iconst 0, 1) := by decide +kernel
theorem dX12_knowsAll_49 : decode cX12_knowsAll 49 = .ok (.istore 4, 2) := by decide +kernel
theorem dX12_knowsAll_51 : decode cX12_knowsAll 51 = .ok (.iload 4, 2) := by decide +kernel
theorem dX12_knowsAll_53 : decode cX12_knowsAll 53 = .ok (.sipush 200, 3) := by decide +kernel
theorem dX12_knowsAll_56 : decode cX12_knowsAll 56 = .ok (.if_icmp .ge 37, 3) := by decide +kernel
theorem dX12_knowsAll_59 : decode cX12_knowsAll 59 = .ok (.iload_n 3, 1) := by decide +kernel
theorem dX12_knowsAll_60 : decode cX12_knowsAll 60 = .ok (.ifCond .ge 33, 3) := by decide +kernel
theorem dX12_knowsAll_63 : decode cX12_knowsAll 63 = .ok (.aload_n 0, 1) := by decide +kernel
theorem dX12_knowsAll_64 : decode cX12_knowsAll 64 = .ok (.invokevirtual 370, 3) := by decide +kernel
theorem dX12_knowsAll_67 : decode cX12_knowsAll 67 = .ok (.pop, 1) := by decide +kernel
theorem dX12_knowsAll_68 : decode cX12_knowsAll 68 = .ok (.aload_n 0, 1) := by decide +kernel
theorem dX12_knowsAll_69 : decode cX12_knowsAll 69 = .ok (.iload_n 1, 1) := by decide +kernel
theorem dX12_knowsAll_70 : decode cX12_knowsAll 70 = .ok (.invokevirtual 395, 3) := by decide +kernel
theorem dX12_knowsAll_73 : decode cX12_knowsAll 73 = .ok (.iload_n 2, 1) := by decide +kernel
theorem dX12_knowsAll_74 : decode cX12_knowsAll 74 = .ok (.if_icmp .ne 13, 3) := by decide +kernel
theorem dX12_knowsAll_77 : decode cX12_knowsAll 77 = .ok (.aload_n 0, 1) := by decide +kernel
theorem dX12_knowsAll_78 : decode cX12_knowsAll 78 = .ok (.getfield 39, 3) := by decide +kernel
theorem dX12_knowsAll_81 : decode cX12_knowsAll 81 = .ok (.bipush 10, 2) := by decide +kernel
theorem dX12_knowsAll_83 : decode cX12_knowsAll 83 = .ok (.iaload, 1) := by decide +kernel
theorem dX12_knowsAll_84 : decode cX12_knowsAll 84 = .ok (.iconst 1, 1) := by decide +kernel
theorem dX12_knowsAll_85 : decode cX12_knowsAll 85 = .ok (.isub, 1) := by decide +kernel
theorem dX12_knowsAll_86 : decode cX12_knowsAll 86 = .ok (.istore_n 3, 1) := by decide +kernel
theorem dX12_knowsAll_87 : decode cX12_knowsAll 87 = .ok (.iinc 4 1, 3) := by decide +kernel
theorem dX12_knowsAll_90 : decode cX12_knowsAll 90 = .ok (.goto (-39), 3) := by decide +kernel
theorem dX12_knowsAll_93 : decode cX12_knowsAll 93 = .ok (.aload_n 0, 1) := by decide +kernel
theorem dX12_knowsAll_94 : decode cX12_knowsAll 94 = .ok (.invokevirtual 398, 3) := by decide +kernel
theorem dX12_knowsAll_97 : decode cX12_knowsAll 97 = .ok (.iload_n 3, 1) := by decide +kernel
theorem dX12_knowsAll_98 : decode cX12_knowsAll 98 = .ok (.ireturn, 1) := by decide +kernel
theorem dX12_most_0 : decode cX12_most 0 = .ok (.aload_n 0, 1) := by decide +kernel
theorem dX12_most_1 : decode cX12_most 1 = .ok (.invokevirtual 373, 3) := by decide +kernel
theorem dX12_most_4 : decode cX12_most 4 = .ok (.ifCond .eq 25, 3) := by decide +kernel
theorem dX12_most_7 : decode cX12_most 7 = .ok (.iload_n 1, 1) := by decide +kernel
theorem dX12_most_8 : decode cX12_most 8 = .ok (.i2l, 1) := by decide +kernel
theorem dX12_most_9 : decode cX12_most 9 = .ok (.lconst 1, 1) := by decide +kernel
theorem dX12_most_10 : decode cX12_most 10 = .ok (.ldc2_w 387, 3) := by decide +kernel
theorem dX12_most_13 : decode cX12_most 13 = .ok (.invokestatic 136, 3) := by decide +kernel
theorem dX12_most_16 : decode cX12_most 16 = .ok (.ifCond .eq 13, 3) := by decide +kernel
theorem dX12_most_19 : decode cX12_most 19 = .ok (.iload_n 2, 1) := by decide +kernel
theorem dX12_most_20 : decode cX12_most 20 = .ok (.i2l, 1) := by decide +kernel
theorem dX12_most_21 : decode cX12_most 21 = .ok (.lconst 0, 1) := by decide +kernel
theorem dX12_most_22 : decode cX12_most 22 = .ok (.lconst 1, 1) := by decide +kernel
theorem dX12_most_23 : decode cX12_most 23 = .ok (.invokestatic 136, 3) := by decide +kernel
theorem dX12_most_26 : decode cX12_most 26 = .ok (.ifCond .ne 5, 3) := by decide +kernel
theorem dX12_most_29 : decode cX12_most 29 = .ok (.iconst (-1), 1) := by decide +kernel
theorem dX12_most_30 : decode cX12_most 30 = .ok (.ireturn, 1) := by decide +kernel
theorem dX12_most_31 : decode cX12_most 31 = .ok (.bipush (-2), 2) := by decide +kernel
theorem dX12_most_33 : decode cX12_most 33 = .ok (.istore_n 3, 1) := by decide +kernel
theorem dX12_most_34 : decode cX12_most 34 = .ok (.iconst (-1), 1) := by decide +kernel
theorem dX12_most_35 : decode cX12_most 35 = .ok (.istore 4, 2) := by decide +kernel
theorem dX12_most_37 : decode cX12_most 37 = .ok (.aload_n 0, 1) := by decide +kernel
theorem dX12_most_38 : decode cX12_most 38 = .ok (.invokevirtual 389, 3) := by decide +kernel
theorem dX12_most_41 : decode cX12_most 41 = .ok (.aload_n 0, 1) := by decide +kernel
theorem dX12_most_42 : decode cX12_most 42 = .ok (.iload_n 1, 1) := by decide +kernel
theorem dX12_most_43 : decode cX12_most 43 = .ok (.invokevirtual 392, 3) := by decide +kernel
theorem dX12_most_46 : decode cX12_most 46 = .ok (.iconst 0, 1) := by decide +kernel
theorem dX12_most_47 : decode cX12_most 47 = .ok (.istore 5, 2) := by decide +kernel
theorem dX12_most_49 : decode cX12_most 49 = .ok (.iload 5, 2) := by decide +kernel
theorem dX12_most_51 : decode cX12_most 51 = .ok (.aload_n 0, 1) := by decide +kernel
theorem dX12_most_52 : decode cX12_most 52 = .ok (.getfield 39, 3) := by decide +kernel
theorem dX12_most_55 : decode cX12_most 55 = .ok (.iconst 2, 1) := by decide +kernel
theorem dX12_most_56 : decode cX12_most 56 = .ok (.iaload, 1) := by decide +kernel
theorem dX12_most_57 : decode cX12_most 57 = .ok (.if_icmp .ge 52, 3) := by decide +kernel
theorem dX12_most_60 : decode cX12_most 60 = .ok (.aload_n 0, 1) := by decide +kernel
theorem dX12_most_61 : decode cX12_most 61 = .ok (.iload 5, 2) := by decide +kernel
theorem dX12_most_63 : decode cX12_most 63 = .ok (.invokevirtual 303, 3) := by decide +kernel
theorem dX12_most_66 : decode cX12_most 66 = .ok (.aload_n 0, 1) := by decide +kernel
theorem dX12_most_67 : decode cX12_most 67 = .ok (.getfield 55, 3) := by decide +kernel
theorem dX12_most_70 : decode cX12_most 70 = .ok (.bipush 13, 2) := by decide +kernel
theorem dX12_most_72 : decode cX12_most 72 = .ok (.iconst 4, 1) := by decide +kernel
theorem dX12_most_73 : decode cX12_most 73 = .ok (.iload 5, 2) := by decide +kernel
theorem dX12_most_75 : decode cX12_most 75 = .ok (.imul, 1) := by decide +kernel
theorem dX12_most_76 : decode cX12_most 76 = .ok (.iadd, 1) := by decide +kernel
theorem dX12_most_77 : decode cX12_most 77 = .ok (.iconst 2, 1) := by decide +kernel
theorem dX12_most_78 : decode cX12_most 78 = .ok (.iadd, 1) := by decide +kernel
theorem dX12_most_79 : decode cX12_most 79 = .ok (.bipush 10, 2) := by decide +kernel
theorem dX12_most_81 : decode cX12_most 81 = .ok (.isub, 1) := by decide +kernel
theorem dX12_most_82 : decode cX12_most 82 = .ok (.iaload, 1) := by decide +kernel
theorem dX12_most_83 : decode cX12_most 83 = .ok (.isub, 1) := by decide +kernel
theorem dX12_most_84 : decode cX12_most 84 = .ok (.istore 6, 2) := by decide +kernel
theorem dX12_most_86 : decode cX12_most 86 = .ok (.iload 6, 2) := by decide +kernel
theorem dX12_most_88 : decode cX12_most 88 = .ok (.iload 4, 2) := by decide +kernel
theorem dX12_most_90 : decode cX12_most 90 = .ok (.if_icmp .gt 6, 3) := by decide +kernel
theorem dX12_most_93 : decode cX12_most 93 = .ok (.goto 10, 3) := by decide +kernel
theorem dX12_most_96 : decode cX12_most 96 = .ok (.iload 5, 2) := by decide +kernel
theorem dX12_most_98 : decode cX12_most 98 = .ok (.istore_n 3, 1) := by decide +kernel
theorem dX12_most_99 : decode cX12_most 99 = .ok (.iload 6, 2) := by decide +kernel
theorem dX12_most_101 : decode cX12_most 101 = .ok (.istore 4, 2) := by decide +kernel
theorem dX12_most_103 : decode cX12_most 103 = .ok (.iinc 5 1, 3) := by decide +kernel
theorem dX12_most_106 : decode cX12_most 106 = .ok (.goto (-57), 3) := by decide +kernel
theorem dX12_most_109 : decode cX12_most 109 = .ok (.aload_n 0, 1) := by decide +kernel
theorem dX12_most_110 : decode cX12_most 110 = .ok (.invokevirtual 398, 3) := by decide +kernel
theorem dX12_most_113 : decode cX12_most 113 = .ok (.iload_n 2, 1) := by decide +kernel
theorem dX12_most_114 : decode cX12_most 114 = .ok (.ifCond .ne 7, 3) := by decide +kernel
theorem dX12_most_117 : decode cX12_most 117 = .ok (.iload_n 3, 1) := by decide +kernel
theorem dX12_most_118 : decode cX12_most 118 = .ok (.goto 14, 3) := by decide +kernel
theorem dX12_most_121 : decode cX12_most 121 = .ok (.iload 4, 2) := by decide +kernel
theorem dX12_most_123 : decode cX12_most 123 = .ok (.ifCond .ge 7, 3) := by decide +kernel
theorem dX12_most_126 : decode cX12_most 126 = .ok (.iconst 0, 1) := by decide +kernel
theorem dX12_most_127 : decode cX12_most 127 = .ok (.goto 5, 3) := by decide +kernel
theorem dX12_most_130 : decode cX12_most 130 = .ok (.iload 4, 2) := by decide +kernel
theorem dX12_most_132 : decode cX12_most 132 = .ok (.ireturn, 1) := by decide +kernel
theorem dX12_canCut_0 : decode cX12_canCut 0 = .ok (.aload_n 0, 1) := by decide +kernel
theorem dX12_canCut_1 : decode cX12_canCut 1 = .ok (.iload_n 1, 1) := by decide +kernel
theorem dX12_canCut_2 : decode cX12_canCut 2 = .ok (.invokevirtual 329, 3) := by decide +kernel
theorem dX12_canCut_5 : decode cX12_canCut 5 = .ok (.ifCond .ne 27, 3) := by decide +kernel
theorem dX12_canCut_8 : decode cX12_canCut 8 = .ok (.iload_n 1, 1) := by decide +kernel
theorem dX12_canCut_9 : decode cX12_canCut 9 = .ok (.aload_n 0, 1) := by decide +kernel
theorem dX12_canCut_10 : decode cX12_canCut 10 = .ok (.getfield 39, 3) := by decide +kernel
theorem dX12_canCut_13 : decode cX12_canCut 13 = .ok (.bipush 11, 2) := by decide +kernel
theorem dX12_canCut_15 : decode cX12_canCut 15 = .ok (.iaload, 1) := by decide +kernel
theorem dX12_canCut_16 : decode cX12_canCut 16 = .ok (.if_icmp .eq 16, 3) := by decide +kernel
theorem dX12_canCut_19 : decode cX12_canCut 19 = .ok (.iload_n 1, 1) := by decide +kernel
theorem dX12_canCut_20 : decode cX12_canCut 20 = .ok (.aload_n 0, 1) := by decide +kernel
theorem dX12_canCut_21 : decode cX12_canCut 21 = .ok (.iload_n 2, 1) := by decide +kernel
theorem dX12_canCut_22 : decode cX12_canCut 22 = .ok (.invokevirtual 306, 3) := by decide +kernel
theorem dX12_canCut_25 : decode cX12_canCut 25 = .ok (.if_icmp .eq 7, 3) := by decide +kernel
theorem dX12_canCut_28 : decode cX12_canCut 28 = .ok (.iconst 1, 1) := by decide +kernel
theorem dX12_canCut_29 : decode cX12_canCut 29 = .ok (.goto 4, 3) := by decide +kernel
theorem dX12_canCut_32 : decode cX12_canCut 32 = .ok (.iconst 0, 1) := by decide +kernel
theorem dX12_canCut_33 : decode cX12_canCut 33 = .ok (.ireturn, 1) := by decide +kernel
theorem dX12_isCutBy_0 : decode cX12_isCutBy 0 = .ok (.iconst 0, 1) := by decide +kernel
theorem dX12_isCutBy_1 : decode cX12_isCutBy 1 = .ok (.istore_n 3, 1) := by decide +kernel
theorem dX12_isCutBy_2 : decode cX12_isCutBy 2 = .ok (.aload_n 0, 1) := by decide +kernel
theorem dX12_isCutBy_3 : decode cX12_isCutBy 3 = .ok (.getfield 58, 3) := by decide +kernel
theorem dX12_isCutBy_6 : decode cX12_isCutBy 6 = .ok (.iconst 0, 1) := by decide +kernel
theorem dX12_isCutBy_7 : decode cX12_isCutBy 7 = .ok (.iconst (-1), 1) := by decide +kernel
theorem dX12_isCutBy_8 : decode cX12_isCutBy 8 = .ok (.iastore, 1) := by decide +kernel
theorem dX12_isCutBy_9 : decode cX12_isCutBy 9 = .ok (.aload_n 0, 1) := by decide +kernel
theorem dX12_isCutBy_10 : decode cX12_isCutBy 10 = .ok (.getfield 61, 3) := by decide +kernel
theorem dX12_isCutBy_13 : decode cX12_isCutBy 13 = .ok (.iconst 0, 1) := by decide +kernel
theorem dX12_isCutBy_14 : decode cX12_isCutBy 14 = .ok (.iconst 0, 1) := by decide +kernel
theorem dX12_isCutBy_15 : decode cX12_isCutBy 15 = .ok (.bastore, 1) := by decide +kernel
theorem dX12_isCutBy_16 : decode cX12_isCutBy 16 = .ok (.iload_n 3, 1) := by decide +kernel
theorem dX12_isCutBy_17 : decode cX12_isCutBy 17 = .ok (.ifCond .lt 192, 3) := by decide +kernel
theorem dX12_isCutBy_20 : decode cX12_isCutBy 20 = .ok (.iload_n 3, 1) := by decide +kernel
theorem dX12_isCutBy_21 : decode cX12_isCutBy 21 = .ok (.iload_n 2, 1) := by decide +kernel
theorem dX12_isCutBy_22 : decode cX12_isCutBy 22 = .ok (.if_icmp .ne 32, 3) := by decide +kernel
theorem dX12_isCutBy_25 : decode cX12_isCutBy 25 = .ok (.aload_n 0, 1) := by decide +kernel
theorem dX12_isCutBy_26 : decode cX12_isCutBy 26 = .ok (.aload_n 0, 1) := by decide +kernel
theorem dX12_isCutBy_27 : decode cX12_isCutBy 27 = .ok (.getfield 39, 3) := by decide +kernel
theorem dX12_isCutBy_30 : decode cX12_isCutBy 30 = .ok (.bipush 11, 2) := by decide +kernel
theorem dX12_isCutBy_32 : decode cX12_isCutBy 32 = .ok (.iaload, 1) := by decide +kernel
theorem dX12_isCutBy_33 : decode cX12_isCutBy 33 = .ok (.aload_n 0, 1) := by decide +kernel
theorem dX12_isCutBy_34 : decode cX12_isCutBy 34 = .ok (.iload_n 1, 1) := by decide +kernel
theorem dX12_isCutBy_35 : decode cX12_isCutBy 35 = .ok (.invokevirtual 306, 3) := by decide +kernel
theorem dX12_isCutBy_38 : decode cX12_isCutBy 38 = .ok (.invokevirtual 379, 3) := by decide +kernel
theorem dX12_isCutBy_41 : decode cX12_isCutBy 41 = .ok (.bipush 99, 2) := by decide +kernel
theorem dX12_isCutBy_43 : decode cX12_isCutBy 43 = .ok (.if_icmp .ne 5, 3) := by decide +kernel
theorem dX12_isCutBy_46 : decode cX12_isCutBy 46 = .ok (.iconst 1, 1) := by decide +kernel
theorem dX12_isCutBy_47 : decode cX12_isCutBy 47 = .ok (.ireturn, 1) := by decide +kernel
theorem dX12_isCutBy_48 : decode cX12_isCutBy 48 = .ok (.iinc 3 (-1), 3) := by decide +kernel
theorem dX12_isCutBy_51 : decode cX12_isCutBy 51 = .ok (.goto (-35), 3) := by decide +kernel
theorem dX12_isCutBy_54 : decode cX12_isCutBy 54 = .ok (.aload_n 0, 1) := by decide +kernel
theorem dX12_isCutBy_55 : decode cX12_isCutBy 55 = .ok (.getfield 61, 3) := by decide +kernel
theorem dX12_isCutBy_58 : decode cX12_isCutBy 58 = .ok (.iload_n 3, 1) := by decide +kernel
theorem dX12_isCutBy_59 : decode cX12_isCutBy 59 = .ok (.baload, 1) := by decide +kernel
theorem dX12_isCutBy_60 : decode cX12_isCutBy 60 = .ok (.ifCond .eq 18, 3) := by decide +kernel
theorem dX12_isCutBy_63 : decode cX12_isCutBy 63 = .ok (.aload_n 0, 1) := by decide +kernel
theorem dX12_isCutBy_64 : decode cX12_isCutBy 64 = .ok (.getfield 39, 3) := by decide +kernel
theorem dX12_isCutBy_67 : decode cX12_isCutBy 67 = .ok (.bipush 37, 2) := by decide +kernel
theorem dX12_isCutBy_69 : decode cX12_isCutBy 69 = .ok (.aload_n 0, 1) := by decide +kernel
theorem dX12_isCutBy_70 : decode cX12_isCutBy 70 = .ok (.getfield 58, 3) := by decide +kernel
theorem dX12_isCutBy_73 : decode cX12_isCutBy 73 = .ok (.iload_n 3, 1) := by decide +kernel
theorem dX12_isCutBy_74 : decode cX12_isCutBy 74 = .ok (.iaload, 1) := by decide +kernel
theorem dX12_isCutBy_75 : decode cX12_isCutBy 75 = .ok (.iadd, 1) := by decide +kernel
theorem dX12_isCutBy_76 : decode cX12_isCutBy 76 = .ok (.iconst 0, 1) := by decide +kernel
theorem dX12_isCutBy_77 : decode cX12_isCutBy 77 = .ok (.iastore, 1) := by decide +kernel
theorem dX12_isCutBy_78 : decode cX12_isCutBy 78 = .ok (.aload_n 0, 1) := by decide +kernel
theorem dX12_isCutBy_79 : decode cX12_isCutBy 79 = .ok (.getfield 58, 3) := by decide +kernel
theorem dX12_isCutBy_82 : decode cX12_isCutBy 82 = .ok (.iload_n 3, 1) := by decide +kernel
theorem dX12_isCutBy_83 : decode cX12_isCutBy 83 = .ok (.dup2, 1) := by decide +kernel
theorem dX12_isCutBy_84 : decode cX12_isCutBy 84 = .ok (.iaload, 1) := by decide +kernel
theorem dX12_isCutBy_85 : decode cX12_isCutBy 85 = .ok (.iconst 1, 1) := by decide +kernel
theorem dX12_isCutBy_86 : decode cX12_isCutBy 86 = .ok (.iadd, 1) := by decide +kernel
theorem dX12_isCutBy_87 : decode cX12_isCutBy 87 = .ok (.iastore, 1) := by decide +kernel
theorem dX12_isCutBy_88 : decode cX12_isCutBy 88 = .ok (.aload_n 0, 1) := by decide +kernel
theorem dX12_isCutBy_89 : decode cX12_isCutBy 89 = .ok (.getfield 58, 3) := by decide +kernel
theorem dX12_isCutBy_92 : decode cX12_isCutBy 92 = .ok (.iload_n 3, 1) := by decide +kernel
theorem dX12_isCutBy_93 : decode cX12_isCutBy 93 = .ok (.iaload, 1) := by decide +kernel
theorem dX12_isCutBy_94 : decode cX12_isCutBy 94 = .ok (.aload_n 0, 1) := by decide +kernel
theorem dX12_isCutBy_95 : decode cX12_isCutBy 95 = .ok (.invokevirtual 300, 3) := by decide +kernel
theorem dX12_isCutBy_98 : decode cX12_isCutBy 98 = .ok (.if_icmp .ge 30, 3) := by decide +kernel
theorem dX12_isCutBy_101 : decode cX12_isCutBy 101 = .ok (.aload_n 0, 1) := by decide +kernel
theorem dX12_isCutBy_102 : decode cX12_isCutBy 102 = .ok (.aload_n 0, 1) := by decide +kernel
theorem dX12_isCutBy_103 : decode cX12_isCutBy 103 = .ok (.getfield 58, 3) := by decide +kernel
theorem dX12_isCutBy_106 : decode cX12_isCutBy 106 = .ok (.iload_n 3, 1) := by decide +kernel
theorem dX12_isCutBy_107 : decode cX12_isCutBy 107 = .ok (.iaload, 1) := by decide +kernel
theorem dX12_isCutBy_108 : decode cX12_isCutBy 108 = .ok (.iload_n 1, 1) := by decide +kernel
theorem dX12_isCutBy_109 : decode cX12_isCutBy 109 = .ok (.invokevirtual 403, 3) := by decide +kernel
theorem dX12_isCutBy_112 : decode cX12_isCutBy 112 = .ok (.ifCond .ne 16, 3) := by decide +kernel
theorem dX12_isCutBy_115 : decode cX12_isCutBy 115 = .ok (.aload_n 0, 1) := by decide +kernel
theorem dX12_isCutBy_116 : decode cX12_isCutBy 116 = .ok (.getfield 58, 3) := by decide +kernel
theorem dX12_isCutBy_119 : decode cX12_isCutBy 119 = .ok (.iload_n 3, 1) := by decide +kernel
theorem dX12_isCutBy_120 : decode cX12_isCutBy 120 = .ok (.dup2, 1) := by decide +kernel
theorem dX12_isCutBy_121 : decode cX12_isCutBy 121 = .ok (.iaload, 1) := by decide +kernel
theorem dX12_isCutBy_122 : decode cX12_isCutBy 122 = .ok (.iconst 1, 1) := by decide +kernel
theorem dX12_isCutBy_123 : decode cX12_isCutBy 123 = .ok (.iadd, 1) := by decide +kernel
theorem dX12_isCutBy_124 : decode cX12_isCutBy 124 = .ok (.iastore, 1) := by decide +kernel
theorem dX12_isCutBy_125 : decode cX12_isCutBy 125 = .ok (.goto (-37), 3) := by decide +kernel
theorem dX12_isCutBy_128 : decode cX12_isCutBy 128 = .ok (.aload_n 0, 1) := by decide +kernel
theorem dX12_isCutBy_129 : decode cX12_isCutBy 129 = .ok (.getfield 61, 3) := by decide +kernel
theorem dX12_isCutBy_132 : decode cX12_isCutBy 132 = .ok (.iload_n 3, 1) := by decide +kernel
theorem dX12_isCutBy_133 : decode cX12_isCutBy 133 = .ok (.aload_n 0, 1) := by decide +kernel
theorem dX12_isCutBy_134 : decode cX12_isCutBy 134 = .ok (.getfield 58, 3) := by decide +kernel
theorem dX12_isCutBy_137 : decode cX12_isCutBy 137 = .ok (.iload_n 3, 1) := by decide +kernel
theorem dX12_isCutBy_138 : decode cX12_isCutBy 138 = .ok (.iaload, 1) := by decide +kernel
theorem dX12_isCutBy_139 : decode cX12_isCutBy 139 = .ok (.aload_n 0, 1) := by decide +kernel
theorem dX12_isCutBy_140 : decode cX12_isCutBy 140 = .ok (.invokevirtual 300, 3) := by decide +kernel
theorem dX12_isCutBy_143 : decode cX12_isCutBy 143 = .ok (.if_icmp .ge 7, 3) := by decide +kernel
theorem dX12_isCutBy_146 : decode cX12_isCutBy 146 = .ok (.iconst 1, 1) := by decide +kernel
theorem dX12_isCutBy_147 : decode cX12_isCutBy 147 = .ok (.goto 4, 3) := by decide +kernel
theorem dX12_isCutBy_150 : decode cX12_isCutBy 150 = .ok (.iconst 0, 1) := by decide +kernel
theorem dX12_isCutBy_151 : decode cX12_isCutBy 151 = .ok (.bastore, 1) := by decide +kernel
theorem dX12_isCutBy_152 : decode cX12_isCutBy 152 = .ok (.aload_n 0, 1) := by decide +kernel
theorem dX12_isCutBy_153 : decode cX12_isCutBy 153 = .ok (.getfield 61, 3) := by decide +kernel
theorem dX12_isCutBy_156 : decode cX12_isCutBy 156 = .ok (.iload_n 3, 1) := by decide +kernel
theorem dX12_isCutBy_157 : decode cX12_isCutBy 157 = .ok (.baload, 1) := by decide +kernel
theorem dX12_isCutBy_158 : decode cX12_isCutBy 158 = .ok (.ifCond .ne 9, 3) := by decide +kernel
theorem dX12_isCutBy_161 : decode cX12_isCutBy 161 = .ok (.iinc 3 (-1), 3) := by decide +kernel
theorem dX12_isCutBy_164 : decode cX12_isCutBy 164 = .ok (.goto (-148), 3) := by decide +kernel
theorem dX12_isCutBy_167 : decode cX12_isCutBy 167 = .ok (.aload_n 0, 1) := by decide +kernel
theorem dX12_isCutBy_168 : decode cX12_isCutBy 168 = .ok (.getfield 39, 3) := by decide +kernel
theorem dX12_isCutBy_171 : decode cX12_isCutBy 171 = .ok (.bipush 37, 2) := by decide +kernel
theorem dX12_isCutBy_173 : decode cX12_isCutBy 173 = .ok (.aload_n 0, 1) := by decide +kernel
theorem dX12_isCutBy_174 : decode cX12_isCutBy 174 = .ok (.getfield 58, 3) := by decide +kernel
theorem dX12_isCutBy_177 : decode cX12_isCutBy 177 = .ok (.iload_n 3, 1) := by decide +kernel
theorem dX12_isCutBy_178 : decode cX12_isCutBy 178 = .ok (.iaload, 1) := by decide +kernel
theorem dX12_isCutBy_179 : decode cX12_isCutBy 179 = .ok (.iadd, 1) := by decide +kernel
theorem dX12_isCutBy_180 : decode cX12_isCutBy 180 = .ok (.iconst 1, 1) := by decide +kernel
theorem dX12_isCutBy_181 : decode cX12_isCutBy 181 = .ok (.iastore, 1) := by decide +kernel
theorem dX12_isCutBy_182 : decode cX12_isCutBy 182 = .ok (.iinc 3 1, 3) := by decide +kernel
theorem dX12_isCutBy_185 : decode cX12_isCutBy 185 = .ok (.aload_n 0, 1) := by decide +kernel
theorem dX12_isCutBy_186 : decode cX12_isCutBy 186 = .ok (.getfield 58, 3) := by decide +kernel
theorem dX12_isCutBy_189 : decode cX12_isCutBy 189 = .ok (.iload_n 3, 1) := by decide +kernel
theorem dX12_isCutBy_190 : decode cX12_isCutBy 190 = .ok (.aload_n 0, 1) := by decide +kernel
theorem dX12_isCutBy_191 : decode cX12_isCutBy 191 = .ok (.getfield 58, 3) := by decide +kernel
theorem dX12_isCutBy_194 : decode cX12_isCutBy 194 = .ok (.iload_n 3, 1) := by decide +kernel
theorem dX12_isCutBy_195 : decode cX12_isCutBy 195 = .ok (.iconst 1, 1) := by decide +kernel
theorem dX12_isCutBy_196 : decode cX12_isCutBy 196 = .ok (.isub, 1) := by decide +kernel
theorem dX12_isCutBy_197 : decode cX12_isCutBy 197 = .ok (.iaload, 1) := by decide +kernel
theorem dX12_isCutBy_198 : decode cX12_isCutBy 198 = .ok (.iastore, 1) := by decide +kernel
theorem dX12_isCutBy_199 : decode cX12_isCutBy 199 = .ok (.aload_n 0, 1) := by decide +kernel
theorem dX12_isCutBy_200 : decode cX12_isCutBy 200 = .ok (.getfield 61, 3) := by decide +kernel
theorem dX12_isCutBy_203 : decode cX12_isCutBy 203 = .ok (.iload_n 3, 1) := by decide +kernel
theorem dX12_isCutBy_204 : decode cX12_isCutBy 204 = .ok (.iconst 0, 1) := by decide +kernel
theorem dX12_isCutBy_205 : decode cX12_isCutBy 205 = .ok (.bastore, 1) := by decide +kernel
theorem dX12_isCutBy_206 : decode cX12_isCutBy 206 = .ok (.goto (-190), 3) := by decide +kernel
theorem dX12_isCutBy_209 : decode cX12_isCutBy 209 = .ok (.iconst 0, 1) := by decide +kernel
theorem dX12_isCutBy_210 : decode cX12_isCutBy 210 = .ok (.ireturn, 1) := by decide +kernel
theorem dX12_cutsOf_0 : decode cX12_cutsOf 0 = .ok (.bipush (-2), 2) := by decide +kernel
theorem dX12_cutsOf_2 : decode cX12_cutsOf 2 = .ok (.istore_n 2, 1) := by decide +kernel
theorem dX12_cutsOf_3 : decode cX12_cutsOf 3 = .ok (.aload_n 0, 1) := by decide +kernel
theorem dX12_cutsOf_4 : decode cX12_cutsOf 4 = .ok (.invokevirtual 389, 3) := by decide +kernel
theorem dX12_cutsOf_7 : decode cX12_cutsOf 7 = .ok (.iconst 0, 1) := by decide +kernel
theorem dX12_cutsOf_8 : decode cX12_cutsOf 8 = .ok (.istore_n 3, 1) := by decide +kernel
theorem dX12_cutsOf_9 : decode cX12_cutsOf 9 = .ok (.iload_n 3, 1) := by decide +kernel
theorem dX12_cutsOf_10 : decode cX12_cutsOf 10 = .ok (.iconst 3, 1) := by decide +kernel
theorem dX12_cutsOf_11 : decode cX12_cutsOf 11 = .ok (.if_icmp .gt 28, 3) := by decide +kernel
theorem dX12_cutsOf_14 : decode cX12_cutsOf 14 = .ok (.iload_n 2, 1) := by decide +kernel
theorem dX12_cutsOf_15 : decode cX12_cutsOf 15 = .ok (.ifCond .ge 24, 3) := by decide +kernel
theorem dX12_cutsOf_18 : decode cX12_cutsOf 18 = .ok (.aload_n 0, 1) := by decide +kernel
theorem dX12_cutsOf_19 : decode cX12_cutsOf 19 = .ok (.iload_n 1, 1) := by decide +kernel
theorem dX12_cutsOf_20 : decode cX12_cutsOf 20 = .ok (.iload_n 3, 1) := by decide +kernel
theorem dX12_cutsOf_21 : decode cX12_cutsOf 21 = .ok (.invokevirtual 406, 3) := by decide +kernel
theorem dX12_cutsOf_24 : decode cX12_cutsOf 24 = .ok (.ifCond .eq 5, 3) := by decide +kernel
theorem dX12_cutsOf_27 : decode cX12_cutsOf 27 = .ok (.iload_n 3, 1) := by decide +kernel
theorem dX12_cutsOf_28 : decode cX12_cutsOf 28 = .ok (.istore_n 2, 1) := by decide +kernel
theorem dX12_cutsOf_29 : decode cX12_cutsOf 29 = .ok (.aload_n 0, 1) := by decide +kernel
theorem dX12_cutsOf_30 : decode cX12_cutsOf 30 = .ok (.invokevirtual 398, 3) := by decide +kernel
theorem dX12_cutsOf_33 : decode cX12_cutsOf 33 = .ok (.iinc 3 1, 3) := by decide +kernel
theorem dX12_cutsOf_36 : decode cX12_cutsOf 36 = .ok (.goto (-27), 3) := by decide +kernel
theorem dX12_cutsOf_39 : decode cX12_cutsOf 39 = .ok (.iload_n 2, 1) := by decide +kernel
theorem dX12_cutsOf_40 : decode cX12_cutsOf 40 = .ok (.ireturn, 1) := by decide +kernel
theorem dX12_cut_0 : decode cX12_cut 0 = .ok (.aload_n 0, 1) := by decide +kernel
theorem dX12_cut_1 : decode cX12_cut 1 = .ok (.iload_n 1, 1) := by decide +kernel
theorem dX12_cut_2 : decode cX12_cut 2 = .ok (.invokevirtual 316, 3) := by decide +kernel
theorem dX12_cut_5 : decode cX12_cut 5 = .ok (.ifCond .eq 15, 3) := by decide +kernel
theorem dX12_cut_8 : decode cX12_cut 8 = .ok (.iload_n 2, 1) := by decide +kernel
theorem dX12_cut_9 : decode cX12_cut 9 = .ok (.i2l, 1) := by decide +kernel
theorem dX12_cut_10 : decode cX12_cut 10 = .ok (.lconst 0, 1) := by decide +kernel
theorem dX12_cut_11 : decode cX12_cut 11 = .ok (.ldc2_w 319, 3) := by decide +kernel
theorem dX12_cut_14 : decode cX12_cut 14 = .ok (.invokestatic 136, 3) := by decide +kernel
theorem dX12_cut_17 : decode cX12_cut 17 = .ok (.ifCond .ne 5, 3) := by decide +kernel
theorem dX12_cut_20 : decode cX12_cut 20 = .ok (.iconst (-1), 1) := by decide +kernel
theorem dX12_cut_21 : decode cX12_cut 21 = .ok (.ireturn, 1) := by decide +kernel
theorem dX12_cut_22 : decode cX12_cut 22 = .ok (.aload_n 0, 1) := by decide +kernel
theorem dX12_cut_23 : decode cX12_cut 23 = .ok (.iload_n 1, 1) := by decide +kernel
theorem dX12_cut_24 : decode cX12_cut 24 = .ok (.invokevirtual 409, 3) := by decide +kernel
theorem dX12_cut_27 : decode cX12_cut 27 = .ok (.istore_n 3, 1) := by decide +kernel
theorem dX12_cut_28 : decode cX12_cut 28 = .ok (.iload_n 2, 1) := by decide +kernel
theorem dX12_cut_29 : decode cX12_cut 29 = .ok (.ifCond .eq 7, 3) := by decide +kernel
theorem dX12_cut_32 : decode cX12_cut 32 = .ok (.iload_n 3, 1) := by decide +kernel
theorem dX12_cut_33 : decode cX12_cut 33 = .ok (.ifCond .ge 7, 3) := by decide +kernel
theorem dX12_cut_36 : decode cX12_cut 36 = .ok (.iload_n 3, 1) := by decide +kernel
theorem dX12_cut_37 : decode cX12_cut 37 = .ok (.goto 21, 3) := by decide +kernel
theorem dX12_cut_40 : decode cX12_cut 40 = .ok (.iload_n 2, 1) := by decide +kernel
theorem dX12_cut_41 : decode cX12_cut 41 = .ok (.iload_n 3, 1) := by decide +kernel
theorem dX12_cut_42 : decode cX12_cut 42 = .ok (.if_icmp .gt 14, 3) := by decide +kernel
theorem dX12_cut_45 : decode cX12_cut 45 = .ok (.aload_n 0, 1) := by decide +kernel
theorem dX12_cut_46 : decode cX12_cut 46 = .ok (.getfield 58, 3) := by decide +kernel
theorem dX12_cut_49 : decode cX12_cut 49 = .ok (.iload_n 2, 1) := by decide +kernel
theorem dX12_cut_50 : decode cX12_cut 50 = .ok (.iconst 1, 1) := by decide +kernel
theorem dX12_cut_51 : decode cX12_cut 51 = .ok (.isub, 1) := by decide +kernel
theorem dX12_cut_52 : decode cX12_cut 52 = .ok (.iaload, 1) := by decide +kernel
theorem dX12_cut_53 : decode cX12_cut 53 = .ok (.goto 5, 3) := by decide +kernel
theorem dX12_cut_56 : decode cX12_cut 56 = .ok (.bipush (-2), 2) := by decide +kernel
theorem dX12_cut_58 : decode cX12_cut 58 = .ok (.ireturn, 1) := by decide +kernel
theorem dX12_hide_0 : decode cX12_hide 0 = .ok (.aload_n 0, 1) := by decide +kernel
theorem dX12_hide_1 : decode cX12_hide 1 = .ok (.iload_n 1, 1) := by decide +kernel
theorem dX12_hide_2 : decode cX12_hide 2 = .ok (.invokevirtual 316, 3) := by decide +kernel
theorem dX12_hide_5 : decode cX12_hide 5 = .ok (.ifCond .eq 25, 3) := by decide +kernel
theorem dX12_hide_8 : decode cX12_hide 8 = .ok (.iload_n 2, 1) := by decide +kernel
theorem dX12_hide_9 : decode cX12_hide 9 = .ok (.i2l, 1) := by decide +kernel
theorem dX12_hide_10 : decode cX12_hide 10 = .ok (.lconst 1, 1) := by decide +kernel
theorem dX12_hide_11 : decode cX12_hide 11 = .ok (.ldc2_w 412, 3) := by decide +kernel
theorem dX12_hide_14 : decode cX12_hide 14 = .ok (.invokestatic 136, 3) := by decide +kernel
theorem dX12_hide_17 : decode cX12_hide 17 = .ok (.ifCond .eq 13, 3) := by decide +kernel
theorem dX12_hide_20 : decode cX12_hide 20 = .ok (.iload_n 3, 1) := by decide +kernel
theorem dX12_hide_21 : decode cX12_hide 21 = .ok (.i2l, 1) := by decide +kernel
theorem dX12_hide_22 : decode cX12_hide 22 = .ok (.lconst 0, 1) := by decide +kernel
theorem dX12_hide_23 : decode cX12_hide 23 = .ok (.lconst 1, 1) := by decide +kernel
theorem dX12_hide_24 : decode cX12_hide 24 = .ok (.invokestatic 136, 3) := by decide +kernel
theorem dX12_hide_27 : decode cX12_hide 27 = .ok (.ifCond .ne 5, 3) := by decide +kernel
theorem dX12_hide_30 : decode cX12_hide 30 = .ok (.iconst (-1), 1) := by decide +kernel
theorem dX12_hide_31 : decode cX12_hide 31 = .ok (.ireturn, 1) := by decide +kernel
theorem dX12_hide_32 : decode cX12_hide 32 = .ok (.aload_n 0, 1) := by decide +kernel
theorem dX12_hide_33 : decode cX12_hide 33 = .ok (.iload_n 1, 1) := by decide +kernel
theorem dX12_hide_34 : decode cX12_hide 34 = .ok (.invokevirtual 303, 3) := by decide +kernel
theorem dX12_hide_37 : decode cX12_hide 37 = .ok (.istore 4, 2) := by decide +kernel
theorem dX12_hide_39 : decode cX12_hide 39 = .ok (.iconst (-1), 1) := by decide +kernel
theorem dX12_hide_40 : decode cX12_hide 40 = .ok (.istore 5, 2) := by decide +kernel
theorem dX12_hide_42 : decode cX12_hide 42 = .ok (.iconst (-1), 1) := by decide +kernel
theorem dX12_hide_43 : decode cX12_hide 43 = .ok (.istore 6, 2) := by decide +kernel
theorem dX12_hide_45 : decode cX12_hide 45 = .ok (.aload_n 0, 1) := by decide +kernel
theorem dX12_hide_46 : decode cX12_hide 46 = .ok (.invokevirtual 389, 3) := by decide +kernel
theorem dX12_hide_49 : decode cX12_hide 49 = .ok (.iconst 0, 1) := by decide +kernel
theorem dX12_hide_50 : decode cX12_hide 50 = .ok (.istore 7, 2) := by decide +kernel
theorem dX12_hide_52 : decode cX12_hide 52 = .ok (.iload 7, 2) := by decide +kernel
theorem dX12_hide_54 : decode cX12_hide 54 = .ok (.aload_n 0, 1) := by decide +kernel
theorem dX12_hide_55 : decode cX12_hide 55 = .ok (.invokevirtual 300, 3) := by decide +kernel
theorem dX12_hide_58 : decode cX12_hide 58 = .ok (.if_icmp .ge 64, 3) := by decide +kernel
theorem dX12_hide_61 : decode cX12_hide 61 = .ok (.aload_n 0, 1) := by decide +kernel
theorem dX12_hide_62 : decode cX12_hide 62 = .ok (.getfield 39, 3) := by decide +kernel
theorem dX12_hide_65 : decode cX12_hide 65 = .ok (.bipush 13, 2) := by decide +kernel
theorem dX12_hide_67 : decode cX12_hide 67 = .ok (.iconst 4, 1) := by decide +kernel
theorem dX12_hide_68 : decode cX12_hide 68 = .ok (.iload_n 1, 1) := by decide +kernel
theorem dX12_hide_69 : decode cX12_hide 69 = .ok (.imul, 1) := by decide +kernel
theorem dX12_hide_70 : decode cX12_hide 70 = .ok (.iadd, 1) := by decide +kernel
theorem dX12_hide_71 : decode cX12_hide 71 = .ok (.iload 7, 2) := by decide +kernel
theorem dX12_hide_73 : decode cX12_hide 73 = .ok (.iastore, 1) := by decide +kernel
theorem dX12_hide_74 : decode cX12_hide 74 = .ok (.aload_n 0, 1) := by decide +kernel
theorem dX12_hide_75 : decode cX12_hide 75 = .ok (.iload_n 2, 1) := by decide +kernel
theorem dX12_hide_76 : decode cX12_hide 76 = .ok (.invokevirtual 392, 3) := by decide +kernel
theorem dX12_hide_79 : decode cX12_hide 79 = .ok (.aload_n 0, 1) := by decide +kernel
theorem dX12_hide_80 : decode cX12_hide 80 = .ok (.iload_n 1, 1) := by decide +kernel
theorem dX12_hide_81 : decode cX12_hide 81 = .ok (.invokevirtual 303, 3) := by decide +kernel
theorem dX12_hide_84 : decode cX12_hide 84 = .ok (.iload 4, 2) := by decide +kernel
theorem dX12_hide_86 : decode cX12_hide 86 = .ok (.isub, 1) := by decide +kernel
theorem dX12_hide_87 : decode cX12_hide 87 = .ok (.istore 8, 2) := by decide +kernel
theorem dX12_hide_89 : decode cX12_hide 89 = .ok (.aload_n 0, 1) := by decide +kernel
theorem dX12_hide_90 : decode cX12_hide 90 = .ok (.invokevirtual 398, 3) := by decide +kernel
theorem dX12_hide_93 : decode cX12_hide 93 = .ok (.iload 5, 2) := by decide +kernel
theorem dX12_hide_95 : decode cX12_hide 95 = .ok (.ifCond .lt 13, 3) := by decide +kernel
theorem dX12_hide_98 : decode cX12_hide 98 = .ok (.iload 8, 2) := by decide +kernel
theorem dX12_hide_100 : decode cX12_hide 100 = .ok (.iload 6, 2) := by decide +kernel
theorem dX12_hide_102 : decode cX12_hide 102 = .ok (.if_icmp .lt 6, 3) := by decide +kernel
theorem dX12_hide_105 : decode cX12_hide 105 = .ok (.goto 11, 3) := by decide +kernel
theorem dX12_hide_108 : decode cX12_hide 108 = .ok (.iload 7, 2) := by decide +kernel
theorem dX12_hide_110 : decode cX12_hide 110 = .ok (.istore 5, 2) := by decide +kernel
theorem dX12_hide_112 : decode cX12_hide 112 = .ok (.iload 8, 2) := by decide +kernel
theorem dX12_hide_114 : decode cX12_hide 114 = .ok (.istore 6, 2) := by decide +kernel
theorem dX12_hide_116 : decode cX12_hide 116 = .ok (.iinc 7 1, 3) := by decide +kernel
theorem dX12_hide_119 : decode cX12_hide 119 = .ok (.goto (-67), 3) := by decide +kernel
theorem dX12_hide_122 : decode cX12_hide 122 = .ok (.iload_n 3, 1) := by decide +kernel
theorem dX12_hide_123 : decode cX12_hide 123 = .ok (.ifCond .ne 8, 3) := by decide +kernel
theorem dX12_hide_126 : decode cX12_hide 126 = .ok (.iload 5, 2) := by decide +kernel
theorem dX12_hide_128 : decode cX12_hide 128 = .ok (.goto 5, 3) := by decide +kernel
theorem dX12_hide_131 : decode cX12_hide 131 = .ok (.iload 6, 2) := by decide +kernel
theorem dX12_hide_133 : decode cX12_hide 133 = .ok (.ireturn, 1) := by decide +kernel
theorem dX12_newIn_0 : decode cX12_newIn 0 = .ok (.iconst 0, 1) := by decide +kernel
theorem dX12_newIn_1 : decode cX12_newIn 1 = .ok (.istore_n 2, 1) := by decide +kernel
theorem dX12_newIn_2 : decode cX12_newIn 2 = .ok (.iconst 0, 1) := by decide +kernel
theorem dX12_newIn_3 : decode cX12_newIn 3 = .ok (.istore_n 3, 1) := by decide +kernel
theorem dX12_newIn_4 : decode cX12_newIn 4 = .ok (.iconst 0, 1) := by decide +kernel
theorem dX12_newIn_5 : decode cX12_newIn 5 = .ok (.istore 4, 2) := by decide +kernel
theorem dX12_newIn_7 : decode cX12_newIn 7 = .ok (.iload 4, 2) := by decide +kernel
theorem dX12_newIn_9 : decode cX12_newIn 9 = .ok (.aload_n 0, 1) := by decide +kernel
theorem dX12_newIn_10 : decode cX12_newIn 10 = .ok (.getfield 39, 3) := by decide +kernel
theorem dX12_newIn_13 : decode cX12_newIn 13 = .ok (.iconst 2, 1) := by decide +kernel
theorem dX12_newIn_14 : decode cX12_newIn 14 = .ok (.iaload, 1) := by decide +kernel
theorem dX12_newIn_15 : decode cX12_newIn 15 = .ok (.if_icmp .ge 29, 3) := by decide +kernel
theorem dX12_newIn_18 : decode cX12_newIn 18 = .ok (.iload_n 2, 1) := by decide +kernel
theorem dX12_newIn_19 : decode cX12_newIn 19 = .ok (.aload_n 0, 1) := by decide +kernel
theorem dX12_newIn_20 : decode cX12_newIn 20 = .ok (.iload 4, 2) := by decide +kernel
theorem dX12_newIn_22 : decode cX12_newIn 22 = .ok (.invokevirtual 303, 3) := by decide +kernel
theorem dX12_newIn_25 : decode cX12_newIn 25 = .ok (.ifCond .ne 10, 3) := by decide +kernel
theorem dX12_newIn_28 : decode cX12_newIn 28 = .ok (.iconst 1, 1) := by decide +kernel
theorem dX12_newIn_29 : decode cX12_newIn 29 = .ok (.iload 4, 2) := by decide +kernel
theorem dX12_newIn_31 : decode cX12_newIn 31 = .ok (.ishl, 1) := by decide +kernel
theorem dX12_newIn_32 : decode cX12_newIn 32 = .ok (.goto 4, 3) := by decide +kernel
theorem dX12_newIn_35 : decode cX12_newIn 35 = .ok (.iconst 0, 1) := by decide +kernel
theorem dX12_newIn_36 : decode cX12_newIn 36 = .ok (.ior, 1) := by decide +kernel
theorem dX12_newIn_37 : decode cX12_newIn 37 = .ok (.istore_n 2, 1) := by decide +kernel
theorem dX12_newIn_38 : decode cX12_newIn 38 = .ok (.iinc 4 1, 3) := by decide +kernel
theorem dX12_newIn_41 : decode cX12_newIn 41 = .ok (.goto (-34), 3) := by decide +kernel
theorem dX12_newIn_44 : decode cX12_newIn 44 = .ok (.aload_n 0, 1) := by decide +kernel
theorem dX12_newIn_45 : decode cX12_newIn 45 = .ok (.iload_n 1, 1) := by decide +kernel
theorem dX12_newIn_46 : decode cX12_newIn 46 = .ok (.invokevirtual 392, 3) := by decide +kernel
theorem dX12_newIn_49 : decode cX12_newIn 49 = .ok (.iconst 0, 1) := by decide +kernel
theorem dX12_newIn_50 : decode cX12_newIn 50 = .ok (.istore 4, 2) := by decide +kernel
theorem dX12_newIn_52 : decode cX12_newIn 52 = .ok (.iload 4, 2) := by decide +kernel
theorem dX12_newIn_54 : decode cX12_newIn 54 = .ok (.aload_n 0, 1) := by decide +kernel
theorem dX12_newIn_55 : decode cX12_newIn 55 = .ok (.getfield 39, 3) := by decide +kernel
theorem dX12_newIn_58 : decode cX12_newIn 58 = .ok (.iconst 2, 1) := by decide +kernel
theorem dX12_newIn_59 : decode cX12_newIn 59 = .ok (.iaload, 1) := by decide +kernel
theorem dX12_newIn_60 : decode cX12_newIn 60 = .ok (.if_icmp .ge 35, 3) := by decide +kernel
theorem dX12_newIn_63 : decode cX12_newIn 63 = .ok (.iload_n 3, 1) := by decide +kernel
theorem dX12_newIn_64 : decode cX12_newIn 64 = .ok (.iload_n 2, 1) := by decide +kernel
theorem dX12_newIn_65 : decode cX12_newIn 65 = .ok (.iload 4, 2) := by decide +kernel
theorem dX12_newIn_67 : decode cX12_newIn 67 = .ok (.invokestatic 364, 3) := by decide +kernel
theorem dX12_newIn_70 : decode cX12_newIn 70 = .ok (.ifCond .eq 16, 3) := by decide +kernel
theorem dX12_newIn_73 : decode cX12_newIn 73 = .ok (.aload_n 0, 1) := by decide +kernel
theorem dX12_newIn_74 : decode cX12_newIn 74 = .ok (.iload 4, 2) := by decide +kernel
theorem dX12_newIn_76 : decode cX12_newIn 76 = .ok (.invokevirtual 303, 3) := by decide +kernel
theorem dX12_newIn_79 : decode cX12_newIn 79 = .ok (.ifCond .le 7, 3) := by decide +kernel
theorem dX12_newIn_82 : decode cX12_newIn 82 = .ok (.iconst 1, 1) := by decide +kernel
theorem dX12_newIn_83 : decode cX12_newIn 83 = .ok (.goto 4, 3) := by decide +kernel
theorem dX12_newIn_86 : decode cX12_newIn 86 = .ok (.iconst 0, 1) := by decide +kernel
theorem dX12_newIn_87 : decode cX12_newIn 87 = .ok (.iadd, 1) := by decide +kernel
theorem dX12_newIn_88 : decode cX12_newIn 88 = .ok (.istore_n 3, 1) := by decide +kernel
theorem dX12_newIn_89 : decode cX12_newIn 89 = .ok (.iinc 4 1, 3) := by decide +kernel
theorem dX12_newIn_92 : decode cX12_newIn 92 = .ok (.goto (-40), 3) := by decide +kernel
theorem dX12_newIn_95 : decode cX12_newIn 95 = .ok (.aload_n 0, 1) := by decide +kernel
theorem dX12_newIn_96 : decode cX12_newIn 96 = .ok (.invokevirtual 398, 3) := by decide +kernel
theorem dX12_newIn_99 : decode cX12_newIn 99 = .ok (.iload_n 3, 1) := by decide +kernel
theorem dX12_newIn_100 : decode cX12_newIn 100 = .ok (.ireturn, 1) := by decide +kernel
theorem dX12_wake_0 : decode cX12_wake 0 = .ok (.aload_n 0, 1) := by decide +kernel
theorem dX12_wake_1 : decode cX12_wake 1 = .ok (.invokevirtual 373, 3) := by decide +kernel
theorem dX12_wake_4 : decode cX12_wake 4 = .ok (.ifCond .eq 25, 3) := by decide +kernel
theorem dX12_wake_7 : decode cX12_wake 7 = .ok (.iload_n 1, 1) := by decide +kernel
theorem dX12_wake_8 : decode cX12_wake 8 = .ok (.i2l, 1) := by decide +kernel
theorem dX12_wake_9 : decode cX12_wake 9 = .ok (.lconst 1, 1) := by decide +kernel
theorem dX12_wake_10 : decode cX12_wake 10 = .ok (.ldc2_w 412, 3) := by decide +kernel
theorem dX12_wake_13 : decode cX12_wake 13 = .ok (.invokestatic 136, 3) := by decide +kernel
theorem dX12_wake_16 : decode cX12_wake 16 = .ok (.ifCond .eq 13, 3) := by decide +kernel
theorem dX12_wake_19 : decode cX12_wake 19 = .ok (.iload_n 2, 1) := by decide +kernel
theorem dX12_wake_20 : decode cX12_wake 20 = .ok (.i2l, 1) := by decide +kernel
theorem dX12_wake_21 : decode cX12_wake 21 = .ok (.lconst 0, 1) := by decide +kernel
theorem dX12_wake_22 : decode cX12_wake 22 = .ok (.lconst 1, 1) := by decide +kernel
theorem dX12_wake_23 : decode cX12_wake 23 = .ok (.invokestatic 136, 3) := by decide +kernel
theorem dX12_wake_26 : decode cX12_wake 26 = .ok (.ifCond .ne 6, 3) := by decide +kernel
theorem dX12_wake_29 : decode cX12_wake 29 = .ok (.bipush (-2), 2) := by decide +kernel
theorem dX12_wake_31 : decode cX12_wake 31 = .ok (.ireturn, 1) := by decide +kernel
theorem dX12_wake_32 : decode cX12_wake 32 = .ok (.aload_n 0, 1) := by decide +kernel
theorem dX12_wake_33 : decode cX12_wake 33 = .ok (.invokevirtual 389, 3) := by decide +kernel
theorem dX12_wake_36 : decode cX12_wake 36 = .ok (.iconst (-1), 1) := by decide +kernel
theorem dX12_wake_37 : decode cX12_wake 37 = .ok (.istore_n 3, 1) := by decide +kernel
theorem dX12_wake_38 : decode cX12_wake 38 = .ok (.aload_n 0, 1) := by decide +kernel
theorem dX12_wake_39 : decode cX12_wake 39 = .ok (.iload_n 1, 1) := by decide +kernel
theorem dX12_wake_40 : decode cX12_wake 40 = .ok (.invokevirtual 414, 3) := by decide +kernel
theorem dX12_wake_43 : decode cX12_wake 43 = .ok (.istore 4, 2) := by decide +kernel
theorem dX12_wake_45 : decode cX12_wake 45 = .ok (.iconst 0, 1) := by decide +kernel
theorem dX12_wake_46 : decode cX12_wake 46 = .ok (.istore 5, 2) := by decide +kernel
theorem dX12_wake_48 : decode cX12_wake 48 = .ok (.iload 5, 2) := by decide +kernel
theorem dX12_wake_50 : decode cX12_wake 50 = .ok (.aload_n 0, 1) := by decide +kernel
theorem dX12_wake_51 : decode cX12_wake 51 = .ok (.getfield 39, 3) := by decide +kernel
theorem dX12_wake_54 : decode cX12_wake 54 = .ok (.iconst 2, 1) := by decide +kernel
theorem dX12_wake_55 : decode cX12_wake 55 = .ok (.iaload, 1) := by decide +kernel
theorem dX12_wake_56 : decode cX12_wake 56 = .ok (.if_icmp .ge 51, 3) := by decide +kernel
theorem dX12_wake_59 : decode cX12_wake 59 = .ok (.aload_n 0, 1) := by decide +kernel
theorem dX12_wake_60 : decode cX12_wake 60 = .ok (.getfield 39, 3) := by decide +kernel
theorem dX12_wake_63 : decode cX12_wake 63 = .ok (.bipush 13, 2) := by decide +kernel
theorem dX12_wake_65 : decode cX12_wake 65 = .ok (.iconst 4, 1) := by decide +kernel
theorem dX12_wake_66 : decode cX12_wake 66 = .ok (.iload 5, 2) := by decide +kernel
theorem dX12_wake_68 : decode cX12_wake 68 = .ok (.imul, 1) := by decide +kernel
theorem dX12_wake_69 : decode cX12_wake 69 = .ok (.iadd, 1) := by decide +kernel
theorem dX12_wake_70 : decode cX12_wake 70 = .ok (.iconst 2, 1) := by decide +kernel
theorem dX12_wake_71 : decode cX12_wake 71 = .ok (.iadd, 1) := by decide +kernel
theorem dX12_wake_72 : decode cX12_wake 72 = .ok (.dup2, 1) := by decide +kernel
theorem dX12_wake_73 : decode cX12_wake 73 = .ok (.iaload, 1) := by decide +kernel
theorem dX12_wake_74 : decode cX12_wake 74 = .ok (.iconst 1, 1) := by decide +kernel
theorem dX12_wake_75 : decode cX12_wake 75 = .ok (.iadd, 1) := by decide +kernel
theorem dX12_wake_76 : decode cX12_wake 76 = .ok (.iastore, 1) := by decide +kernel
theorem dX12_wake_77 : decode cX12_wake 77 = .ok (.aload_n 0, 1) := by decide +kernel
theorem dX12_wake_78 : decode cX12_wake 78 = .ok (.iload_n 1, 1) := by decide +kernel
theorem dX12_wake_79 : decode cX12_wake 79 = .ok (.invokevirtual 414, 3) := by decide +kernel
theorem dX12_wake_82 : decode cX12_wake 82 = .ok (.istore 6, 2) := by decide +kernel
theorem dX12_wake_84 : decode cX12_wake 84 = .ok (.iload 6, 2) := by decide +kernel
theorem dX12_wake_86 : decode cX12_wake 86 = .ok (.iload 4, 2) := by decide +kernel
theorem dX12_wake_88 : decode cX12_wake 88 = .ok (.if_icmp .gt 6, 3) := by decide +kernel
theorem dX12_wake_91 : decode cX12_wake 91 = .ok (.goto 10, 3) := by decide +kernel
theorem dX12_wake_94 : decode cX12_wake 94 = .ok (.iload 5, 2) := by decide +kernel
theorem dX12_wake_96 : decode cX12_wake 96 = .ok (.istore_n 3, 1) := by decide +kernel
theorem dX12_wake_97 : decode cX12_wake 97 = .ok (.iload 6, 2) := by decide +kernel
theorem dX12_wake_99 : decode cX12_wake 99 = .ok (.istore 4, 2) := by decide +kernel
theorem dX12_wake_101 : decode cX12_wake 101 = .ok (.iinc 5 1, 3) := by decide +kernel
theorem dX12_wake_104 : decode cX12_wake 104 = .ok (.goto (-56), 3) := by decide +kernel
theorem dX12_wake_107 : decode cX12_wake 107 = .ok (.iload_n 2, 1) := by decide +kernel
theorem dX12_wake_108 : decode cX12_wake 108 = .ok (.ifCond .ne 7, 3) := by decide +kernel
theorem dX12_wake_111 : decode cX12_wake 111 = .ok (.iload_n 3, 1) := by decide +kernel
theorem dX12_wake_112 : decode cX12_wake 112 = .ok (.goto 5, 3) := by decide +kernel
theorem dX12_wake_115 : decode cX12_wake 115 = .ok (.iload 4, 2) := by decide +kernel
theorem dX12_wake_117 : decode cX12_wake 117 = .ok (.ireturn, 1) := by decide +kernel
theorem dX12_pence_0 : decode cX12_pence 0 = .ok (.aload_n 0, 1) := by decide +kernel
theorem dX12_pence_1 : decode cX12_pence 1 = .ok (.iload_n 2, 1) := by decide +kernel
theorem dX12_pence_2 : decode cX12_pence 2 = .ok (.invokevirtual 316, 3) := by decide +kernel
theorem dX12_pence_5 : decode cX12_pence 5 = .ok (.ifCond .eq 15, 3) := by decide +kernel
theorem dX12_pence_8 : decode cX12_pence 8 = .ok (.iload_n 1, 1) := by decide +kernel
theorem dX12_pence_9 : decode cX12_pence 9 = .ok (.i2l, 1) := by decide +kernel
theorem dX12_pence_10 : decode cX12_pence 10 = .ok (.lconst 0, 1) := by decide +kernel
theorem dX12_pence_11 : decode cX12_pence 11 = .ok (.ldc2_w 417, 3) := by decide +kernel
theorem dX12_pence_14 : decode cX12_pence 14 = .ok (.invokestatic 136, 3) := by decide +kernel
theorem dX12_pence_17 : decode cX12_pence 17 = .ok (.ifCond .ne 5, 3) := by decide +kernel
theorem dX12_pence_20 : decode cX12_pence 20 = .ok (.iconst (-1), 1) := by decide +kernel
theorem dX12_pence_21 : decode cX12_pence 21 = .ok (.ireturn, 1) := by decide +kernel
theorem dX12_pence_22 : decode cX12_pence 22 = .ok (.aload_n 0, 1) := by decide +kernel
theorem dX12_pence_23 : decode cX12_pence 23 = .ok (.invokevirtual 348, 3) := by decide +kernel
theorem dX12_pence_26 : decode cX12_pence 26 = .ok (.istore_n 3, 1) := by decide +kernel
theorem dX12_pence_27 : decode cX12_pence 27 = .ok (.iload_n 3, 1) := by decide +kernel
theorem dX12_pence_28 : decode cX12_pence 28 = .ok (.ifCond .ne 5, 3) := by decide +kernel
theorem dX12_pence_31 : decode cX12_pence 31 = .ok (.iconst 0, 1) := by decide +kernel
theorem dX12_pence_32 : decode cX12_pence 32 = .ok (.ireturn, 1) := by decide +kernel
theorem dX12_pence_33 : decode cX12_pence 33 = .ok (.iload_n 1, 1) := by decide +kernel
theorem dX12_pence_34 : decode cX12_pence 34 = .ok (.aload_n 0, 1) := by decide +kernel
theorem dX12_pence_35 : decode cX12_pence 35 = .ok (.iload_n 2, 1) := by decide +kernel
theorem dX12_pence_36 : decode cX12_pence 36 = .ok (.invokevirtual 303, 3) := by decide +kernel
theorem dX12_pence_39 : decode cX12_pence 39 = .ok (.imul, 1) := by decide +kernel
theorem dX12_pence_40 : decode cX12_pence 40 = .ok (.istore 4, 2) := by decide +kernel
theorem dX12_pence_42 : decode cX12_pence 42 = .ok (.iload_n 1, 1) := by decide +kernel
theorem dX12_pence_43 : decode cX12_pence 43 = .ok (.istore 5, 2) := by decide +kernel
theorem dX12_pence_45 : decode cX12_pence 45 = .ok (.iconst 0, 1) := by decide +kernel
theorem dX12_pence_46 : decode cX12_pence 46 = .ok (.istore 6, 2) := by decide +kernel
theorem dX12_pence_48 : decode cX12_pence 48 = .ok (.iconst 0, 1) := by decide +kernel
theorem dX12_pence_49 : decode cX12_pence 49 = .ok (.istore 7, 2) := by decide +kernel
theorem dX12_pence_51 : decode cX12_pence 51 = .ok (.iload 7, 2) := by decide +kernel
theorem dX12_pence_53 : decode cX12_pence 53 = .ok (.aload_n 0, 1) := by decide +kernel
theorem dX12_pence_54 : decode cX12_pence 54 = .ok (.getfield 39, 3) := by decide +kernel
theorem dX12_pence_57 : decode cX12_pence 57 = .ok (.iconst 2, 1) := by decide +kernel
theorem dX12_pence_58 : decode cX12_pence 58 = .ok (.iaload, 1) := by decide +kernel
theorem dX12_pence_59 : decode cX12_pence 59 = .ok (.if_icmp .ge 66, 3) := by decide +kernel
theorem dX12_pence_62 : decode cX12_pence 62 = .ok (.iload_n 1, 1) := by decide +kernel
theorem dX12_pence_63 : decode cX12_pence 63 = .ok (.aload_n 0, 1) := by decide +kernel
theorem dX12_pence_64 : decode cX12_pence 64 = .ok (.iload 7, 2) := by decide +kernel
theorem dX12_pence_66 : decode cX12_pence 66 = .ok (.invokevirtual 303, 3) := by decide +kernel
theorem dX12_pence_69 : decode cX12_pence 69 = .ok (.imul, 1) := by decide +kernel
theorem dX12_pence_70 : decode cX12_pence 70 = .ok (.istore 8, 2) := by decide +kernel
theorem dX12_pence_72 : decode cX12_pence 72 = .ok (.iload 5, 2) := by decide +kernel
theorem dX12_pence_74 : decode cX12_pence 74 = .ok (.iload 8, 2) := by decide +kernel
theorem dX12_pence_76 : decode cX12_pence 76 = .ok (.iload_n 3, 1) := by decide +kernel
theorem dX12_pence_77 : decode cX12_pence 77 = .ok (.idiv, 1) := by decide +kernel
theorem dX12_pence_78 : decode cX12_pence 78 = .ok (.isub, 1) := by decide +kernel
theorem dX12_pence_79 : decode cX12_pence 79 = .ok (.istore 5, 2) := by decide +kernel
theorem dX12_pence_81 : decode cX12_pence 81 = .ok (.iload 6, 2) := by decide +kernel
theorem dX12_pence_83 : decode cX12_pence 83 = .ok (.iload 8, 2) := by decide +kernel
theorem dX12_pence_85 : decode cX12_pence 85 = .ok (.iload_n 3, 1) := by decide +kernel
theorem dX12_pence_86 : decode cX12_pence 86 = .ok (.irem, 1) := by decide +kernel
theorem dX12_pence_87 : decode cX12_pence 87 = .ok (.iload 4, 2) := by decide +kernel
theorem dX12_pence_89 : decode cX12_pence 89 = .ok (.iload_n 3, 1) := by decide +kernel
theorem dX12_pence_90 : decode cX12_pence 90 = .ok (.irem, 1) := by decide +kernel
theorem dX12_pence_91 : decode cX12_pence 91 = .ok (.if_icmp .gt 20, 3) := by decide +kernel
theorem dX12_pence_94 : decode cX12_pence 94 = .ok (.iload 8, 2) := by decide +kernel
theorem dX12_pence_96 : decode cX12_pence 96 = .ok (.iload_n 3, 1) := by decide +kernel
theorem dX12_pence_97 : decode cX12_pence 97 = .ok (.irem, 1) := by decide +kernel
theorem dX12_pence_98 : decode cX12_pence 98 = .ok (.iload 4, 2) := by decide +kernel
theorem dX12_pence_100 : decode cX12_pence 100 = .ok (.iload_n 3, 1) := by decide +kernel
theorem dX12_pence_101 : decode cX12_pence 101 = .ok (.irem, 1) := by decide +kernel
theorem dX12_pence_102 : decode cX12_pence 102 = .ok (.if_icmp .ne 13, 3) := by decide +kernel
theorem dX12_pence_105 : decode cX12_pence 105 = .ok (.iload 7, 2) := by decide +kernel
theorem dX12_pence_107 : decode cX12_pence 107 = .ok (.iload_n 2, 1) := by decide +kernel
theorem dX12_pence_108 : decode cX12_pence 108 = .ok (.if_icmp .ge 7, 3) := by decide +kernel
theorem dX12_pence_111 : decode cX12_pence 111 = .ok (.iconst 1, 1) := by decide +kernel
theorem dX12_pence_112 : decode cX12_pence 112 = .ok (.goto 4, 3) := by decide +kernel
theorem dX12_pence_115 : decode cX12_pence 115 = .ok (.iconst 0, 1) := by decide +kernel
theorem dX12_pence_116 : decode cX12_pence 116 = .ok (.iadd, 1) := by decide +kernel
theorem dX12_pence_117 : decode cX12_pence 117 = .ok (.istore 6, 2) := by decide +kernel
theorem dX12_pence_119 : decode cX12_pence 119 = .ok (.iinc 7 1, 3) := by decide +kernel
theorem dX12_pence_122 : decode cX12_pence 122 = .ok (.goto (-71), 3) := by decide +kernel
theorem dX12_pence_125 : decode cX12_pence 125 = .ok (.iload 4, 2) := by decide +kernel
theorem dX12_pence_127 : decode cX12_pence 127 = .ok (.iload_n 3, 1) := by decide +kernel
theorem dX12_pence_128 : decode cX12_pence 128 = .ok (.idiv, 1) := by decide +kernel
theorem dX12_pence_129 : decode cX12_pence 129 = .ok (.iload 6, 2) := by decide +kernel
theorem dX12_pence_131 : decode cX12_pence 131 = .ok (.iload 5, 2) := by decide +kernel
theorem dX12_pence_133 : decode cX12_pence 133 = .ok (.if_icmp .ge 7, 3) := by decide +kernel
theorem dX12_pence_136 : decode cX12_pence 136 = .ok (.iconst 1, 1) := by decide +kernel
theorem dX12_pence_137 : decode cX12_pence 137 = .ok (.goto 4, 3) := by decide +kernel
theorem dX12_pence_140 : decode cX12_pence 140 = .ok (.iconst 0, 1) := by decide +kernel
theorem dX12_pence_141 : decode cX12_pence 141 = .ok (.iadd, 1) := by decide +kernel
theorem dX12_pence_142 : decode cX12_pence 142 = .ok (.ireturn, 1) := by decide +kernel
theorem dX12_apart_0 : decode cX12_apart 0 = .ok (.iload_n 1, 1) := by decide +kernel
theorem dX12_apart_1 : decode cX12_apart 1 = .ok (.aload_n 0, 1) := by decide +kernel
theorem dX12_apart_2 : decode cX12_apart 2 = .ok (.getfield 39, 3) := by decide +kernel
theorem dX12_apart_5 : decode cX12_apart 5 = .ok (.iconst 1, 1) := by decide +kernel
theorem dX12_apart_6 : decode cX12_apart 6 = .ok (.iaload, 1) := by decide +kernel
theorem dX12_apart_7 : decode cX12_apart 7 = .ok (.idiv, 1) := by decide +kernel
theorem dX12_apart_8 : decode cX12_apart 8 = .ok (.iload_n 2, 1) := by decide +kernel
theorem dX12_apart_9 : decode cX12_apart 9 = .ok (.aload_n 0, 1) := by decide +kernel
theorem dX12_apart_10 : decode cX12_apart 10 = .ok (.getfield 39, 3) := by decide +kernel
theorem dX12_apart_13 : decode cX12_apart 13 = .ok (.iconst 1, 1) := by decide +kernel
theorem dX12_apart_14 : decode cX12_apart 14 = .ok (.iaload, 1) := by decide +kernel
theorem dX12_apart_15 : decode cX12_apart 15 = .ok (.idiv, 1) := by decide +kernel
theorem dX12_apart_16 : decode cX12_apart 16 = .ok (.isub, 1) := by decide +kernel
theorem dX12_apart_17 : decode cX12_apart 17 = .ok (.istore_n 3, 1) := by decide +kernel
theorem dX12_apart_18 : decode cX12_apart 18 = .ok (.iload_n 1, 1) := by decide +kernel
theorem dX12_apart_19 : decode cX12_apart 19 = .ok (.aload_n 0, 1) := by decide +kernel
theorem dX12_apart_20 : decode cX12_apart 20 = .ok (.getfield 39, 3) := by decide +kernel
theorem dX12_apart_23 : decode cX12_apart 23 = .ok (.iconst 1, 1) := by decide +kernel
theorem dX12_apart_24 : decode cX12_apart 24 = .ok (.iaload, 1) := by decide +kernel
theorem dX12_apart_25 : decode cX12_apart 25 = .ok (.irem, 1) := by decide +kernel
theorem dX12_apart_26 : decode cX12_apart 26 = .ok (.iload_n 2, 1) := by decide +kernel
theorem dX12_apart_27 : decode cX12_apart 27 = .ok (.aload_n 0, 1) := by decide +kernel
theorem dX12_apart_28 : decode cX12_apart 28 = .ok (.getfield 39, 3) := by decide +kernel
theorem dX12_apart_31 : decode cX12_apart 31 = .ok (.iconst 1, 1) := by decide +kernel
theorem dX12_apart_32 : decode cX12_apart 32 = .ok (.iaload, 1) := by decide +kernel
theorem dX12_apart_33 : decode cX12_apart 33 = .ok (.irem, 1) := by decide +kernel
theorem dX12_apart_34 : decode cX12_apart 34 = .ok (.isub, 1) := by decide +kernel
theorem dX12_apart_35 : decode cX12_apart 35 = .ok (.istore 4, 2) := by decide +kernel
theorem dX12_apart_37 : decode cX12_apart 37 = .ok (.iload_n 3, 1) := by decide +kernel
theorem dX12_apart_38 : decode cX12_apart 38 = .ok (.ifCond .ge 8, 3) := by decide +kernel
theorem dX12_apart_41 : decode cX12_apart 41 = .ok (.iload_n 3, 1) := by decide +kernel
theorem dX12_apart_42 : decode cX12_apart 42 = .ok (.ineg, 1) := by decide +kernel
theorem dX12_apart_43 : decode cX12_apart 43 = .ok (.goto 4, 3) := by decide +kernel
theorem dX12_apart_46 : decode cX12_apart 46 = .ok (.iload_n 3, 1) := by decide +kernel
theorem dX12_apart_47 : decode cX12_apart 47 = .ok (.iload 4, 2) := by decide +kernel
theorem dX12_apart_49 : decode cX12_apart 49 = .ok (.ifCond .ge 9, 3) := by decide +kernel
theorem dX12_apart_52 : decode cX12_apart 52 = .ok (.iload 4, 2) := by decide +kernel
theorem dX12_apart_54 : decode cX12_apart 54 = .ok (.ineg, 1) := by decide +kernel
theorem dX12_apart_55 : decode cX12_apart 55 = .ok (.goto 5, 3) := by decide +kernel
theorem dX12_apart_58 : decode cX12_apart 58 = .ok (.iload 4, 2) := by decide +kernel
theorem dX12_apart_60 : decode cX12_apart 60 = .ok (.iadd, 1) := by decide +kernel
theorem dX12_apart_61 : decode cX12_apart 61 = .ok (.ireturn, 1) := by decide +kernel
theorem dX12_beginsTurn_0 : decode cX12_beginsTurn 0 = .ok (.aload_n 0, 1) := by decide +kernel
theorem dX12_beginsTurn_1 : decode cX12_beginsTurn 1 = .ok (.getfield 65, 3) := by decide +kernel
theorem dX12_beginsTurn_4 : decode cX12_beginsTurn 4 = .ok (.iload_n 1, 1) := by decide +kernel
theorem dX12_beginsTurn_5 : decode cX12_beginsTurn 5 = .ok (.iload_n 2, 1) := by decide +kernel
theorem dX12_beginsTurn_6 : decode cX12_beginsTurn 6 = .ok (.iastore, 1) := by decide +kernel
theorem dX12_beginsTurn_7 : decode cX12_beginsTurn 7 = .ok (.aload_n 0, 1) := by decide +kernel
theorem dX12_beginsTurn_8 : decode cX12_beginsTurn 8 = .ok (.getfield 68, 3) := by decide +kernel
theorem dX12_beginsTurn_11 : decode cX12_beginsTurn 11 = .ok (.iload_n 1, 1) := by decide +kernel
theorem dX12_beginsTurn_12 : decode cX12_beginsTurn 12 = .ok (.iload_n 3, 1) := by decide +kernel
theorem dX12_beginsTurn_13 : decode cX12_beginsTurn 13 = .ok (.iastore, 1) := by decide +kernel
theorem dX12_beginsTurn_14 : decode cX12_beginsTurn 14 = .ok (.aload_n 0, 1) := by decide +kernel
theorem dX12_beginsTurn_15 : decode cX12_beginsTurn 15 = .ok (.getfield 71, 3) := by decide +kernel
theorem dX12_beginsTurn_18 : decode cX12_beginsTurn 18 = .ok (.iload_n 1, 1) := by decide +kernel
theorem dX12_beginsTurn_19 : decode cX12_beginsTurn 19 = .ok (.iconst (-1), 1) := by decide +kernel
theorem dX12_beginsTurn_20 : decode cX12_beginsTurn 20 = .ok (.iastore, 1) := by decide +kernel
theorem dX12_beginsTurn_21 : decode cX12_beginsTurn 21 = .ok (.aload_n 0, 1) := by decide +kernel
theorem dX12_beginsTurn_22 : decode cX12_beginsTurn 22 = .ok (.getfield 74, 3) := by decide +kernel
theorem dX12_beginsTurn_25 : decode cX12_beginsTurn 25 = .ok (.iload_n 1, 1) := by decide +kernel
theorem dX12_beginsTurn_26 : decode cX12_beginsTurn 26 = .ok (.iconst (-1), 1) := by decide +kernel
theorem dX12_beginsTurn_27 : decode cX12_beginsTurn 27 = .ok (.iastore, 1) := by decide +kernel
theorem dX12_beginsTurn_28 : decode cX12_beginsTurn 28 = .ok (.return_, 1) := by decide +kernel
theorem dX12_isWorth_0 : decode cX12_isWorth 0 = .ok (.aload_n 0, 1) := by decide +kernel
theorem dX12_isWorth_1 : decode cX12_isWorth 1 = .ok (.getfield 74, 3) := by decide +kernel
theorem dX12_isWorth_4 : decode cX12_isWorth 4 = .ok (.iload_n 1, 1) := by decide +kernel
theorem dX12_isWorth_5 : decode cX12_isWorth 5 = .ok (.iaload, 1) := by decide +kernel
theorem dX12_isWorth_6 : decode cX12_isWorth 6 = .ok (.ifCond .lt 32, 3) := by decide +kernel
theorem dX12_isWorth_9 : decode cX12_isWorth 9 = .ok (.iload_n 1, 1) := by decide +kernel
theorem dX12_isWorth_10 : decode cX12_isWorth 10 = .ok (.iconst 2, 1) := by decide +kernel
theorem dX12_isWorth_11 : decode cX12_isWorth 11 = .ok (.irem, 1) := by decide +kernel
theorem dX12_isWorth_12 : decode cX12_isWorth 12 = .ok (.ifCond .ne 16, 3) := by decide +kernel
theorem dX12_isWorth_15 : decode cX12_isWorth 15 = .ok (.iload_n 2, 1) := by decide +kernel
theorem dX12_isWorth_16 : decode cX12_isWorth 16 = .ok (.aload_n 0, 1) := by decide +kernel
theorem dX12_isWorth_17 : decode cX12_isWorth 17 = .ok (.getfield 74, 3) := by decide +kernel
theorem dX12_isWorth_20 : decode cX12_isWorth 20 = .ok (.iload_n 1, 1) := by decide +kernel
theorem dX12_isWorth_21 : decode cX12_isWorth 21 = .ok (.iaload, 1) := by decide +kernel
theorem dX12_isWorth_22 : decode cX12_isWorth 22 = .ok (.if_icmp .ge 20, 3) := by decide +kernel
theorem dX12_isWorth_25 : decode cX12_isWorth 25 = .ok (.goto 13, 3) := by decide +kernel
theorem dX12_isWorth_28 : decode cX12_isWorth 28 = .ok (.iload_n 2, 1) := by decide +kernel
theorem dX12_isWorth_29 : decode cX12_isWorth 29 = .ok (.aload_n 0, 1) := by decide +kernel
theorem dX12_isWorth_30 : decode cX12_isWorth 30 = .ok (.getfield 74, 3) := by decide +kernel
theorem dX12_isWorth_33 : decode cX12_isWorth 33 = .ok (.iload_n 1, 1) := by decide +kernel
theorem dX12_isWorth_34 : decode cX12_isWorth 34 = .ok (.iaload, 1) := by decide +kernel
theorem dX12_isWorth_35 : decode cX12_isWorth 35 = .ok (.if_icmp .le 7, 3) := by decide +kernel
theorem dX12_isWorth_38 : decode cX12_isWorth 38 = .ok (.iconst 1, 1) := by decide +kernel
theorem dX12_isWorth_39 : decode cX12_isWorth 39 = .ok (.goto 4, 3) := by decide +kernel
theorem dX12_isWorth_42 : decode cX12_isWorth 42 = .ok (.iconst 0, 1) := by decide +kernel
theorem dX12_isWorth_43 : decode cX12_isWorth 43 = .ok (.istore_n 3, 1) := by decide +kernel
theorem dX12_isWorth_44 : decode cX12_isWorth 44 = .ok (.iload_n 3, 1) := by decide +kernel
theorem dX12_isWorth_45 : decode cX12_isWorth 45 = .ok (.ifCond .ne 4, 3) := by decide +kernel
theorem dX12_isWorth_48 : decode cX12_isWorth 48 = .ok (.return_, 1) := by decide +kernel
theorem dX12_isWorth_49 : decode cX12_isWorth 49 = .ok (.aload_n 0, 1) := by decide +kernel
theorem dX12_isWorth_50 : decode cX12_isWorth 50 = .ok (.getfield 74, 3) := by decide +kernel
theorem dX12_isWorth_53 : decode cX12_isWorth 53 = .ok (.iload_n 1, 1) := by decide +kernel
theorem dX12_isWorth_54 : decode cX12_isWorth 54 = .ok (.iload_n 2, 1) := by decide +kernel
theorem dX12_isWorth_55 : decode cX12_isWorth 55 = .ok (.iastore, 1) := by decide +kernel
theorem dX12_isWorth_56 : decode cX12_isWorth 56 = .ok (.iload_n 1, 1) := by decide +kernel
theorem dX12_isWorth_57 : decode cX12_isWorth 57 = .ok (.ifCond .ne 13, 3) := by decide +kernel
theorem dX12_isWorth_60 : decode cX12_isWorth 60 = .ok (.aload_n 0, 1) := by decide +kernel
theorem dX12_isWorth_61 : decode cX12_isWorth 61 = .ok (.aload_n 0, 1) := by decide +kernel
theorem dX12_isWorth_62 : decode cX12_isWorth 62 = .ok (.getfield 71, 3) := by decide +kernel
theorem dX12_isWorth_65 : decode cX12_isWorth 65 = .ok (.iconst 0, 1) := by decide +kernel
theorem dX12_isWorth_66 : decode cX12_isWorth 66 = .ok (.iaload, 1) := by decide +kernel
theorem dX12_isWorth_67 : decode cX12_isWorth 67 = .ok (.putfield 419, 3) := by decide +kernel
theorem dX12_isWorth_70 : decode cX12_isWorth 70 = .ok (.return_, 1) := by decide +kernel
theorem dX12_canGo_0 : decode cX12_canGo 0 = .ok (.iload_n 1, 1) := by decide +kernel
theorem dX12_canGo_1 : decode cX12_canGo 1 = .ok (.iconst 2, 1) := by decide +kernel
theorem dX12_canGo_2 : decode cX12_canGo 2 = .ok (.irem, 1) := by decide +kernel
theorem dX12_canGo_3 : decode cX12_canGo 3 = .ok (.ifCond .ne 12, 3) := by decide +kernel
theorem dX12_canGo_6 : decode cX12_canGo 6 = .ok (.aload_n 0, 1) := by decide +kernel
theorem dX12_canGo_7 : decode cX12_canGo 7 = .ok (.getfield 65, 3) := by decide +kernel
theorem dX12_canGo_10 : decode cX12_canGo 10 = .ok (.iload_n 1, 1) := by decide +kernel
theorem dX12_canGo_11 : decode cX12_canGo 11 = .ok (.iaload, 1) := by decide +kernel
theorem dX12_canGo_12 : decode cX12_canGo 12 = .ok (.goto 9, 3) := by decide +kernel
theorem dX12_canGo_15 : decode cX12_canGo 15 = .ok (.aload_n 0, 1) := by decide +kernel
theorem dX12_canGo_16 : decode cX12_canGo 16 = .ok (.getfield 68, 3) := by decide +kernel
theorem dX12_canGo_19 : decode cX12_canGo 19 = .ok (.iload_n 1, 1) := by decide +kernel
theorem dX12_canGo_20 : decode cX12_canGo 20 = .ok (.iaload, 1) := by decide +kernel
theorem dX12_canGo_21 : decode cX12_canGo 21 = .ok (.istore_n 2, 1) := by decide +kernel
theorem dX12_canGo_22 : decode cX12_canGo 22 = .ok (.aload_n 0, 1) := by decide +kernel
theorem dX12_canGo_23 : decode cX12_canGo 23 = .ok (.getfield 71, 3) := by decide +kernel
theorem dX12_canGo_26 : decode cX12_canGo 26 = .ok (.iload_n 1, 1) := by decide +kernel
theorem dX12_canGo_27 : decode cX12_canGo 27 = .ok (.iaload, 1) := by decide +kernel
theorem dX12_canGo_28 : decode cX12_canGo 28 = .ok (.istore_n 3, 1) := by decide +kernel
theorem dX12_canGo_29 : decode cX12_canGo 29 = .ok (.iload_n 2, 1) := by decide +kernel
theorem dX12_canGo_30 : decode cX12_canGo 30 = .ok (.iload_n 3, 1) := by decide +kernel
theorem dX12_canGo_31 : decode cX12_canGo 31 = .ok (.if_icmp .eq 27, 3) := by decide +kernel
theorem dX12_canGo_34 : decode cX12_canGo 34 = .ok (.aload_n 0, 1) := by decide +kernel
theorem dX12_canGo_35 : decode cX12_canGo 35 = .ok (.iload_n 2, 1) := by decide +kernel
theorem dX12_canGo_36 : decode cX12_canGo 36 = .ok (.iload_n 3, 1) := by decide +kernel
theorem dX12_canGo_37 : decode cX12_canGo 37 = .ok (.invokevirtual 355, 3) := by decide +kernel
theorem dX12_canGo_40 : decode cX12_canGo 40 = .ok (.ifCond .eq 22, 3) := by decide +kernel
theorem dX12_canGo_43 : decode cX12_canGo 43 = .ok (.iload_n 1, 1) := by decide +kernel
theorem dX12_canGo_44 : decode cX12_canGo 44 = .ok (.iconst 2, 1) := by decide +kernel
theorem dX12_canGo_45 : decode cX12_canGo 45 = .ok (.irem, 1) := by decide +kernel
theorem dX12_canGo_46 : decode cX12_canGo 46 = .ok (.iconst 1, 1) := by decide +kernel
theorem dX12_canGo_47 : decode cX12_canGo 47 = .ok (.if_icmp .eq 11, 3) := by decide +kernel
theorem dX12_canGo_50 : decode cX12_canGo 50 = .ok (.aload_n 0, 1) := by decide +kernel
theorem dX12_canGo_51 : decode cX12_canGo 51 = .ok (.iload_n 3, 1) := by decide +kernel
theorem dX12_canGo_52 : decode cX12_canGo 52 = .ok (.invokevirtual 329, 3) := by decide +kernel
theorem dX12_canGo_55 : decode cX12_canGo 55 = .ok (.ifCond .ne 7, 3) := by decide +kernel
theorem dX12_canGo_58 : decode cX12_canGo 58 = .ok (.iconst 1, 1) := by decide +kernel
theorem dX12_canGo_59 : decode cX12_canGo 59 = .ok (.goto 4, 3) := by decide +kernel
theorem dX12_canGo_62 : decode cX12_canGo 62 = .ok (.iconst 0, 1) := by decide +kernel
theorem dX12_canGo_63 : decode cX12_canGo 63 = .ok (.ireturn, 1) := by decide +kernel
theorem dX12_plays_0 : decode cX12_plays 0 = .ok (.iconst 0, 1) := by decide +kernel
theorem dX12_plays_1 : decode cX12_plays 1 = .ok (.istore_n 3, 1) := by decide +kernel
theorem dX12_plays_2 : decode cX12_plays 2 = .ok (.aload_n 0, 1) := by decide +kernel
theorem dX12_plays_3 : decode cX12_plays 3 = .ok (.iconst 0, 1) := by decide +kernel
theorem dX12_plays_4 : decode cX12_plays 4 = .ok (.aload_n 0, 1) := by decide +kernel
theorem dX12_plays_5 : decode cX12_plays 5 = .ok (.getfield 39, 3) := by decide +kernel
theorem dX12_plays_8 : decode cX12_plays 8 = .ok (.bipush 11, 2) := by decide +kernel
theorem dX12_plays_10 : decode cX12_plays 10 = .ok (.iaload, 1) := by decide +kernel
theorem dX12_plays_11 : decode cX12_plays 11 = .ok (.aload_n 0, 1) := by decide +kernel
theorem dX12_plays_12 : decode cX12_plays 12 = .ok (.iload_n 1, 1) := by decide +kernel
theorem dX12_plays_13 : decode cX12_plays 13 = .ok (.invokevirtual 306, 3) := by decide +kernel
theorem dX12_plays_16 : decode cX12_plays 16 = .ok (.invokevirtual 422, 3) := by decide +kernel
theorem dX12_plays_19 : decode cX12_plays 19 = .ok (.iload_n 3, 1) := by decide +kernel
theorem dX12_plays_20 : decode cX12_plays 20 = .ok (.ifCond .lt 168, 3) := by decide +kernel
theorem dX12_plays_23 : decode cX12_plays 23 = .ok (.aload_n 0, 1) := by decide +kernel
theorem dX12_plays_24 : decode cX12_plays 24 = .ok (.getfield 71, 3) := by decide +kernel
theorem dX12_plays_27 : decode cX12_plays 27 = .ok (.iload_n 3, 1) := by decide +kernel
theorem dX12_plays_28 : decode cX12_plays 28 = .ok (.dup2, 1) := by decide +kernel
theorem dX12_plays_29 : decode cX12_plays 29 = .ok (.iaload, 1) := by decide +kernel
theorem dX12_plays_30 : decode cX12_plays 30 = .ok (.iconst 1, 1) := by decide +kernel
theorem dX12_plays_31 : decode cX12_plays 31 = .ok (.iadd, 1) := by decide +kernel
theorem dX12_plays_32 : decode cX12_plays 32 = .ok (.iastore, 1) := by decide +kernel
theorem dX12_plays_33 : decode cX12_plays 33 = .ok (.aload_n 0, 1) := by decide +kernel
theorem dX12_plays_34 : decode cX12_plays 34 = .ok (.getfield 71, 3) := by decide +kernel
theorem dX12_plays_37 : decode cX12_plays 37 = .ok (.iload_n 3, 1) := by decide +kernel
theorem dX12_plays_38 : decode cX12_plays 38 = .ok (.iaload, 1) := by decide +kernel
theorem dX12_plays_39 : decode cX12_plays 39 = .ok (.aload_n 0, 1) := by decide +kernel
theorem dX12_plays_40 : decode cX12_plays 40 = .ok (.invokevirtual 300, 3) := by decide +kernel
theorem dX12_plays_43 : decode cX12_plays 43 = .ok (.if_icmp .ge 24, 3) := by decide +kernel
theorem dX12_plays_46 : decode cX12_plays 46 = .ok (.aload_n 0, 1) := by decide +kernel
theorem dX12_plays_47 : decode cX12_plays 47 = .ok (.iload_n 3, 1) := by decide +kernel
theorem dX12_plays_48 : decode cX12_plays 48 = .ok (.invokevirtual 426, 3) := by decide +kernel
theorem dX12_plays_51 : decode cX12_plays 51 = .ok (.ifCond .ne 16, 3) := by decide +kernel
theorem dX12_plays_54 : decode cX12_plays 54 = .ok (.aload_n 0, 1) := by decide +kernel
theorem dX12_plays_55 : decode cX12_plays 55 = .ok (.getfield 71, 3) := by decide +kernel
theorem dX12_plays_58 : decode cX12_plays 58 = .ok (.iload_n 3, 1) := by decide +kernel
theorem dX12_plays_59 : decode cX12_plays 59 = .ok (.dup2, 1) := by decide +kernel
theorem dX12_plays_60 : decode cX12_plays 60 = .ok (.iaload, 1) := by decide +kernel
theorem dX12_plays_61 : decode cX12_plays 61 = .ok (.iconst 1, 1) := by decide +kernel
theorem dX12_plays_62 : decode cX12_plays 62 = .ok (.iadd, 1) := by decide +kernel
theorem dX12_plays_63 : decode cX12_plays 63 = .ok (.iastore, 1) := by decide +kernel
theorem dX12_plays_64 : decode cX12_plays 64 = .ok (.goto (-31), 3) := by decide +kernel
theorem dX12_plays_67 : decode cX12_plays 67 = .ok (.aload_n 0, 1) := by decide +kernel
theorem dX12_plays_68 : decode cX12_plays 68 = .ok (.getfield 71, 3) := by decide +kernel
theorem dX12_plays_71 : decode cX12_plays 71 = .ok (.iload_n 3, 1) := by decide +kernel
theorem dX12_plays_72 : decode cX12_plays 72 = .ok (.iaload, 1) := by decide +kernel
theorem dX12_plays_73 : decode cX12_plays 73 = .ok (.aload_n 0, 1) := by decide +kernel
theorem dX12_plays_74 : decode cX12_plays 74 = .ok (.invokevirtual 300, 3) := by decide +kernel
theorem dX12_plays_77 : decode cX12_plays 77 = .ok (.if_icmp .lt 26, 3) := by decide +kernel
theorem dX12_plays_80 : decode cX12_plays 80 = .ok (.iinc 3 (-1), 3) := by decide +kernel
theorem dX12_plays_83 : decode cX12_plays 83 = .ok (.iload_n 3, 1) := by decide +kernel
theorem dX12_plays_84 : decode cX12_plays 84 = .ok (.ifCond .lt (-65), 3) := by decide +kernel
theorem dX12_plays_87 : decode cX12_plays 87 = .ok (.aload_n 0, 1) := by decide +kernel
theorem dX12_plays_88 : decode cX12_plays 88 = .ok (.iload_n 3, 1) := by decide +kernel
theorem dX12_plays_89 : decode cX12_plays 89 = .ok (.aload_n 0, 1) := by decide +kernel
theorem dX12_plays_90 : decode cX12_plays 90 = .ok (.getfield 74, 3) := by decide +kernel
theorem dX12_plays_93 : decode cX12_plays 93 = .ok (.iload_n 3, 1) := by decide +kernel
theorem dX12_plays_94 : decode cX12_plays 94 = .ok (.iconst 1, 1) := by decide +kernel
theorem dX12_plays_95 : decode cX12_plays 95 = .ok (.iadd, 1) := by decide +kernel
theorem dX12_plays_96 : decode cX12_plays 96 = .ok (.iaload, 1) := by decide +kernel
theorem dX12_plays_97 : decode cX12_plays 97 = .ok (.invokevirtual 429, 3) := by decide +kernel
theorem dX12_plays_100 : decode cX12_plays 100 = .ok (.goto (-81), 3) := by decide +kernel
theorem dX12_plays_103 : decode cX12_plays 103 = .ok (.iload_n 3, 1) := by decide +kernel
theorem dX12_plays_104 : decode cX12_plays 104 = .ok (.iconst 2, 1) := by decide +kernel
theorem dX12_plays_105 : decode cX12_plays 105 = .ok (.irem, 1) := by decide +kernel
theorem dX12_plays_106 : decode cX12_plays 106 = .ok (.ifCond .ne 12, 3) := by decide +kernel
theorem dX12_plays_109 : decode cX12_plays 109 = .ok (.aload_n 0, 1) := by decide +kernel
theorem dX12_plays_110 : decode cX12_plays 110 = .ok (.getfield 71, 3) := by decide +kernel
theorem dX12_plays_113 : decode cX12_plays 113 = .ok (.iload_n 3, 1) := by decide +kernel
theorem dX12_plays_114 : decode cX12_plays 114 = .ok (.iaload, 1) := by decide +kernel
theorem dX12_plays_115 : decode cX12_plays 115 = .ok (.goto 9, 3) := by decide +kernel
theorem dX12_plays_118 : decode cX12_plays 118 = .ok (.aload_n 0, 1) := by decide +kernel
theorem dX12_plays_119 : decode cX12_plays 119 = .ok (.getfield 65, 3) := by decide +kernel
theorem dX12_plays_122 : decode cX12_plays 122 = .ok (.iload_n 3, 1) := by decide +kernel
theorem dX12_plays_123 : decode cX12_plays 123 = .ok (.iaload, 1) := by decide +kernel
theorem dX12_plays_124 : decode cX12_plays 124 = .ok (.istore 4, 2) := by decide +kernel
theorem dX12_plays_126 : decode cX12_plays 126 = .ok (.iload_n 3, 1) := by decide +kernel
theorem dX12_plays_127 : decode cX12_plays 127 = .ok (.iconst 2, 1) := by decide +kernel
theorem dX12_plays_128 : decode cX12_plays 128 = .ok (.irem, 1) := by decide +kernel
theorem dX12_plays_129 : decode cX12_plays 129 = .ok (.iconst 1, 1) := by decide +kernel
theorem dX12_plays_130 : decode cX12_plays 130 = .ok (.if_icmp .ne 12, 3) := by decide +kernel
theorem dX12_plays_133 : decode cX12_plays 133 = .ok (.aload_n 0, 1) := by decide +kernel
theorem dX12_plays_134 : decode cX12_plays 134 = .ok (.getfield 71, 3) := by decide +kernel
theorem dX12_plays_137 : decode cX12_plays 137 = .ok (.iload_n 3, 1) := by decide +kernel
theorem dX12_plays_138 : decode cX12_plays 138 = .ok (.iaload, 1) := by decide +kernel
theorem dX12_plays_139 : decode cX12_plays 139 = .ok (.goto 9, 3) := by decide +kernel
theorem dX12_plays_142 : decode cX12_plays 142 = .ok (.aload_n 0, 1) := by decide +kernel
theorem dX12_plays_143 : decode cX12_plays 143 = .ok (.getfield 68, 3) := by decide +kernel
theorem dX12_plays_146 : decode cX12_plays 146 = .ok (.iload_n 3, 1) := by decide +kernel
theorem dX12_plays_147 : decode cX12_plays 147 = .ok (.iaload, 1) := by decide +kernel
theorem dX12_plays_148 : decode cX12_plays 148 = .ok (.istore 5, 2) := by decide +kernel
theorem dX12_plays_150 : decode cX12_plays 150 = .ok (.iload_n 3, 1) := by decide +kernel
theorem dX12_plays_151 : decode cX12_plays 151 = .ok (.iconst 1, 1) := by decide +kernel
theorem dX12_plays_152 : decode cX12_plays 152 = .ok (.iadd, 1) := by decide +kernel
theorem dX12_plays_153 : decode cX12_plays 153 = .ok (.iload_n 2, 1) := by decide +kernel
theorem dX12_plays_154 : decode cX12_plays 154 = .ok (.if_icmp .ne 19, 3) := by decide +kernel
theorem dX12_plays_157 : decode cX12_plays 157 = .ok (.aload_n 0, 1) := by decide +kernel
theorem dX12_plays_158 : decode cX12_plays 158 = .ok (.iload_n 3, 1) := by decide +kernel
theorem dX12_plays_159 : decode cX12_plays 159 = .ok (.aload_n 0, 1) := by decide +kernel
theorem dX12_plays_160 : decode cX12_plays 160 = .ok (.iload 4, 2) := by decide +kernel
theorem dX12_plays_162 : decode cX12_plays 162 = .ok (.iload 5, 2) := by decide +kernel
theorem dX12_plays_164 : decode cX12_plays 164 = .ok (.invokevirtual 432, 3) := by decide +kernel
theorem dX12_plays_167 : decode cX12_plays 167 = .ok (.invokevirtual 429, 3) := by decide +kernel
theorem dX12_plays_170 : decode cX12_plays 170 = .ok (.goto 15, 3) := by decide +kernel
theorem dX12_plays_173 : decode cX12_plays 173 = .ok (.iinc 3 1, 3) := by decide +kernel
theorem dX12_plays_176 : decode cX12_plays 176 = .ok (.aload_n 0, 1) := by decide +kernel
theorem dX12_plays_177 : decode cX12_plays 177 = .ok (.iload_n 3, 1) := by decide +kernel
theorem dX12_plays_178 : decode cX12_plays 178 = .ok (.iload 4, 2) := by decide +kernel
theorem dX12_plays_180 : decode cX12_plays 180 = .ok (.iload 5, 2) := by decide +kernel
theorem dX12_plays_182 : decode cX12_plays 182 = .ok (.invokevirtual 422, 3) := by decide +kernel
theorem dX12_plays_185 : decode cX12_plays 185 = .ok (.goto (-166), 3) := by decide +kernel
theorem dX12_plays_188 : decode cX12_plays 188 = .ok (.return_, 1) := by decide +kernel
theorem dX12_game_0 : decode cX12_game 0 = .ok (.aload_n 0, 1) := by decide +kernel
theorem dX12_game_1 : decode cX12_game 1 = .ok (.iload_n 1, 1) := by decide +kernel
theorem dX12_game_2 : decode cX12_game 2 = .ok (.invokevirtual 316, 3) := by decide +kernel
theorem dX12_game_5 : decode cX12_game 5 = .ok (.ifCond .eq 25, 3) := by decide +kernel
theorem dX12_game_8 : decode cX12_game 8 = .ok (.iload_n 2, 1) := by decide +kernel
theorem dX12_game_9 : decode cX12_game 9 = .ok (.i2l, 1) := by decide +kernel
theorem dX12_game_10 : decode cX12_game 10 = .ok (.lconst 1, 1) := by decide +kernel
theorem dX12_game_11 : decode cX12_game 11 = .ok (.ldc2_w 435, 3) := by decide +kernel
theorem dX12_game_14 : decode cX12_game 14 = .ok (.invokestatic 136, 3) := by decide +kernel
theorem dX12_game_17 : decode cX12_game 17 = .ok (.ifCond .eq 13, 3) := by decide +kernel
theorem dX12_game_20 : decode cX12_game 20 = .ok (.iload_n 3, 1) := by decide +kernel
theorem dX12_game_21 : decode cX12_game 21 = .ok (.i2l, 1) := by decide +kernel
theorem dX12_game_22 : decode cX12_game 22 = .ok (.lconst 0, 1) := by decide +kernel
theorem dX12_game_23 : decode cX12_game 23 = .ok (.lconst 1, 1) := by decide +kernel
theorem dX12_game_24 : decode cX12_game 24 = .ok (.invokestatic 136, 3) := by decide +kernel
theorem dX12_game_27 : decode cX12_game 27 = .ok (.ifCond .ne 5, 3) := by decide +kernel
theorem dX12_game_30 : decode cX12_game 30 = .ok (.iconst (-1), 1) := by decide +kernel
theorem dX12_game_31 : decode cX12_game 31 = .ok (.ireturn, 1) := by decide +kernel
theorem dX12_game_32 : decode cX12_game 32 = .ok (.aload_n 0, 1) := by decide +kernel
theorem dX12_game_33 : decode cX12_game 33 = .ok (.iload_n 1, 1) := by decide +kernel
theorem dX12_game_34 : decode cX12_game 34 = .ok (.iload_n 2, 1) := by decide +kernel
theorem dX12_game_35 : decode cX12_game 35 = .ok (.invokevirtual 437, 3) := by decide +kernel
theorem dX12_game_38 : decode cX12_game 38 = .ok (.iload_n 3, 1) := by decide +kernel
theorem dX12_game_39 : decode cX12_game 39 = .ok (.ifCond .ne 12, 3) := by decide +kernel
theorem dX12_game_42 : decode cX12_game 42 = .ok (.aload_n 0, 1) := by decide +kernel
theorem dX12_game_43 : decode cX12_game 43 = .ok (.getfield 74, 3) := by decide +kernel
theorem dX12_game_46 : decode cX12_game 46 = .ok (.iconst 0, 1) := by decide +kernel
theorem dX12_game_47 : decode cX12_game 47 = .ok (.iaload, 1) := by decide +kernel
theorem dX12_game_48 : decode cX12_game 48 = .ok (.goto 7, 3) := by decide +kernel
theorem dX12_game_51 : decode cX12_game 51 = .ok (.aload_n 0, 1) := by decide +kernel
theorem dX12_game_52 : decode cX12_game 52 = .ok (.getfield 419, 3) := by decide +kernel
theorem dX12_game_55 : decode cX12_game 55 = .ok (.ireturn, 1) := by decide +kernel
theorem dX12_areAlike_0 : decode cX12_areAlike 0 = .ok (.iconst 0, 1) := by decide +kernel
theorem dX12_areAlike_1 : decode cX12_areAlike 1 = .ok (.istore_n 3, 1) := by decide +kernel
theorem dX12_areAlike_2 : decode cX12_areAlike 2 = .ok (.iload_n 3, 1) := by decide +kernel
theorem dX12_areAlike_3 : decode cX12_areAlike 3 = .ok (.bipush 6, 2) := by decide +kernel
theorem dX12_areAlike_5 : decode cX12_areAlike 5 = .ok (.if_icmp .ge 30, 3) := by decide +kernel
theorem dX12_areAlike_8 : decode cX12_areAlike 8 = .ok (.aload_n 0, 1) := by decide +kernel
theorem dX12_areAlike_9 : decode cX12_areAlike 9 = .ok (.getfield 77, 3) := by decide +kernel
theorem dX12_areAlike_12 : decode cX12_areAlike 12 = .ok (.iload_n 1, 1) := by decide +kernel
theorem dX12_areAlike_13 : decode cX12_areAlike 13 = .ok (.iload_n 3, 1) := by decide +kernel
theorem dX12_areAlike_14 : decode cX12_areAlike 14 = .ok (.iadd, 1) := by decide +kernel
theorem dX12_areAlike_15 : decode cX12_areAlike 15 = .ok (.iaload, 1) := by decide +kernel
theorem dX12_areAlike_16 : decode cX12_areAlike 16 = .ok (.aload_n 0, 1) := by decide +kernel
theorem dX12_areAlike_17 : decode cX12_areAlike 17 = .ok (.getfield 77, 3) := by decide +kernel
theorem dX12_areAlike_20 : decode cX12_areAlike 20 = .ok (.iload_n 2, 1) := by decide +kernel
theorem dX12_areAlike_21 : decode cX12_areAlike 21 = .ok (.iload_n 3, 1) := by decide +kernel
theorem dX12_areAlike_22 : decode cX12_areAlike 22 = .ok (.iadd, 1) := by decide +kernel
theorem dX12_areAlike_23 : decode cX12_areAlike 23 = .ok (.iaload, 1) := by decide +kernel
theorem dX12_areAlike_24 : decode cX12_areAlike 24 = .ok (.if_icmp .eq 5, 3) := by decide +kernel
theorem dX12_areAlike_27 : decode cX12_areAlike 27 = .ok (.iconst 0, 1) := by decide +kernel
theorem dX12_areAlike_28 : decode cX12_areAlike 28 = .ok (.ireturn, 1) := by decide +kernel
theorem dX12_areAlike_29 : decode cX12_areAlike 29 = .ok (.iinc 3 1, 3) := by decide +kernel
theorem dX12_areAlike_32 : decode cX12_areAlike 32 = .ok (.goto (-30), 3) := by decide +kernel
theorem dX12_areAlike_35 : decode cX12_areAlike 35 = .ok (.iconst 1, 1) := by decide +kernel
theorem dX12_areAlike_36 : decode cX12_areAlike 36 = .ok (.ireturn, 1) := by decide +kernel
theorem dX12_ring_0 : decode cX12_ring 0 = .ok (.aload_n 0, 1) := by decide +kernel
theorem dX12_ring_1 : decode cX12_ring 1 = .ok (.invokevirtual 373, 3) := by decide +kernel
theorem dX12_ring_4 : decode cX12_ring 4 = .ok (.ifCond .eq 13, 3) := by decide +kernel
theorem dX12_ring_7 : decode cX12_ring 7 = .ok (.iload_n 1, 1) := by decide +kernel
theorem dX12_ring_8 : decode cX12_ring 8 = .ok (.i2l, 1) := by decide +kernel
theorem dX12_ring_9 : decode cX12_ring 9 = .ok (.lconst 0, 1) := by decide +kernel
theorem dX12_ring_10 : decode cX12_ring 10 = .ok (.lconst 1, 1) := by decide +kernel
theorem dX12_ring_11 : decode cX12_ring 11 = .ok (.invokestatic 136, 3) := by decide +kernel
theorem dX12_ring_14 : decode cX12_ring 14 = .ok (.ifCond .ne 5, 3) := by decide +kernel
theorem dX12_ring_17 : decode cX12_ring 17 = .ok (.iconst (-1), 1) := by decide +kernel
theorem dX12_ring_18 : decode cX12_ring 18 = .ok (.ireturn, 1) := by decide +kernel
theorem dX12_ring_19 : decode cX12_ring 19 = .ok (.aload_n 0, 1) := by decide +kernel
theorem dX12_ring_20 : decode cX12_ring 20 = .ok (.invokevirtual 389, 3) := by decide +kernel
theorem dX12_ring_23 : decode cX12_ring 23 = .ok (.iconst 0, 1) := by decide +kernel
theorem dX12_ring_24 : decode cX12_ring 24 = .ok (.istore_n 2, 1) := by decide +kernel
theorem dX12_ring_25 : decode cX12_ring 25 = .ok (.iload_n 2, 1) := by decide +kernel
theorem dX12_ring_26 : decode cX12_ring 26 = .ok (.bipush 66, 2) := by decide +kernel
theorem dX12_ring_28 : decode cX12_ring 28 = .ok (.if_icmp .ge 27, 3) := by decide +kernel
theorem dX12_ring_31 : decode cX12_ring 31 = .ok (.aload_n 0, 1) := by decide +kernel
theorem dX12_ring_32 : decode cX12_ring 32 = .ok (.getfield 77, 3) := by decide +kernel
theorem dX12_ring_35 : decode cX12_ring 35 = .ok (.iload_n 2, 1) := by decide +kernel
theorem dX12_ring_36 : decode cX12_ring 36 = .ok (.aload_n 0, 1) := by decide +kernel
theorem dX12_ring_37 : decode cX12_ring 37 = .ok (.getfield 39, 3) := by decide +kernel
theorem dX12_ring_40 : decode cX12_ring 40 = .ok (.bipush 11, 2) := by decide +kernel
theorem dX12_ring_42 : decode cX12_ring 42 = .ok (.iaload, 1) := by decide +kernel
theorem dX12_ring_43 : decode cX12_ring 43 = .ok (.iastore, 1) := by decide +kernel
theorem dX12_ring_44 : decode cX12_ring 44 = .ok (.aload_n 0, 1) := by decide +kernel
theorem dX12_ring_45 : decode cX12_ring 45 = .ok (.invokevirtual 370, 3) := by decide +kernel
theorem dX12_ring_48 : decode cX12_ring 48 = .ok (.pop, 1) := by decide +kernel
theorem dX12_ring_49 : decode cX12_ring 49 = .ok (.iinc 2 1, 3) := by decide +kernel
theorem dX12_ring_52 : decode cX12_ring 52 = .ok (.goto (-27), 3) := by decide +kernel
theorem dX12_ring_55 : decode cX12_ring 55 = .ok (.aload_n 0, 1) := by decide +kernel
theorem dX12_ring_56 : decode cX12_ring 56 = .ok (.invokevirtual 398, 3) := by decide +kernel
theorem dX12_ring_59 : decode cX12_ring 59 = .ok (.iconst 0, 1) := by decide +kernel
theorem dX12_ring_60 : decode cX12_ring 60 = .ok (.istore_n 2, 1) := by decide +kernel
theorem dX12_ring_61 : decode cX12_ring 61 = .ok (.iload_n 2, 1) := by decide +kernel
theorem dX12_ring_62 : decode cX12_ring 62 = .ok (.bipush 60, 2) := by decide +kernel
theorem dX12_ring_64 : decode cX12_ring 64 = .ok (.if_icmp .ge 54, 3) := by decide +kernel
theorem dX12_ring_67 : decode cX12_ring 67 = .ok (.iload_n 2, 1) := by decide +kernel
theorem dX12_ring_68 : decode cX12_ring 68 = .ok (.iconst 1, 1) := by decide +kernel
theorem dX12_ring_69 : decode cX12_ring 69 = .ok (.iadd, 1) := by decide +kernel
theorem dX12_ring_70 : decode cX12_ring 70 = .ok (.istore_n 3, 1) := by decide +kernel
theorem dX12_ring_71 : decode cX12_ring 71 = .ok (.iload_n 3, 1) := by decide +kernel
theorem dX12_ring_72 : decode cX12_ring 72 = .ok (.bipush 60, 2) := by decide +kernel
theorem dX12_ring_74 : decode cX12_ring 74 = .ok (.if_icmp .gt 38, 3) := by decide +kernel
theorem dX12_ring_77 : decode cX12_ring 77 = .ok (.aload_n 0, 1) := by decide +kernel
theorem dX12_ring_78 : decode cX12_ring 78 = .ok (.iload_n 2, 1) := by decide +kernel
theorem dX12_ring_79 : decode cX12_ring 79 = .ok (.iload_n 3, 1) := by decide +kernel
theorem dX12_ring_80 : decode cX12_ring 80 = .ok (.invokevirtual 440, 3) := by decide +kernel
theorem dX12_ring_83 : decode cX12_ring 83 = .ok (.ifCond .eq 23, 3) := by decide +kernel
theorem dX12_ring_86 : decode cX12_ring 86 = .ok (.iload_n 1, 1) := by decide +kernel
theorem dX12_ring_87 : decode cX12_ring 87 = .ok (.ifCond .ne 15, 3) := by decide +kernel
theorem dX12_ring_90 : decode cX12_ring 90 = .ok (.aload_n 0, 1) := by decide +kernel
theorem dX12_ring_91 : decode cX12_ring 91 = .ok (.getfield 39, 3) := by decide +kernel
theorem dX12_ring_94 : decode cX12_ring 94 = .ok (.bipush 10, 2) := by decide +kernel
theorem dX12_ring_96 : decode cX12_ring 96 = .ok (.iaload, 1) := by decide +kernel
theorem dX12_ring_97 : decode cX12_ring 97 = .ok (.iload_n 2, 1) := by decide +kernel
theorem dX12_ring_98 : decode cX12_ring 98 = .ok (.iadd, 1) := by decide +kernel
theorem dX12_ring_99 : decode cX12_ring 99 = .ok (.goto 6, 3) := by decide +kernel
theorem dX12_ring_102 : decode cX12_ring 102 = .ok (.iload_n 3, 1) := by decide +kernel
theorem dX12_ring_103 : decode cX12_ring 103 = .ok (.iload_n 2, 1) := by decide +kernel
theorem dX12_ring_104 : decode cX12_ring 104 = .ok (.isub, 1) := by decide +kernel
theorem dX12_ring_105 : decode cX12_ring 105 = .ok (.ireturn, 1) := by decide +kernel
theorem dX12_ring_106 : decode cX12_ring 106 = .ok (.iinc 3 1, 3) := by decide +kernel
theorem dX12_ring_109 : decode cX12_ring 109 = .ok (.goto (-38), 3) := by decide +kernel
theorem dX12_ring_112 : decode cX12_ring 112 = .ok (.iinc 2 1, 3) := by decide +kernel
theorem dX12_ring_115 : decode cX12_ring 115 = .ok (.goto (-54), 3) := by decide +kernel
theorem dX12_ring_118 : decode cX12_ring 118 = .ok (.bipush (-2), 2) := by decide +kernel
theorem dX12_ring_120 : decode cX12_ring 120 = .ok (.ireturn, 1) := by decide +kernel
theorem dX12_note_0 : decode cX12_note 0 = .ok (.iload_n 1, 1) := by decide +kernel
theorem dX12_note_1 : decode cX12_note 1 = .ok (.iconst (-1), 1) := by decide +kernel
theorem dX12_note_2 : decode cX12_note 2 = .ok (.if_icmp .ne 14, 3) := by decide +kernel
theorem dX12_note_5 : decode cX12_note 5 = .ok (.aload_n 0, 1) := by decide +kernel
theorem dX12_note_6 : decode cX12_note 6 = .ok (.getfield 39, 3) := by decide +kernel
theorem dX12_note_9 : decode cX12_note 9 = .ok (.sipush 178, 3) := by decide +kernel
theorem dX12_note_12 : decode cX12_note 12 = .ok (.iconst 0, 1) := by decide +kernel
theorem dX12_note_13 : decode cX12_note 13 = .ok (.iastore, 1) := by decide +kernel
theorem dX12_note_14 : decode cX12_note 14 = .ok (.iconst 0, 1) := by decide +kernel
theorem dX12_note_15 : decode cX12_note 15 = .ok (.ireturn, 1) := by decide +kernel
theorem dX12_note_16 : decode cX12_note 16 = .ok (.iload_n 1, 1) := by decide +kernel
theorem dX12_note_17 : decode cX12_note 17 = .ok (.i2l, 1) := by decide +kernel
theorem dX12_note_18 : decode cX12_note 18 = .ok (.lconst 0, 1) := by decide +kernel
theorem dX12_note_19 : decode cX12_note 19 = .ok (.ldc2_w 443, 3) := by decide +kernel
theorem dX12_note_22 : decode cX12_note 22 = .ok (.invokestatic 136, 3) := by decide +kernel
theorem dX12_note_25 : decode cX12_note 25 = .ok (.ifCond .eq 24, 3) := by decide +kernel
theorem dX12_note_28 : decode cX12_note 28 = .ok (.aload_n 0, 1) := by decide +kernel
theorem dX12_note_29 : decode cX12_note 29 = .ok (.iload_n 2, 1) := by decide +kernel
theorem dX12_note_30 : decode cX12_note 30 = .ok (.invokevirtual 321, 3) := by decide +kernel
theorem dX12_note_33 : decode cX12_note 33 = .ok (.ifCond .eq 16, 3) := by decide +kernel
theorem dX12_note_36 : decode cX12_note 36 = .ok (.aload_n 0, 1) := by decide +kernel
theorem dX12_note_37 : decode cX12_note 37 = .ok (.getfield 39, 3) := by decide +kernel
theorem dX12_note_40 : decode cX12_note 40 = .ok (.sipush 178, 3) := by decide +kernel
theorem dX12_note_43 : decode cX12_note 43 = .ok (.iaload, 1) := by decide +kernel
theorem dX12_note_44 : decode cX12_note 44 = .ok (.bipush 10, 2) := by decide +kernel
theorem dX12_note_46 : decode cX12_note 46 = .ok (.if_icmp .ne 6, 3) := by decide +kernel
theorem dX12_note_49 : decode cX12_note 49 = .ok (.bipush (-2), 2) := by decide +kernel
theorem dX12_note_51 : decode cX12_note 51 = .ok (.ireturn, 1) := by decide +kernel
theorem dX12_note_52 : decode cX12_note 52 = .ok (.sipush 158, 3) := by decide +kernel
theorem dX12_note_55 : decode cX12_note 55 = .ok (.iconst 2, 1) := by decide +kernel
theorem dX12_note_56 : decode cX12_note 56 = .ok (.aload_n 0, 1) := by decide +kernel
theorem dX12_note_57 : decode cX12_note 57 = .ok (.getfield 39, 3) := by decide +kernel
theorem dX12_note_60 : decode cX12_note 60 = .ok (.sipush 178, 3) := by decide +kernel
theorem dX12_note_63 : decode cX12_note 63 = .ok (.iaload, 1) := by decide +kernel
theorem dX12_note_64 : decode cX12_note 64 = .ok (.imul, 1) := by decide +kernel
theorem dX12_note_65 : decode cX12_note 65 = .ok (.iadd, 1) := by decide +kernel
theorem dX12_note_66 : decode cX12_note 66 = .ok (.istore_n 3, 1) := by decide +kernel
theorem dX12_note_67 : decode cX12_note 67 = .ok (.aload_n 0, 1) := by decide +kernel
theorem dX12_note_68 : decode cX12_note 68 = .ok (.getfield 39, 3) := by decide +kernel
theorem dX12_note_71 : decode cX12_note 71 = .ok (.iload_n 3, 1) := by decide +kernel
theorem dX12_note_72 : decode cX12_note 72 = .ok (.iload_n 1, 1) := by decide +kernel
theorem dX12_note_73 : decode cX12_note 73 = .ok (.iastore, 1) := by decide +kernel
theorem dX12_note_74 : decode cX12_note 74 = .ok (.aload_n 0, 1) := by decide +kernel
theorem dX12_note_75 : decode cX12_note 75 = .ok (.getfield 39, 3) := by decide +kernel
theorem dX12_note_78 : decode cX12_note 78 = .ok (.iload_n 3, 1) := by decide +kernel
theorem dX12_note_79 : decode cX12_note 79 = .ok (.iconst 1, 1) := by decide +kernel
theorem dX12_note_80 : decode cX12_note 80 = .ok (.iadd, 1) := by decide +kernel
theorem dX12_note_81 : decode cX12_note 81 = .ok (.iload_n 2, 1) := by decide +kernel
theorem dX12_note_82 : decode cX12_note 82 = .ok (.iastore, 1) := by decide +kernel
theorem dX12_note_83 : decode cX12_note 83 = .ok (.aload_n 0, 1) := by decide +kernel
theorem dX12_note_84 : decode cX12_note 84 = .ok (.getfield 39, 3) := by decide +kernel
theorem dX12_note_87 : decode cX12_note 87 = .ok (.sipush 178, 3) := by decide +kernel
theorem dX12_note_90 : decode cX12_note 90 = .ok (.dup2, 1) := by decide +kernel
theorem dX12_note_91 : decode cX12_note 91 = .ok (.iaload, 1) := by decide +kernel
theorem dX12_note_92 : decode cX12_note 92 = .ok (.iconst 1, 1) := by decide +kernel
theorem dX12_note_93 : decode cX12_note 93 = .ok (.iadd, 1) := by decide +kernel
theorem dX12_note_94 : decode cX12_note 94 = .ok (.iastore, 1) := by decide +kernel
theorem dX12_note_95 : decode cX12_note 95 = .ok (.aload_n 0, 1) := by decide +kernel
theorem dX12_note_96 : decode cX12_note 96 = .ok (.getfield 39, 3) := by decide +kernel
theorem dX12_note_99 : decode cX12_note 99 = .ok (.sipush 178, 3) := by decide +kernel
theorem dX12_note_102 : decode cX12_note 102 = .ok (.iaload, 1) := by decide +kernel
theorem dX12_note_103 : decode cX12_note 103 = .ok (.ireturn, 1) := by decide +kernel
theorem dX12_spot_0 : decode cX12_spot 0 = .ok (.bipush 61, 2) := by decide +kernel
theorem dX12_spot_2 : decode cX12_spot 2 = .ok (.iload_n 0, 1) := by decide +kernel
theorem dX12_spot_3 : decode cX12_spot 3 = .ok (.imul, 1) := by decide +kernel
theorem dX12_spot_4 : decode cX12_spot 4 = .ok (.iload_n 1, 1) := by decide +kernel
theorem dX12_spot_5 : decode cX12_spot 5 = .ok (.iadd, 1) := by decide +kernel
theorem dX12_spot_6 : decode cX12_spot 6 = .ok (.ireturn, 1) := by decide +kernel
theorem dX12_areNotesSo_0 : decode cX12_areNotesSo 0 = .ok (.iconst 0, 1) := by decide +kernel
theorem dX12_areNotesSo_1 : decode cX12_areNotesSo 1 = .ok (.istore_n 2, 1) := by decide +kernel
theorem dX12_areNotesSo_2 : decode cX12_areNotesSo 2 = .ok (.iload_n 2, 1) := by decide +kernel
theorem dX12_areNotesSo_3 : decode cX12_areNotesSo 3 = .ok (.iconst 2, 1) := by decide +kernel
theorem dX12_areNotesSo_4 : decode cX12_areNotesSo 4 = .ok (.aload_n 0, 1) := by decide +kernel
theorem dX12_areNotesSo_5 : decode cX12_areNotesSo 5 = .ok (.getfield 39, 3) := by decide +kernel
theorem dX12_areNotesSo_8 : decode cX12_areNotesSo 8 = .ok (.sipush 178, 3) := by decide +kernel
theorem dX12_areNotesSo_11 : decode cX12_areNotesSo 11 = .ok (.iaload, 1) := by decide +kernel
theorem dX12_areNotesSo_12 : decode cX12_areNotesSo 12 = .ok (.imul, 1) := by decide +kernel
theorem dX12_areNotesSo_13 : decode cX12_areNotesSo 13 = .ok (.if_icmp .ge 45, 3) := by decide +kernel
theorem dX12_areNotesSo_16 : decode cX12_areNotesSo 16 = .ok (.aload_n 0, 1) := by decide +kernel
theorem dX12_areNotesSo_17 : decode cX12_areNotesSo 17 = .ok (.getfield 83, 3) := by decide +kernel
theorem dX12_areNotesSo_20 : decode cX12_areNotesSo 20 = .ok (.iload_n 1, 1) := by decide +kernel
theorem dX12_areNotesSo_21 : decode cX12_areNotesSo 21 = .ok (.aload_n 0, 1) := by decide +kernel
theorem dX12_areNotesSo_22 : decode cX12_areNotesSo 22 = .ok (.getfield 39, 3) := by decide +kernel
theorem dX12_areNotesSo_25 : decode cX12_areNotesSo 25 = .ok (.sipush 158, 3) := by decide +kernel
theorem dX12_areNotesSo_28 : decode cX12_areNotesSo 28 = .ok (.iload_n 2, 1) := by decide +kernel
theorem dX12_areNotesSo_29 : decode cX12_areNotesSo 29 = .ok (.iadd, 1) := by decide +kernel
theorem dX12_areNotesSo_30 : decode cX12_areNotesSo 30 = .ok (.iaload, 1) := by decide +kernel
theorem dX12_areNotesSo_31 : decode cX12_areNotesSo 31 = .ok (.invokestatic 445, 3) := by decide +kernel
theorem dX12_areNotesSo_34 : decode cX12_areNotesSo 34 = .ok (.iaload, 1) := by decide +kernel
theorem dX12_areNotesSo_35 : decode cX12_areNotesSo 35 = .ok (.aload_n 0, 1) := by decide +kernel
theorem dX12_areNotesSo_36 : decode cX12_areNotesSo 36 = .ok (.getfield 39, 3) := by decide +kernel
theorem dX12_areNotesSo_39 : decode cX12_areNotesSo 39 = .ok (.sipush 158, 3) := by decide +kernel
theorem dX12_areNotesSo_42 : decode cX12_areNotesSo 42 = .ok (.iload_n 2, 1) := by decide +kernel
theorem dX12_areNotesSo_43 : decode cX12_areNotesSo 43 = .ok (.iadd, 1) := by decide +kernel
theorem dX12_areNotesSo_44 : decode cX12_areNotesSo 44 = .ok (.iconst 1, 1) := by decide +kernel
theorem dX12_areNotesSo_45 : decode cX12_areNotesSo 45 = .ok (.iadd, 1) := by decide +kernel
theorem dX12_areNotesSo_46 : decode cX12_areNotesSo 46 = .ok (.iaload, 1) := by decide +kernel
theorem dX12_areNotesSo_47 : decode cX12_areNotesSo 47 = .ok (.if_icmp .eq 5, 3) := by decide +kernel
theorem dX12_areNotesSo_50 : decode cX12_areNotesSo 50 = .ok (.iconst 0, 1) := by decide +kernel
theorem dX12_areNotesSo_51 : decode cX12_areNotesSo 51 = .ok (.ireturn, 1) := by decide +kernel
theorem dX12_areNotesSo_52 : decode cX12_areNotesSo 52 = .ok (.iinc 2 2, 3) := by decide +kernel
theorem dX12_areNotesSo_55 : decode cX12_areNotesSo 55 = .ok (.goto (-53), 3) := by decide +kernel
theorem dX12_areNotesSo_58 : decode cX12_areNotesSo 58 = .ok (.iconst 1, 1) := by decide +kernel
theorem dX12_areNotesSo_59 : decode cX12_areNotesSo 59 = .ok (.ireturn, 1) := by decide +kernel
theorem dX12_fillsFits_0 : decode cX12_fillsFits 0 = .ok (.aload_n 0, 1) := by decide +kernel
theorem dX12_fillsFits_1 : decode cX12_fillsFits 1 = .ok (.getfield 42, 3) := by decide +kernel
theorem dX12_fillsFits_4 : decode cX12_fillsFits 4 = .ok (.istore_n 1, 1) := by decide +kernel
theorem dX12_fillsFits_5 : decode cX12_fillsFits 5 = .ok (.aload_n 0, 1) := by decide +kernel
theorem dX12_fillsFits_6 : decode cX12_fillsFits 6 = .ok (.invokevirtual 389, 3) := by decide +kernel
theorem dX12_fillsFits_9 : decode cX12_fillsFits 9 = .ok (.iconst 0, 1) := by decide +kernel
theorem dX12_fillsFits_10 : decode cX12_fillsFits 10 = .ok (.istore_n 2, 1) := by decide +kernel
theorem dX12_fillsFits_11 : decode cX12_fillsFits 11 = .ok (.iload_n 2, 1) := by decide +kernel
theorem dX12_fillsFits_12 : decode cX12_fillsFits 12 = .ok (.aload_n 0, 1) := by decide +kernel
theorem dX12_fillsFits_13 : decode cX12_fillsFits 13 = .ok (.getfield 273, 3) := by decide +kernel
theorem dX12_fillsFits_16 : decode cX12_fillsFits 16 = .ok (.if_icmp .gt 67, 3) := by decide +kernel
theorem dX12_fillsFits_19 : decode cX12_fillsFits 19 = .ok (.aload_n 0, 1) := by decide +kernel
theorem dX12_fillsFits_20 : decode cX12_fillsFits 20 = .ok (.iload_n 2, 1) := by decide +kernel
theorem dX12_fillsFits_21 : decode cX12_fillsFits 21 = .ok (.iconst 1, 1) := by decide +kernel
theorem dX12_fillsFits_22 : decode cX12_fillsFits 22 = .ok (.isub, 1) := by decide +kernel
theorem dX12_fillsFits_23 : decode cX12_fillsFits 23 = .ok (.putfield 42, 3) := by decide +kernel
theorem dX12_fillsFits_26 : decode cX12_fillsFits 26 = .ok (.aload_n 0, 1) := by decide +kernel
theorem dX12_fillsFits_27 : decode cX12_fillsFits 27 = .ok (.invokevirtual 279, 3) := by decide +kernel
theorem dX12_fillsFits_30 : decode cX12_fillsFits 30 = .ok (.iconst 0, 1) := by decide +kernel
theorem dX12_fillsFits_31 : decode cX12_fillsFits 31 = .ok (.istore_n 3, 1) := by decide +kernel
theorem dX12_fillsFits_32 : decode cX12_fillsFits 32 = .ok (.iload_n 3, 1) := by decide +kernel
theorem dX12_fillsFits_33 : decode cX12_fillsFits 33 = .ok (.bipush 60, 2) := by decide +kernel
theorem dX12_fillsFits_35 : decode cX12_fillsFits 35 = .ok (.if_icmp .gt 31, 3) := by decide +kernel
theorem dX12_fillsFits_38 : decode cX12_fillsFits 38 = .ok (.aload_n 0, 1) := by decide +kernel
theorem dX12_fillsFits_39 : decode cX12_fillsFits 39 = .ok (.getfield 83, 3) := by decide +kernel
theorem dX12_fillsFits_42 : decode cX12_fillsFits 42 = .ok (.iload_n 2, 1) := by decide +kernel
theorem dX12_fillsFits_43 : decode cX12_fillsFits 43 = .ok (.iload_n 3, 1) := by decide +kernel
theorem dX12_fillsFits_44 : decode cX12_fillsFits 44 = .ok (.invokestatic 445, 3) := by decide +kernel
theorem dX12_fillsFits_47 : decode cX12_fillsFits 47 = .ok (.aload_n 0, 1) := by decide +kernel
theorem dX12_fillsFits_48 : decode cX12_fillsFits 48 = .ok (.getfield 39, 3) := by decide +kernel
theorem dX12_fillsFits_51 : decode cX12_fillsFits 51 = .ok (.bipush 11, 2) := by decide +kernel
theorem dX12_fillsFits_53 : decode cX12_fillsFits 53 = .ok (.iaload, 1) := by decide +kernel
theorem dX12_fillsFits_54 : decode cX12_fillsFits 54 = .ok (.iastore, 1) := by decide +kernel
theorem dX12_fillsFits_55 : decode cX12_fillsFits 55 = .ok (.aload_n 0, 1) := by decide +kernel
theorem dX12_fillsFits_56 : decode cX12_fillsFits 56 = .ok (.invokevirtual 370, 3) := by decide +kernel
theorem dX12_fillsFits_59 : decode cX12_fillsFits 59 = .ok (.pop, 1) := by decide +kernel
theorem dX12_fillsFits_60 : decode cX12_fillsFits 60 = .ok (.iinc 3 1, 3) := by decide +kernel
theorem dX12_fillsFits_63 : decode cX12_fillsFits 63 = .ok (.goto (-31), 3) := by decide +kernel
theorem dX12_fillsFits_66 : decode cX12_fillsFits 66 = .ok (.aload_n 0, 1) := by decide +kernel
theorem dX12_fillsFits_67 : decode cX12_fillsFits 67 = .ok (.getfield 80, 3) := by decide +kernel
theorem dX12_fillsFits_70 : decode cX12_fillsFits 70 = .ok (.iload_n 2, 1) := by decide +kernel
theorem dX12_fillsFits_71 : decode cX12_fillsFits 71 = .ok (.aload_n 0, 1) := by decide +kernel
