theorem dX5_takeOpening_1 : decode cX5_takeOpening 1 = .ok (.getfield 9, 3) := by decide +kernel
theorem dX5_takeOpening_4 : decode cX5_takeOpening 4 = .ok (.invokevirtual 97, 3) := by decide +kernel
theorem dX5_takeOpening_7 : decode cX5_takeOpening 7 = .ok (.bipush 91, 2) := by decide +kernel
theorem dX5_takeOpening_9 : decode cX5_takeOpening 9 = .ok (.if_icmp .ne 43, 3) := by decide +kernel
theorem dX5_takeOpening_12 : decode cX5_takeOpening 12 = .ok (.aload_n 0, 1) := by decide +kernel
theorem dX5_takeOpening_13 : decode cX5_takeOpening 13 = .ok (.getfield 9, 3) := by decide +kernel
theorem dX5_takeOpening_16 : decode cX5_takeOpening 16 = .ok (.aload_n 0, 1) := by decide +kernel
theorem dX5_takeOpening_17 : decode cX5_takeOpening 17 = .ok (.getfield 9, 3) := by decide +kernel
theorem dX5_takeOpening_20 : decode cX5_takeOpening 20 = .ok (.getfield 100, 3) := by decide +kernel
theorem dX5_takeOpening_23 : decode cX5_takeOpening 23 = .ok (.putfield 41, 3) := by decide +kernel
theorem dX5_takeOpening_26 : decode cX5_takeOpening 26 = .ok (.aload_n 0, 1) := by decide +kernel
theorem dX5_takeOpening_27 : decode cX5_takeOpening 27 = .ok (.getfield 9, 3) := by decide +kernel
theorem dX5_takeOpening_30 : decode cX5_takeOpening 30 = .ok (.dup, 1) := by decide +kernel
theorem dX5_takeOpening_31 : decode cX5_takeOpening 31 = .ok (.getfield 100, 3) := by decide +kernel
theorem dX5_takeOpening_34 : decode cX5_takeOpening 34 = .ok (.iconst 1, 1) := by decide +kernel
theorem dX5_takeOpening_35 : decode cX5_takeOpening 35 = .ok (.iadd, 1) := by decide +kernel
theorem dX5_takeOpening_36 : decode cX5_takeOpening 36 = .ok (.putfield 100, 3) := by decide +kernel
theorem dX5_takeOpening_39 : decode cX5_takeOpening 39 = .ok (.aload_n 0, 1) := by decide +kernel
theorem dX5_takeOpening_40 : decode cX5_takeOpening 40 = .ok (.dup, 1) := by decide +kernel
theorem dX5_takeOpening_41 : decode cX5_takeOpening 41 = .ok (.getfield 75, 3) := by decide +kernel
theorem dX5_takeOpening_44 : decode cX5_takeOpening 44 = .ok (.iconst 1, 1) := by decide +kernel
theorem dX5_takeOpening_45 : decode cX5_takeOpening 45 = .ok (.iadd, 1) := by decide +kernel
theorem dX5_takeOpening_46 : decode cX5_takeOpening 46 = .ok (.putfield 75, 3) := by decide +kernel
theorem dX5_takeOpening_49 : decode cX5_takeOpening 49 = .ok (.bipush (-33), 2) := by decide +kernel
theorem dX5_takeOpening_51 : decode cX5_takeOpening 51 = .ok (.ireturn, 1) := by decide +kernel
theorem dX5_takeOpening_52 : decode cX5_takeOpening 52 = .ok (.aload_n 0, 1) := by decide +kernel
theorem dX5_takeOpening_53 : decode cX5_takeOpening 53 = .ok (.getfield 9, 3) := by decide +kernel
theorem dX5_takeOpening_56 : decode cX5_takeOpening 56 = .ok (.invokevirtual 32, 3) := by decide +kernel
theorem dX5_takeOpening_59 : decode cX5_takeOpening 59 = .ok (.aload_n 0, 1) := by decide +kernel
theorem dX5_takeOpening_60 : decode cX5_takeOpening 60 = .ok (.getfield 9, 3) := by decide +kernel
theorem dX5_takeOpening_63 : decode cX5_takeOpening 63 = .ok (.ldc 103, 2) := by decide +kernel
theorem dX5_takeOpening_65 : decode cX5_takeOpening 65 = .ok (.invokevirtual 37, 3) := by decide +kernel
theorem dX5_takeOpening_68 : decode cX5_takeOpening 68 = .ok (.ifCond .eq 6, 3) := by decide +kernel
theorem dX5_takeOpening_71 : decode cX5_takeOpening 71 = .ok (.bipush (-36), 2) := by decide +kernel
theorem dX5_takeOpening_73 : decode cX5_takeOpening 73 = .ok (.ireturn, 1) := by decide +kernel
theorem dX5_takeOpening_74 : decode cX5_takeOpening 74 = .ok (.aload_n 0, 1) := by decide +kernel
theorem dX5_takeOpening_75 : decode cX5_takeOpening 75 = .ok (.getfield 9, 3) := by decide +kernel
theorem dX5_takeOpening_78 : decode cX5_takeOpening 78 = .ok (.invokevirtual 62, 3) := by decide +kernel
theorem dX5_takeOpening_81 : decode cX5_takeOpening 81 = .ok (.iconst 0, 1) := by decide +kernel
theorem dX5_takeOpening_82 : decode cX5_takeOpening 82 = .ok (.ireturn, 1) := by decide +kernel
theorem dX5_closeFact_0 : decode cX5_closeFact 0 = .ok (.iconst 0, 1) := by decide +kernel
theorem dX5_closeFact_1 : decode cX5_closeFact 1 = .ok (.istore_n 1, 1) := by decide +kernel
theorem dX5_closeFact_2 : decode cX5_closeFact 2 = .ok (.iload_n 1, 1) := by decide +kernel
theorem dX5_closeFact_3 : decode cX5_closeFact 3 = .ok (.bipush 10, 2) := by decide +kernel
theorem dX5_closeFact_5 : decode cX5_closeFact 5 = .ok (.if_icmp .gt 90, 3) := by decide +kernel
theorem dX5_closeFact_8 : decode cX5_closeFact 8 = .ok (.aload_n 0, 1) := by decide +kernel
theorem dX5_closeFact_9 : decode cX5_closeFact 9 = .ok (.bipush (-36), 2) := by decide +kernel
theorem dX5_closeFact_11 : decode cX5_closeFact 11 = .ok (.invokevirtual 105, 3) := by decide +kernel
theorem dX5_closeFact_14 : decode cX5_closeFact 14 = .ok (.aload_n 0, 1) := by decide +kernel
theorem dX5_closeFact_15 : decode cX5_closeFact 15 = .ok (.getfield 75, 3) := by decide +kernel
theorem dX5_closeFact_18 : decode cX5_closeFact 18 = .ok (.ifCond .eq 77, 3) := by decide +kernel
theorem dX5_closeFact_21 : decode cX5_closeFact 21 = .ok (.aload_n 0, 1) := by decide +kernel
theorem dX5_closeFact_22 : decode cX5_closeFact 22 = .ok (.getfield 9, 3) := by decide +kernel
theorem dX5_closeFact_25 : decode cX5_closeFact 25 = .ok (.invokevirtual 97, 3) := by decide +kernel
theorem dX5_closeFact_28 : decode cX5_closeFact 28 = .ok (.bipush 93, 2) := by decide +kernel
theorem dX5_closeFact_30 : decode cX5_closeFact 30 = .ok (.if_icmp .eq 6, 3) := by decide +kernel
theorem dX5_closeFact_33 : decode cX5_closeFact 33 = .ok (.goto 62, 3) := by decide +kernel
theorem dX5_closeFact_36 : decode cX5_closeFact 36 = .ok (.aload_n 0, 1) := by decide +kernel
theorem dX5_closeFact_37 : decode cX5_closeFact 37 = .ok (.getfield 9, 3) := by decide +kernel
theorem dX5_closeFact_40 : decode cX5_closeFact 40 = .ok (.dup, 1) := by decide +kernel
theorem dX5_closeFact_41 : decode cX5_closeFact 41 = .ok (.getfield 100, 3) := by decide +kernel
theorem dX5_closeFact_44 : decode cX5_closeFact 44 = .ok (.iconst 1, 1) := by decide +kernel
theorem dX5_closeFact_45 : decode cX5_closeFact 45 = .ok (.iadd, 1) := by decide +kernel
theorem dX5_closeFact_46 : decode cX5_closeFact 46 = .ok (.putfield 100, 3) := by decide +kernel
theorem dX5_closeFact_49 : decode cX5_closeFact 49 = .ok (.aload_n 0, 1) := by decide +kernel
theorem dX5_closeFact_50 : decode cX5_closeFact 50 = .ok (.bipush (-34), 2) := by decide +kernel
theorem dX5_closeFact_52 : decode cX5_closeFact 52 = .ok (.invokevirtual 105, 3) := by decide +kernel
theorem dX5_closeFact_55 : decode cX5_closeFact 55 = .ok (.aload_n 0, 1) := by decide +kernel
theorem dX5_closeFact_56 : decode cX5_closeFact 56 = .ok (.aload_n 0, 1) := by decide +kernel
theorem dX5_closeFact_57 : decode cX5_closeFact 57 = .ok (.getfield 69, 3) := by decide +kernel
theorem dX5_closeFact_60 : decode cX5_closeFact 60 = .ok (.iconst 1, 1) := by decide +kernel
theorem dX5_closeFact_61 : decode cX5_closeFact 61 = .ok (.isub, 1) := by decide +kernel
theorem dX5_closeFact_62 : decode cX5_closeFact 62 = .ok (.iconst 0, 1) := by decide +kernel
theorem dX5_closeFact_63 : decode cX5_closeFact 63 = .ok (.invokestatic 108, 3) := by decide +kernel
theorem dX5_closeFact_66 : decode cX5_closeFact 66 = .ok (.putfield 69, 3) := by decide +kernel
theorem dX5_closeFact_69 : decode cX5_closeFact 69 = .ok (.aload_n 0, 1) := by decide +kernel
theorem dX5_closeFact_70 : decode cX5_closeFact 70 = .ok (.dup, 1) := by decide +kernel
theorem dX5_closeFact_71 : decode cX5_closeFact 71 = .ok (.getfield 72, 3) := by decide +kernel
theorem dX5_closeFact_74 : decode cX5_closeFact 74 = .ok (.iconst 1, 1) := by decide +kernel
theorem dX5_closeFact_75 : decode cX5_closeFact 75 = .ok (.isub, 1) := by decide +kernel
theorem dX5_closeFact_76 : decode cX5_closeFact 76 = .ok (.putfield 72, 3) := by decide +kernel
theorem dX5_closeFact_79 : decode cX5_closeFact 79 = .ok (.aload_n 0, 1) := by decide +kernel
theorem dX5_closeFact_80 : decode cX5_closeFact 80 = .ok (.dup, 1) := by decide +kernel
theorem dX5_closeFact_81 : decode cX5_closeFact 81 = .ok (.getfield 75, 3) := by decide +kernel
theorem dX5_closeFact_84 : decode cX5_closeFact 84 = .ok (.iconst 1, 1) := by decide +kernel
theorem dX5_closeFact_85 : decode cX5_closeFact 85 = .ok (.isub, 1) := by decide +kernel
theorem dX5_closeFact_86 : decode cX5_closeFact 86 = .ok (.putfield 75, 3) := by decide +kernel
theorem dX5_closeFact_89 : decode cX5_closeFact 89 = .ok (.iinc 1 1, 3) := by decide +kernel
theorem dX5_closeFact_92 : decode cX5_closeFact 92 = .ok (.goto (-90), 3) := by decide +kernel
theorem dX5_closeFact_95 : decode cX5_closeFact 95 = .ok (.aload_n 0, 1) := by decide +kernel
theorem dX5_closeFact_96 : decode cX5_closeFact 96 = .ok (.getfield 9, 3) := by decide +kernel
theorem dX5_closeFact_99 : decode cX5_closeFact 99 = .ok (.invokevirtual 32, 3) := by decide +kernel
theorem dX5_closeFact_102 : decode cX5_closeFact 102 = .ok (.aload_n 0, 1) := by decide +kernel
theorem dX5_closeFact_103 : decode cX5_closeFact 103 = .ok (.getfield 9, 3) := by decide +kernel
theorem dX5_closeFact_106 : decode cX5_closeFact 106 = .ok (.ldc 114, 2) := by decide +kernel
theorem dX5_closeFact_108 : decode cX5_closeFact 108 = .ok (.invokevirtual 37, 3) := by decide +kernel
theorem dX5_closeFact_111 : decode cX5_closeFact 111 = .ok (.ifCond .eq 17, 3) := by decide +kernel
theorem dX5_closeFact_114 : decode cX5_closeFact 114 = .ok (.aload_n 0, 1) := by decide +kernel
theorem dX5_closeFact_115 : decode cX5_closeFact 115 = .ok (.bipush (-35), 2) := by decide +kernel
theorem dX5_closeFact_117 : decode cX5_closeFact 117 = .ok (.invokevirtual 105, 3) := by decide +kernel
theorem dX5_closeFact_120 : decode cX5_closeFact 120 = .ok (.aload_n 0, 1) := by decide +kernel
theorem dX5_closeFact_121 : decode cX5_closeFact 121 = .ok (.bipush (-35), 2) := by decide +kernel
theorem dX5_closeFact_123 : decode cX5_closeFact 123 = .ok (.invokevirtual 94, 3) := by decide +kernel
theorem dX5_closeFact_126 : decode cX5_closeFact 126 = .ok (.iconst 1, 1) := by decide +kernel
theorem dX5_closeFact_127 : decode cX5_closeFact 127 = .ok (.ireturn, 1) := by decide +kernel
theorem dX5_closeFact_128 : decode cX5_closeFact 128 = .ok (.aload_n 0, 1) := by decide +kernel
theorem dX5_closeFact_129 : decode cX5_closeFact 129 = .ok (.bipush (-34), 2) := by decide +kernel
theorem dX5_closeFact_131 : decode cX5_closeFact 131 = .ok (.invokevirtual 105, 3) := by decide +kernel
theorem dX5_closeFact_134 : decode cX5_closeFact 134 = .ok (.aload_n 0, 1) := by decide +kernel
theorem dX5_closeFact_135 : decode cX5_closeFact 135 = .ok (.getfield 9, 3) := by decide +kernel
theorem dX5_closeFact_138 : decode cX5_closeFact 138 = .ok (.ldc 116, 2) := by decide +kernel
theorem dX5_closeFact_140 : decode cX5_closeFact 140 = .ok (.invokevirtual 37, 3) := by decide +kernel
theorem dX5_closeFact_143 : decode cX5_closeFact 143 = .ok (.ifCond .eq 11, 3) := by decide +kernel
theorem dX5_closeFact_146 : decode cX5_closeFact 146 = .ok (.aload_n 0, 1) := by decide +kernel
theorem dX5_closeFact_147 : decode cX5_closeFact 147 = .ok (.bipush (-34), 2) := by decide +kernel
theorem dX5_closeFact_149 : decode cX5_closeFact 149 = .ok (.invokevirtual 94, 3) := by decide +kernel
theorem dX5_closeFact_152 : decode cX5_closeFact 152 = .ok (.iconst 1, 1) := by decide +kernel
theorem dX5_closeFact_153 : decode cX5_closeFact 153 = .ok (.ireturn, 1) := by decide +kernel
theorem dX5_closeFact_154 : decode cX5_closeFact 154 = .ok (.aload_n 0, 1) := by decide +kernel
theorem dX5_closeFact_155 : decode cX5_closeFact 155 = .ok (.getfield 9, 3) := by decide +kernel
theorem dX5_closeFact_158 : decode cX5_closeFact 158 = .ok (.invokevirtual 62, 3) := by decide +kernel
theorem dX5_closeFact_161 : decode cX5_closeFact 161 = .ok (.aload_n 0, 1) := by decide +kernel
theorem dX5_closeFact_162 : decode cX5_closeFact 162 = .ok (.getfield 75, 3) := by decide +kernel
theorem dX5_closeFact_165 : decode cX5_closeFact 165 = .ok (.ifCond .le 18, 3) := by decide +kernel
theorem dX5_closeFact_168 : decode cX5_closeFact 168 = .ok (.aload_n 0, 1) := by decide +kernel
theorem dX5_closeFact_169 : decode cX5_closeFact 169 = .ok (.getfield 9, 3) := by decide +kernel
theorem dX5_closeFact_172 : decode cX5_closeFact 172 = .ok (.aload_n 0, 1) := by decide +kernel
theorem dX5_closeFact_173 : decode cX5_closeFact 173 = .ok (.getfield 9, 3) := by decide +kernel
theorem dX5_closeFact_176 : decode cX5_closeFact 176 = .ok (.getfield 100, 3) := by decide +kernel
theorem dX5_closeFact_179 : decode cX5_closeFact 179 = .ok (.iconst 0, 1) := by decide +kernel
theorem dX5_closeFact_180 : decode cX5_closeFact 180 = .ok (.invokevirtual 44, 3) := by decide +kernel
theorem dX5_closeFact_183 : decode cX5_closeFact 183 = .ok (.iconst 0, 1) := by decide +kernel
theorem dX5_closeFact_184 : decode cX5_closeFact 184 = .ok (.ireturn, 1) := by decide +kernel
theorem dX5_popDownTo_0 : decode cX5_popDownTo 0 = .ok (.aload_n 0, 1) := by decide +kernel
theorem dX5_popDownTo_1 : decode cX5_popDownTo 1 = .ok (.getfield 69, 3) := by decide +kernel
theorem dX5_popDownTo_4 : decode cX5_popDownTo 4 = .ok (.iconst 1, 1) := by decide +kernel
theorem dX5_popDownTo_5 : decode cX5_popDownTo 5 = .ok (.isub, 1) := by decide +kernel
theorem dX5_popDownTo_6 : decode cX5_popDownTo 6 = .ok (.istore_n 2, 1) := by decide +kernel
theorem dX5_popDownTo_7 : decode cX5_popDownTo 7 = .ok (.iload_n 2, 1) := by decide +kernel
theorem dX5_popDownTo_8 : decode cX5_popDownTo 8 = .ok (.ifCond .lt 54, 3) := by decide +kernel
theorem dX5_popDownTo_11 : decode cX5_popDownTo 11 = .ok (.aload_n 0, 1) := by decide +kernel
theorem dX5_popDownTo_12 : decode cX5_popDownTo 12 = .ok (.getfield 19, 3) := by decide +kernel
theorem dX5_popDownTo_15 : decode cX5_popDownTo 15 = .ok (.iload_n 2, 1) := by decide +kernel
theorem dX5_popDownTo_16 : decode cX5_popDownTo 16 = .ok (.iaload, 1) := by decide +kernel
theorem dX5_popDownTo_17 : decode cX5_popDownTo 17 = .ok (.istore_n 3, 1) := by decide +kernel
theorem dX5_popDownTo_18 : decode cX5_popDownTo 18 = .ok (.iload_n 3, 1) := by decide +kernel
theorem dX5_popDownTo_19 : decode cX5_popDownTo 19 = .ok (.bipush (-33), 2) := by decide +kernel
theorem dX5_popDownTo_21 : decode cX5_popDownTo 21 = .ok (.if_icmp .eq 8, 3) := by decide +kernel
theorem dX5_popDownTo_24 : decode cX5_popDownTo 24 = .ok (.iload_n 3, 1) := by decide +kernel
theorem dX5_popDownTo_25 : decode cX5_popDownTo 25 = .ok (.iload_n 1, 1) := by decide +kernel
theorem dX5_popDownTo_26 : decode cX5_popDownTo 26 = .ok (.if_icmp .le 4, 3) := by decide +kernel
theorem dX5_popDownTo_29 : decode cX5_popDownTo 29 = .ok (.return_, 1) := by decide +kernel
theorem dX5_popDownTo_30 : decode cX5_popDownTo 30 = .ok (.iload_n 3, 1) := by decide +kernel
theorem dX5_popDownTo_31 : decode cX5_popDownTo 31 = .ok (.bipush (-36), 2) := by decide +kernel
theorem dX5_popDownTo_33 : decode cX5_popDownTo 33 = .ok (.if_icmp .ne 13, 3) := by decide +kernel
theorem dX5_popDownTo_36 : decode cX5_popDownTo 36 = .ok (.aload_n 0, 1) := by decide +kernel
theorem dX5_popDownTo_37 : decode cX5_popDownTo 37 = .ok (.dup, 1) := by decide +kernel
theorem dX5_popDownTo_38 : decode cX5_popDownTo 38 = .ok (.getfield 72, 3) := by decide +kernel
theorem dX5_popDownTo_41 : decode cX5_popDownTo 41 = .ok (.iconst 1, 1) := by decide +kernel
theorem dX5_popDownTo_42 : decode cX5_popDownTo 42 = .ok (.isub, 1) := by decide +kernel
theorem dX5_popDownTo_43 : decode cX5_popDownTo 43 = .ok (.putfield 72, 3) := by decide +kernel
theorem dX5_popDownTo_46 : decode cX5_popDownTo 46 = .ok (.aload_n 0, 1) := by decide +kernel
theorem dX5_popDownTo_47 : decode cX5_popDownTo 47 = .ok (.iload_n 3, 1) := by decide +kernel
theorem dX5_popDownTo_48 : decode cX5_popDownTo 48 = .ok (.invokevirtual 58, 3) := by decide +kernel
theorem dX5_popDownTo_51 : decode cX5_popDownTo 51 = .ok (.aload_n 0, 1) := by decide +kernel
theorem dX5_popDownTo_52 : decode cX5_popDownTo 52 = .ok (.iload_n 2, 1) := by decide +kernel
theorem dX5_popDownTo_53 : decode cX5_popDownTo 53 = .ok (.putfield 69, 3) := by decide +kernel
theorem dX5_popDownTo_56 : decode cX5_popDownTo 56 = .ok (.iinc 2 (-1), 3) := by decide +kernel
theorem dX5_popDownTo_59 : decode cX5_popDownTo 59 = .ok (.goto (-52), 3) := by decide +kernel
theorem dX5_popDownTo_62 : decode cX5_popDownTo 62 = .ok (.return_, 1) := by decide +kernel
theorem dX5_push_0 : decode cX5_push 0 = .ok (.aload_n 0, 1) := by decide +kernel
theorem dX5_push_1 : decode cX5_push 1 = .ok (.getfield 69, 3) := by decide +kernel
theorem dX5_push_4 : decode cX5_push 4 = .ok (.aload_n 0, 1) := by decide +kernel
theorem dX5_push_5 : decode cX5_push 5 = .ok (.getfield 19, 3) := by decide +kernel
theorem dX5_push_8 : decode cX5_push 8 = .ok (.arraylength, 1) := by decide +kernel
theorem dX5_push_9 : decode cX5_push 9 = .ok (.if_icmp .ge 23, 3) := by decide +kernel
theorem dX5_push_12 : decode cX5_push 12 = .ok (.aload_n 0, 1) := by decide +kernel
theorem dX5_push_13 : decode cX5_push 13 = .ok (.getfield 19, 3) := by decide +kernel
theorem dX5_push_16 : decode cX5_push 16 = .ok (.aload_n 0, 1) := by decide +kernel
theorem dX5_push_17 : decode cX5_push 17 = .ok (.getfield 69, 3) := by decide +kernel
theorem dX5_push_20 : decode cX5_push 20 = .ok (.iload_n 1, 1) := by decide +kernel
theorem dX5_push_21 : decode cX5_push 21 = .ok (.iastore, 1) := by decide +kernel
theorem dX5_push_22 : decode cX5_push 22 = .ok (.aload_n 0, 1) := by decide +kernel
theorem dX5_push_23 : decode cX5_push 23 = .ok (.dup, 1) := by decide +kernel
theorem dX5_push_24 : decode cX5_push 24 = .ok (.getfield 69, 3) := by decide +kernel
theorem dX5_push_27 : decode cX5_push 27 = .ok (.iconst 1, 1) := by decide +kernel
theorem dX5_push_28 : decode cX5_push 28 = .ok (.iadd, 1) := by decide +kernel
theorem dX5_push_29 : decode cX5_push 29 = .ok (.putfield 69, 3) := by decide +kernel
theorem dX5_push_32 : decode cX5_push 32 = .ok (.return_, 1) := by decide +kernel
theorem dX5_readSum_0 : decode cX5_readSum 0 = .ok (.iconst 0, 1) := by decide +kernel
theorem dX5_readSum_1 : decode cX5_readSum 1 = .ok (.istore_n 1, 1) := by decide +kernel
theorem dX5_readSum_2 : decode cX5_readSum 2 = .ok (.iconst 0, 1) := by decide +kernel
theorem dX5_readSum_3 : decode cX5_readSum 3 = .ok (.istore_n 2, 1) := by decide +kernel
theorem dX5_readSum_4 : decode cX5_readSum 4 = .ok (.iconst 0, 1) := by decide +kernel
theorem dX5_readSum_5 : decode cX5_readSum 5 = .ok (.istore_n 3, 1) := by decide +kernel
theorem dX5_readSum_6 : decode cX5_readSum 6 = .ok (.iload_n 3, 1) := by decide +kernel
theorem dX5_readSum_7 : decode cX5_readSum 7 = .ok (.bipush 60, 2) := by decide +kernel
theorem dX5_readSum_9 : decode cX5_readSum 9 = .ok (.if_icmp .gt 69, 3) := by decide +kernel
theorem dX5_readSum_12 : decode cX5_readSum 12 = .ok (.aload_n 0, 1) := by decide +kernel
theorem dX5_readSum_13 : decode cX5_readSum 13 = .ok (.invokevirtual 118, 3) := by decide +kernel
theorem dX5_readSum_16 : decode cX5_readSum 16 = .ok (.ifCond .eq 62, 3) := by decide +kernel
theorem dX5_readSum_19 : decode cX5_readSum 19 = .ok (.aload_n 0, 1) := by decide +kernel
theorem dX5_readSum_20 : decode cX5_readSum 20 = .ok (.iload_n 2, 1) := by decide +kernel
theorem dX5_readSum_21 : decode cX5_readSum 21 = .ok (.invokevirtual 58, 3) := by decide +kernel
theorem dX5_readSum_24 : decode cX5_readSum 24 = .ok (.aload_n 0, 1) := by decide +kernel
theorem dX5_readSum_25 : decode cX5_readSum 25 = .ok (.getfield 9, 3) := by decide +kernel
theorem dX5_readSum_28 : decode cX5_readSum 28 = .ok (.invokevirtual 97, 3) := by decide +kernel
theorem dX5_readSum_31 : decode cX5_readSum 31 = .ok (.istore 4, 2) := by decide +kernel
theorem dX5_readSum_33 : decode cX5_readSum 33 = .ok (.iload 4, 2) := by decide +kernel
theorem dX5_readSum_35 : decode cX5_readSum 35 = .ok (.invokestatic 121, 3) := by decide +kernel
theorem dX5_readSum_38 : decode cX5_readSum 38 = .ok (.istore_n 2, 1) := by decide +kernel
theorem dX5_readSum_39 : decode cX5_readSum 39 = .ok (.iload_n 2, 1) := by decide +kernel
theorem dX5_readSum_40 : decode cX5_readSum 40 = .ok (.ifCond .ne 19, 3) := by decide +kernel
theorem dX5_readSum_43 : decode cX5_readSum 43 = .ok (.aload_n 0, 1) := by decide +kernel
theorem dX5_readSum_44 : decode cX5_readSum 44 = .ok (.iload_n 1, 1) := by decide +kernel
theorem dX5_readSum_45 : decode cX5_readSum 45 = .ok (.invokevirtual 58, 3) := by decide +kernel
theorem dX5_readSum_48 : decode cX5_readSum 48 = .ok (.iload 4, 2) := by decide +kernel
theorem dX5_readSum_50 : decode cX5_readSum 50 = .ok (.invokestatic 125, 3) := by decide +kernel
theorem dX5_readSum_53 : decode cX5_readSum 53 = .ok (.istore_n 1, 1) := by decide +kernel
theorem dX5_readSum_54 : decode cX5_readSum 54 = .ok (.iload_n 1, 1) := by decide +kernel
theorem dX5_readSum_55 : decode cX5_readSum 55 = .ok (.ifCond .ne 4, 3) := by decide +kernel
theorem dX5_readSum_58 : decode cX5_readSum 58 = .ok (.return_, 1) := by decide +kernel
theorem dX5_readSum_59 : decode cX5_readSum 59 = .ok (.aload_n 0, 1) := by decide +kernel
theorem dX5_readSum_60 : decode cX5_readSum 60 = .ok (.getfield 9, 3) := by decide +kernel
theorem dX5_readSum_63 : decode cX5_readSum 63 = .ok (.dup, 1) := by decide +kernel
theorem dX5_readSum_64 : decode cX5_readSum 64 = .ok (.getfield 100, 3) := by decide +kernel
theorem dX5_readSum_67 : decode cX5_readSum 67 = .ok (.iconst 1, 1) := by decide +kernel
theorem dX5_readSum_68 : decode cX5_readSum 68 = .ok (.iadd, 1) := by decide +kernel
theorem dX5_readSum_69 : decode cX5_readSum 69 = .ok (.putfield 100, 3) := by decide +kernel
theorem dX5_readSum_72 : decode cX5_readSum 72 = .ok (.iinc 3 1, 3) := by decide +kernel
theorem dX5_readSum_75 : decode cX5_readSum 75 = .ok (.goto (-69), 3) := by decide +kernel
theorem dX5_readSum_78 : decode cX5_readSum 78 = .ok (.return_, 1) := by decide +kernel
theorem dX5_readValue_0 : decode cX5_readValue 0 = .ok (.aload_n 0, 1) := by decide +kernel
theorem dX5_readValue_1 : decode cX5_readValue 1 = .ok (.getfield 9, 3) := by decide +kernel
theorem dX5_readValue_4 : decode cX5_readValue 4 = .ok (.getfield 85, 3) := by decide +kernel
theorem dX5_readValue_7 : decode cX5_readValue 7 = .ok (.ifCond .eq 5, 3) := by decide +kernel
theorem dX5_readValue_10 : decode cX5_readValue 10 = .ok (.iconst 0, 1) := by decide +kernel
theorem dX5_readValue_11 : decode cX5_readValue 11 = .ok (.ireturn, 1) := by decide +kernel
theorem dX5_readValue_12 : decode cX5_readValue 12 = .ok (.aload_n 0, 1) := by decide +kernel
theorem dX5_readValue_13 : decode cX5_readValue 13 = .ok (.getfield 9, 3) := by decide +kernel
theorem dX5_readValue_16 : decode cX5_readValue 16 = .ok (.invokevirtual 32, 3) := by decide +kernel
theorem dX5_readValue_19 : decode cX5_readValue 19 = .ok (.aload_n 0, 1) := by decide +kernel
theorem dX5_readValue_20 : decode cX5_readValue 20 = .ok (.getfield 9, 3) := by decide +kernel
theorem dX5_readValue_23 : decode cX5_readValue 23 = .ok (.getfield 41, 3) := by decide +kernel
theorem dX5_readValue_26 : decode cX5_readValue 26 = .ok (.istore_n 1, 1) := by decide +kernel
theorem dX5_readValue_27 : decode cX5_readValue 27 = .ok (.aload_n 0, 1) := by decide +kernel
theorem dX5_readValue_28 : decode cX5_readValue 28 = .ok (.getfield 9, 3) := by decide +kernel
theorem dX5_readValue_31 : decode cX5_readValue 31 = .ok (.invokestatic 128, 3) := by decide +kernel
theorem dX5_readValue_34 : decode cX5_readValue 34 = .ok (.istore_n 2, 1) := by decide +kernel
theorem dX5_readValue_35 : decode cX5_readValue 35 = .ok (.iload_n 2, 1) := by decide +kernel
theorem dX5_readValue_36 : decode cX5_readValue 36 = .ok (.ifCond .ne 29, 3) := by decide +kernel
theorem dX5_readValue_39 : decode cX5_readValue 39 = .ok (.aload_n 0, 1) := by decide +kernel
theorem dX5_readValue_40 : decode cX5_readValue 40 = .ok (.getfield 9, 3) := by decide +kernel
theorem dX5_readValue_43 : decode cX5_readValue 43 = .ok (.invokevirtual 62, 3) := by decide +kernel
theorem dX5_readValue_46 : decode cX5_readValue 46 = .ok (.aload_n 0, 1) := by decide +kernel
theorem dX5_readValue_47 : decode cX5_readValue 47 = .ok (.getfield 9, 3) := by decide +kernel
theorem dX5_readValue_50 : decode cX5_readValue 50 = .ok (.iconst 0, 1) := by decide +kernel
theorem dX5_readValue_51 : decode cX5_readValue 51 = .ok (.ldc 132, 2) := by decide +kernel
theorem dX5_readValue_53 : decode cX5_readValue 53 = .ok (.invokevirtual 133, 3) := by decide +kernel
theorem dX5_readValue_56 : decode cX5_readValue 56 = .ok (.pop, 1) := by decide +kernel
theorem dX5_readValue_57 : decode cX5_readValue 57 = .ok (.aload_n 0, 1) := by decide +kernel
theorem dX5_readValue_58 : decode cX5_readValue 58 = .ok (.getfield 9, 3) := by decide +kernel
theorem dX5_readValue_61 : decode cX5_readValue 61 = .ok (.getfield 137, 3) := by decide +kernel
theorem dX5_readValue_64 : decode cX5_readValue 64 = .ok (.istore_n 2, 1) := by decide +kernel
theorem dX5_readValue_65 : decode cX5_readValue 65 = .ok (.aload_n 0, 1) := by decide +kernel
theorem dX5_readValue_66 : decode cX5_readValue 66 = .ok (.iload_n 1, 1) := by decide +kernel
theorem dX5_readValue_67 : decode cX5_readValue 67 = .ok (.invokevirtual 140, 3) := by decide +kernel
theorem dX5_readValue_70 : decode cX5_readValue 70 = .ok (.aload_n 0, 1) := by decide +kernel
theorem dX5_readValue_71 : decode cX5_readValue 71 = .ok (.iload_n 2, 1) := by decide +kernel
theorem dX5_readValue_72 : decode cX5_readValue 72 = .ok (.ifCond .ne 8, 3) := by decide +kernel
theorem dX5_readValue_75 : decode cX5_readValue 75 = .ok (.bipush (-12), 2) := by decide +kernel
theorem dX5_readValue_77 : decode cX5_readValue 77 = .ok (.goto 4, 3) := by decide +kernel
theorem dX5_readValue_80 : decode cX5_readValue 80 = .ok (.iload_n 2, 1) := by decide +kernel
theorem dX5_readValue_81 : decode cX5_readValue 81 = .ok (.invokevirtual 58, 3) := by decide +kernel
theorem dX5_readValue_84 : decode cX5_readValue 84 = .ok (.aload_n 0, 1) := by decide +kernel
theorem dX5_readValue_85 : decode cX5_readValue 85 = .ok (.getfield 9, 3) := by decide +kernel
theorem dX5_readValue_88 : decode cX5_readValue 88 = .ok (.getfield 85, 3) := by decide +kernel
theorem dX5_readValue_91 : decode cX5_readValue 91 = .ok (.ifCond .ne 7, 3) := by decide +kernel
theorem dX5_readValue_94 : decode cX5_readValue 94 = .ok (.iconst 1, 1) := by decide +kernel
theorem dX5_readValue_95 : decode cX5_readValue 95 = .ok (.goto 4, 3) := by decide +kernel
theorem dX5_readValue_98 : decode cX5_readValue 98 = .ok (.iconst 0, 1) := by decide +kernel
theorem dX5_readValue_99 : decode cX5_readValue 99 = .ok (.ireturn, 1) := by decide +kernel
theorem dX5_readSign_0 : decode cX5_readSign 0 = .ok (.aload_n 0, 1) := by decide +kernel
theorem dX5_readSign_1 : decode cX5_readSign 1 = .ok (.getfield 9, 3) := by decide +kernel
theorem dX5_readSign_4 : decode cX5_readSign 4 = .ok (.getfield 85, 3) := by decide +kernel
theorem dX5_readSign_7 : decode cX5_readSign 7 = .ok (.ifCond .eq 5, 3) := by decide +kernel
theorem dX5_readSign_10 : decode cX5_readSign 10 = .ok (.iconst 0, 1) := by decide +kernel
theorem dX5_readSign_11 : decode cX5_readSign 11 = .ok (.ireturn, 1) := by decide +kernel
theorem dX5_readSign_12 : decode cX5_readSign 12 = .ok (.aload_n 0, 1) := by decide +kernel
theorem dX5_readSign_13 : decode cX5_readSign 13 = .ok (.getfield 9, 3) := by decide +kernel
theorem dX5_readSign_16 : decode cX5_readSign 16 = .ok (.invokevirtual 97, 3) := by decide +kernel
theorem dX5_readSign_19 : decode cX5_readSign 19 = .ok (.istore_n 1, 1) := by decide +kernel
theorem dX5_readSign_20 : decode cX5_readSign 20 = .ok (.aload_n 0, 1) := by decide +kernel
theorem dX5_readSign_21 : decode cX5_readSign 21 = .ok (.getfield 9, 3) := by decide +kernel
theorem dX5_readSign_24 : decode cX5_readSign 24 = .ok (.getfield 100, 3) := by decide +kernel
theorem dX5_readSign_27 : decode cX5_readSign 27 = .ok (.istore_n 2, 1) := by decide +kernel
theorem dX5_readSign_28 : decode cX5_readSign 28 = .ok (.iload_n 1, 1) := by decide +kernel
theorem dX5_readSign_29 : decode cX5_readSign 29 = .ok (.invokestatic 143, 3) := by decide +kernel
theorem dX5_readSign_32 : decode cX5_readSign 32 = .ok (.istore_n 3, 1) := by decide +kernel
theorem dX5_readSign_33 : decode cX5_readSign 33 = .ok (.iload_n 3, 1) := by decide +kernel
theorem dX5_readSign_34 : decode cX5_readSign 34 = .ok (.ifCond .ne 14, 3) := by decide +kernel
theorem dX5_readSign_37 : decode cX5_readSign 37 = .ok (.aload_n 0, 1) := by decide +kernel
theorem dX5_readSign_38 : decode cX5_readSign 38 = .ok (.getfield 9, 3) := by decide +kernel
theorem dX5_readSign_41 : decode cX5_readSign 41 = .ok (.iload_n 2, 1) := by decide +kernel
theorem dX5_readSign_42 : decode cX5_readSign 42 = .ok (.iconst 0, 1) := by decide +kernel
theorem dX5_readSign_43 : decode cX5_readSign 43 = .ok (.invokevirtual 44, 3) := by decide +kernel
theorem dX5_readSign_46 : decode cX5_readSign 46 = .ok (.iconst 0, 1) := by decide +kernel
theorem dX5_readSign_47 : decode cX5_readSign 47 = .ok (.ireturn, 1) := by decide +kernel
theorem dX5_readSign_48 : decode cX5_readSign 48 = .ok (.aload_n 0, 1) := by decide +kernel
theorem dX5_readSign_49 : decode cX5_readSign 49 = .ok (.getfield 9, 3) := by decide +kernel
theorem dX5_readSign_52 : decode cX5_readSign 52 = .ok (.dup, 1) := by decide +kernel
theorem dX5_readSign_53 : decode cX5_readSign 53 = .ok (.getfield 100, 3) := by decide +kernel
theorem dX5_readSign_56 : decode cX5_readSign 56 = .ok (.iconst 1, 1) := by decide +kernel
theorem dX5_readSign_57 : decode cX5_readSign 57 = .ok (.iadd, 1) := by decide +kernel
theorem dX5_readSign_58 : decode cX5_readSign 58 = .ok (.putfield 100, 3) := by decide +kernel
theorem dX5_readSign_61 : decode cX5_readSign 61 = .ok (.iload_n 3, 1) := by decide +kernel
theorem dX5_readSign_62 : decode cX5_readSign 62 = .ok (.bipush (-27), 2) := by decide +kernel
theorem dX5_readSign_64 : decode cX5_readSign 64 = .ok (.if_icmp .eq 44, 3) := by decide +kernel
theorem dX5_readSign_67 : decode cX5_readSign 67 = .ok (.aload_n 0, 1) := by decide +kernel
theorem dX5_readSign_68 : decode cX5_readSign 68 = .ok (.getfield 9, 3) := by decide +kernel
theorem dX5_readSign_71 : decode cX5_readSign 71 = .ok (.getfield 100, 3) := by decide +kernel
theorem dX5_readSign_74 : decode cX5_readSign 74 = .ok (.aload_n 0, 1) := by decide +kernel
theorem dX5_readSign_75 : decode cX5_readSign 75 = .ok (.getfield 9, 3) := by decide +kernel
theorem dX5_readSign_78 : decode cX5_readSign 78 = .ok (.getfield 146, 3) := by decide +kernel
theorem dX5_readSign_81 : decode cX5_readSign 81 = .ok (.if_icmp .ge 27, 3) := by decide +kernel
theorem dX5_readSign_84 : decode cX5_readSign 84 = .ok (.aload_n 0, 1) := by decide +kernel
theorem dX5_readSign_85 : decode cX5_readSign 85 = .ok (.getfield 9, 3) := by decide +kernel
theorem dX5_readSign_88 : decode cX5_readSign 88 = .ok (.getfield 147, 3) := by decide +kernel
theorem dX5_readSign_91 : decode cX5_readSign 91 = .ok (.aload_n 0, 1) := by decide +kernel
theorem dX5_readSign_92 : decode cX5_readSign 92 = .ok (.getfield 9, 3) := by decide +kernel
theorem dX5_readSign_95 : decode cX5_readSign 95 = .ok (.getfield 100, 3) := by decide +kernel
theorem dX5_readSign_98 : decode cX5_readSign 98 = .ok (.baload, 1) := by decide +kernel
theorem dX5_readSign_99 : decode cX5_readSign 99 = .ok (.bipush 61, 2) := by decide +kernel
theorem dX5_readSign_101 : decode cX5_readSign 101 = .ok (.if_icmp .ne 7, 3) := by decide +kernel
theorem dX5_readSign_104 : decode cX5_readSign 104 = .ok (.iconst 1, 1) := by decide +kernel
theorem dX5_readSign_105 : decode cX5_readSign 105 = .ok (.goto 4, 3) := by decide +kernel
theorem dX5_readSign_108 : decode cX5_readSign 108 = .ok (.iconst 0, 1) := by decide +kernel
theorem dX5_readSign_109 : decode cX5_readSign 109 = .ok (.istore 4, 2) := by decide +kernel
theorem dX5_readSign_111 : decode cX5_readSign 111 = .ok (.iload 4, 2) := by decide +kernel
theorem dX5_readSign_113 : decode cX5_readSign 113 = .ok (.ifCond .eq 16, 3) := by decide +kernel
theorem dX5_readSign_116 : decode cX5_readSign 116 = .ok (.aload_n 0, 1) := by decide +kernel
theorem dX5_readSign_117 : decode cX5_readSign 117 = .ok (.getfield 9, 3) := by decide +kernel
theorem dX5_readSign_120 : decode cX5_readSign 120 = .ok (.dup, 1) := by decide +kernel
theorem dX5_readSign_121 : decode cX5_readSign 121 = .ok (.getfield 100, 3) := by decide +kernel
theorem dX5_readSign_124 : decode cX5_readSign 124 = .ok (.iconst 1, 1) := by decide +kernel
theorem dX5_readSign_125 : decode cX5_readSign 125 = .ok (.iadd, 1) := by decide +kernel
theorem dX5_readSign_126 : decode cX5_readSign 126 = .ok (.putfield 100, 3) := by decide +kernel
theorem dX5_readSign_129 : decode cX5_readSign 129 = .ok (.aload_n 0, 1) := by decide +kernel
theorem dX5_readSign_130 : decode cX5_readSign 130 = .ok (.iload_n 2, 1) := by decide +kernel
theorem dX5_readSign_131 : decode cX5_readSign 131 = .ok (.invokevirtual 140, 3) := by decide +kernel
theorem dX5_readSign_134 : decode cX5_readSign 134 = .ok (.iload 4, 2) := by decide +kernel
theorem dX5_readSign_136 : decode cX5_readSign 136 = .ok (.ifCond .ne 5, 3) := by decide +kernel
theorem dX5_readSign_139 : decode cX5_readSign 139 = .ok (.iload_n 3, 1) := by decide +kernel
theorem dX5_readSign_140 : decode cX5_readSign 140 = .ok (.ireturn, 1) := by decide +kernel
theorem dX5_readSign_141 : decode cX5_readSign 141 = .ok (.iload_n 3, 1) := by decide +kernel
theorem dX5_readSign_142 : decode cX5_readSign 142 = .ok (.bipush (-25), 2) := by decide +kernel
theorem dX5_readSign_144 : decode cX5_readSign 144 = .ok (.if_icmp .ne 8, 3) := by decide +kernel
theorem dX5_readSign_147 : decode cX5_readSign 147 = .ok (.bipush (-26), 2) := by decide +kernel
theorem dX5_readSign_149 : decode cX5_readSign 149 = .ok (.goto 5, 3) := by decide +kernel
theorem dX5_readSign_152 : decode cX5_readSign 152 = .ok (.bipush (-28), 2) := by decide +kernel
theorem dX5_readSign_154 : decode cX5_readSign 154 = .ok (.ireturn, 1) := by decide +kernel
theorem dX5_countOne_0 : decode cX5_countOne 0 = .ok (.aload_n 0, 1) := by decide +kernel
theorem dX5_countOne_1 : decode cX5_countOne 1 = .ok (.dup, 1) := by decide +kernel
theorem dX5_countOne_2 : decode cX5_countOne 2 = .ok (.getfield 26, 3) := by decide +kernel
theorem dX5_countOne_5 : decode cX5_countOne 5 = .ok (.iconst 1, 1) := by decide +kernel
theorem dX5_countOne_6 : decode cX5_countOne 6 = .ok (.iadd, 1) := by decide +kernel
theorem dX5_countOne_7 : decode cX5_countOne 7 = .ok (.putfield 26, 3) := by decide +kernel
theorem dX5_countOne_10 : decode cX5_countOne 10 = .ok (.aload_n 0, 1) := by decide +kernel
theorem dX5_countOne_11 : decode cX5_countOne 11 = .ok (.getfield 26, 3) := by decide +kernel
theorem dX5_countOne_14 : decode cX5_countOne 14 = .ok (.bipush 60, 2) := by decide +kernel
theorem dX5_countOne_16 : decode cX5_countOne 16 = .ok (.if_icmp .le 12, 3) := by decide +kernel
theorem dX5_countOne_19 : decode cX5_countOne 19 = .ok (.aload_n 0, 1) := by decide +kernel
theorem dX5_countOne_20 : decode cX5_countOne 20 = .ok (.getfield 9, 3) := by decide +kernel
theorem dX5_countOne_23 : decode cX5_countOne 23 = .ok (.iload_n 1, 1) := by decide +kernel
theorem dX5_countOne_24 : decode cX5_countOne 24 = .ok (.iconst 3, 1) := by decide +kernel
theorem dX5_countOne_25 : decode cX5_countOne 25 = .ok (.invokevirtual 44, 3) := by decide +kernel
theorem dX5_countOne_28 : decode cX5_countOne 28 = .ok (.return_, 1) := by decide +kernel
theorem dX5_emit_0 : decode cX5_emit 0 = .ok (.iload_n 1, 1) := by decide +kernel
theorem dX5_emit_1 : decode cX5_emit 1 = .ok (.ifCond .eq 33, 3) := by decide +kernel
theorem dX5_emit_4 : decode cX5_emit 4 = .ok (.aload_n 0, 1) := by decide +kernel
theorem dX5_emit_5 : decode cX5_emit 5 = .ok (.getfield 22, 3) := by decide +kernel
theorem dX5_emit_8 : decode cX5_emit 8 = .ok (.sipush 400, 3) := by decide +kernel
theorem dX5_emit_11 : decode cX5_emit 11 = .ok (.if_icmp .ge 23, 3) := by decide +kernel
theorem dX5_emit_14 : decode cX5_emit 14 = .ok (.aload_n 0, 1) := by decide +kernel
theorem dX5_emit_15 : decode cX5_emit 15 = .ok (.getfield 15, 3) := by decide +kernel
theorem dX5_emit_18 : decode cX5_emit 18 = .ok (.aload_n 0, 1) := by decide +kernel
theorem dX5_emit_19 : decode cX5_emit 19 = .ok (.getfield 22, 3) := by decide +kernel
theorem dX5_emit_22 : decode cX5_emit 22 = .ok (.iload_n 1, 1) := by decide +kernel
theorem dX5_emit_23 : decode cX5_emit 23 = .ok (.iastore, 1) := by decide +kernel
theorem dX5_emit_24 : decode cX5_emit 24 = .ok (.aload_n 0, 1) := by decide +kernel
theorem dX5_emit_25 : decode cX5_emit 25 = .ok (.dup, 1) := by decide +kernel
theorem dX5_emit_26 : decode cX5_emit 26 = .ok (.getfield 22, 3) := by decide +kernel
theorem dX5_emit_29 : decode cX5_emit 29 = .ok (.iconst 1, 1) := by decide +kernel
theorem dX5_emit_30 : decode cX5_emit 30 = .ok (.iadd, 1) := by decide +kernel
theorem dX5_emit_31 : decode cX5_emit 31 = .ok (.putfield 22, 3) := by decide +kernel
theorem dX5_emit_34 : decode cX5_emit 34 = .ok (.return_, 1) := by decide +kernel
theorem dX6_init_0 : decode cX6_init 0 = .ok (.aload_n 0, 1) := by decide +kernel
theorem dX6_init_1 : decode cX6_init 1 = .ok (.invokespecial 3, 3) := by decide +kernel
theorem dX6_init_4 : decode cX6_init 4 = .ok (.aload_n 0, 1) := by decide +kernel
theorem dX6_init_5 : decode cX6_init 5 = .ok (.new 9, 3) := by decide +kernel
theorem dX6_init_8 : decode cX6_init 8 = .ok (.dup, 1) := by decide +kernel
theorem dX6_init_9 : decode cX6_init 9 = .ok (.invokespecial 11, 3) := by decide +kernel
theorem dX6_init_12 : decode cX6_init 12 = .ok (.putfield 12, 3) := by decide +kernel
theorem dX6_init_15 : decode cX6_init 15 = .ok (.aload_n 0, 1) := by decide +kernel
theorem dX6_init_16 : decode cX6_init 16 = .ok (.new 9, 3) := by decide +kernel
theorem dX6_init_19 : decode cX6_init 19 = .ok (.dup, 1) := by decide +kernel
theorem dX6_init_20 : decode cX6_init 20 = .ok (.invokespecial 11, 3) := by decide +kernel
theorem dX6_init_23 : decode cX6_init 23 = .ok (.putfield 18, 3) := by decide +kernel
theorem dX6_init_26 : decode cX6_init 26 = .ok (.aload_n 0, 1) := by decide +kernel
theorem dX6_init_27 : decode cX6_init 27 = .ok (.bipush 10, 2) := by decide +kernel
theorem dX6_init_29 : decode cX6_init 29 = .ok (.newarray .int, 2) := by decide +kernel
theorem dX6_init_31 : decode cX6_init 31 = .ok (.putfield 21, 3) := by decide +kernel
theorem dX6_init_34 : decode cX6_init 34 = .ok (.aload_n 0, 1) := by decide +kernel
theorem dX6_init_35 : decode cX6_init 35 = .ok (.bipush 10, 2) := by decide +kernel
theorem dX6_init_37 : decode cX6_init 37 = .ok (.newarray .int, 2) := by decide +kernel
theorem dX6_init_39 : decode cX6_init 39 = .ok (.putfield 25, 3) := by decide +kernel
theorem dX6_init_42 : decode cX6_init 42 = .ok (.aload_n 0, 1) := by decide +kernel
theorem dX6_init_43 : decode cX6_init 43 = .ok (.iconst (-1), 1) := by decide +kernel
theorem dX6_init_44 : decode cX6_init 44 = .ok (.putfield 28, 3) := by decide +kernel
theorem dX6_init_47 : decode cX6_init 47 = .ok (.return_, 1) := by decide +kernel
theorem dX6_copyFrom_0 : decode cX6_copyFrom 0 = .ok (.aload_n 0, 1) := by decide +kernel
theorem dX6_copyFrom_1 : decode cX6_copyFrom 1 = .ok (.getfield 12, 3) := by decide +kernel
theorem dX6_copyFrom_4 : decode cX6_copyFrom 4 = .ok (.aload_n 1, 1) := by decide +kernel
theorem dX6_copyFrom_5 : decode cX6_copyFrom 5 = .ok (.getfield 12, 3) := by decide +kernel
theorem dX6_copyFrom_8 : decode cX6_copyFrom 8 = .ok (.invokevirtual 32, 3) := by decide +kernel
theorem dX6_copyFrom_11 : decode cX6_copyFrom 11 = .ok (.aload_n 0, 1) := by decide +kernel
theorem dX6_copyFrom_12 : decode cX6_copyFrom 12 = .ok (.getfield 18, 3) := by decide +kernel
theorem dX6_copyFrom_15 : decode cX6_copyFrom 15 = .ok (.aload_n 1, 1) := by decide +kernel
theorem dX6_copyFrom_16 : decode cX6_copyFrom 16 = .ok (.getfield 18, 3) := by decide +kernel
theorem dX6_copyFrom_19 : decode cX6_copyFrom 19 = .ok (.invokevirtual 32, 3) := by decide +kernel
theorem dX6_copyFrom_22 : decode cX6_copyFrom 22 = .ok (.iconst 0, 1) := by decide +kernel
theorem dX6_copyFrom_23 : decode cX6_copyFrom 23 = .ok (.istore_n 2, 1) := by decide +kernel
theorem dX6_copyFrom_24 : decode cX6_copyFrom 24 = .ok (.iload_n 2, 1) := by decide +kernel
theorem dX6_copyFrom_25 : decode cX6_copyFrom 25 = .ok (.bipush 10, 2) := by decide +kernel
theorem dX6_copyFrom_27 : decode cX6_copyFrom 27 = .ok (.if_icmp .ge 33, 3) := by decide +kernel
theorem dX6_copyFrom_30 : decode cX6_copyFrom 30 = .ok (.aload_n 0, 1) := by decide +kernel
theorem dX6_copyFrom_31 : decode cX6_copyFrom 31 = .ok (.getfield 21, 3) := by decide +kernel
theorem dX6_copyFrom_34 : decode cX6_copyFrom 34 = .ok (.iload_n 2, 1) := by decide +kernel
theorem dX6_copyFrom_35 : decode cX6_copyFrom 35 = .ok (.aload_n 1, 1) := by decide +kernel
theorem dX6_copyFrom_36 : decode cX6_copyFrom 36 = .ok (.getfield 21, 3) := by decide +kernel
theorem dX6_copyFrom_39 : decode cX6_copyFrom 39 = .ok (.iload_n 2, 1) := by decide +kernel
theorem dX6_copyFrom_40 : decode cX6_copyFrom 40 = .ok (.iaload, 1) := by decide +kernel
theorem dX6_copyFrom_41 : decode cX6_copyFrom 41 = .ok (.iastore, 1) := by decide +kernel
theorem dX6_copyFrom_42 : decode cX6_copyFrom 42 = .ok (.aload_n 0, 1) := by decide +kernel
theorem dX6_copyFrom_43 : decode cX6_copyFrom 43 = .ok (.getfield 25, 3) := by decide +kernel
theorem dX6_copyFrom_46 : decode cX6_copyFrom 46 = .ok (.iload_n 2, 1) := by decide +kernel
theorem dX6_copyFrom_47 : decode cX6_copyFrom 47 = .ok (.aload_n 1, 1) := by decide +kernel
theorem dX6_copyFrom_48 : decode cX6_copyFrom 48 = .ok (.getfield 25, 3) := by decide +kernel
theorem dX6_copyFrom_51 : decode cX6_copyFrom 51 = .ok (.iload_n 2, 1) := by decide +kernel
theorem dX6_copyFrom_52 : decode cX6_copyFrom 52 = .ok (.iaload, 1) := by decide +kernel
theorem dX6_copyFrom_53 : decode cX6_copyFrom 53 = .ok (.iastore, 1) := by decide +kernel
theorem dX6_copyFrom_54 : decode cX6_copyFrom 54 = .ok (.iinc 2 1, 3) := by decide +kernel
theorem dX6_copyFrom_57 : decode cX6_copyFrom 57 = .ok (.goto (-33), 3) := by decide +kernel
theorem dX6_copyFrom_60 : decode cX6_copyFrom 60 = .ok (.aload_n 0, 1) := by decide +kernel
theorem dX6_copyFrom_61 : decode cX6_copyFrom 61 = .ok (.aload_n 1, 1) := by decide +kernel
theorem dX6_copyFrom_62 : decode cX6_copyFrom 62 = .ok (.getfield 36, 3) := by decide +kernel
theorem dX6_copyFrom_65 : decode cX6_copyFrom 65 = .ok (.putfield 36, 3) := by decide +kernel
theorem dX6_copyFrom_68 : decode cX6_copyFrom 68 = .ok (.aload_n 0, 1) := by decide +kernel
theorem dX6_copyFrom_69 : decode cX6_copyFrom 69 = .ok (.aload_n 1, 1) := by decide +kernel
theorem dX6_copyFrom_70 : decode cX6_copyFrom 70 = .ok (.getfield 28, 3) := by decide +kernel
theorem dX6_copyFrom_73 : decode cX6_copyFrom 73 = .ok (.putfield 28, 3) := by decide +kernel
theorem dX6_copyFrom_76 : decode cX6_copyFrom 76 = .ok (.aload_n 0, 1) := by decide +kernel
theorem dX6_copyFrom_77 : decode cX6_copyFrom 77 = .ok (.aload_n 1, 1) := by decide +kernel
theorem dX6_copyFrom_78 : decode cX6_copyFrom 78 = .ok (.getfield 39, 3) := by decide +kernel
theorem dX6_copyFrom_81 : decode cX6_copyFrom 81 = .ok (.putfield 39, 3) := by decide +kernel
theorem dX6_copyFrom_84 : decode cX6_copyFrom 84 = .ok (.return_, 1) := by decide +kernel
theorem dX6_writeDown_0 : decode cX6_writeDown 0 = .ok (.aload_n 0, 1) := by decide +kernel
theorem dX6_writeDown_1 : decode cX6_writeDown 1 = .ok (.getfield 36, 3) := by decide +kernel
theorem dX6_writeDown_4 : decode cX6_writeDown 4 = .ok (.bipush 10, 2) := by decide +kernel
theorem dX6_writeDown_6 : decode cX6_writeDown 6 = .ok (.if_icmp .lt 5, 3) := by decide +kernel
theorem dX6_writeDown_9 : decode cX6_writeDown 9 = .ok (.iconst 0, 1) := by decide +kernel
theorem dX6_writeDown_10 : decode cX6_writeDown 10 = .ok (.ireturn, 1) := by decide +kernel
theorem dX6_writeDown_11 : decode cX6_writeDown 11 = .ok (.aload_n 0, 1) := by decide +kernel
theorem dX6_writeDown_12 : decode cX6_writeDown 12 = .ok (.getfield 21, 3) := by decide +kernel
theorem dX6_writeDown_15 : decode cX6_writeDown 15 = .ok (.aload_n 0, 1) := by decide +kernel
theorem dX6_writeDown_16 : decode cX6_writeDown 16 = .ok (.getfield 36, 3) := by decide +kernel
theorem dX6_writeDown_19 : decode cX6_writeDown 19 = .ok (.iload_n 1, 1) := by decide +kernel
theorem dX6_writeDown_20 : decode cX6_writeDown 20 = .ok (.iastore, 1) := by decide +kernel
theorem dX6_writeDown_21 : decode cX6_writeDown 21 = .ok (.aload_n 0, 1) := by decide +kernel
theorem dX6_writeDown_22 : decode cX6_writeDown 22 = .ok (.getfield 25, 3) := by decide +kernel
theorem dX6_writeDown_25 : decode cX6_writeDown 25 = .ok (.aload_n 0, 1) := by decide +kernel
theorem dX6_writeDown_26 : decode cX6_writeDown 26 = .ok (.getfield 36, 3) := by decide +kernel
theorem dX6_writeDown_29 : decode cX6_writeDown 29 = .ok (.iload_n 2, 1) := by decide +kernel
theorem dX6_writeDown_30 : decode cX6_writeDown 30 = .ok (.iastore, 1) := by decide +kernel
theorem dX6_writeDown_31 : decode cX6_writeDown 31 = .ok (.aload_n 0, 1) := by decide +kernel
theorem dX6_writeDown_32 : decode cX6_writeDown 32 = .ok (.dup, 1) := by decide +kernel
theorem dX6_writeDown_33 : decode cX6_writeDown 33 = .ok (.getfield 36, 3) := by decide +kernel
theorem dX6_writeDown_36 : decode cX6_writeDown 36 = .ok (.iconst 1, 1) := by decide +kernel
theorem dX6_writeDown_37 : decode cX6_writeDown 37 = .ok (.iadd, 1) := by decide +kernel
theorem dX6_writeDown_38 : decode cX6_writeDown 38 = .ok (.putfield 36, 3) := by decide +kernel
theorem dX6_writeDown_41 : decode cX6_writeDown 41 = .ok (.iconst 1, 1) := by decide +kernel
theorem dX6_writeDown_42 : decode cX6_writeDown 42 = .ok (.ireturn, 1) := by decide +kernel
theorem dX7_init_0 : decode cX7_init 0 = .ok (.aload_n 0, 1) := by decide +kernel
theorem dX7_init_1 : decode cX7_init 1 = .ok (.invokespecial 3, 3) := by decide +kernel
theorem dX7_init_4 : decode cX7_init 4 = .ok (.aload_n 0, 1) := by decide +kernel
theorem dX7_init_5 : decode cX7_init 5 = .ok (.iconst 3, 1) := by decide +kernel
theorem dX7_init_6 : decode cX7_init 6 = .ok (.newarray .int, 2) := by decide +kernel
theorem dX7_init_8 : decode cX7_init 8 = .ok (.putfield 11, 3) := by decide +kernel
theorem dX7_init_11 : decode cX7_init 11 = .ok (.aload_n 0, 1) := by decide +kernel
theorem dX7_init_12 : decode cX7_init 12 = .ok (.new 15, 3) := by decide +kernel
theorem dX7_init_15 : decode cX7_init 15 = .ok (.dup, 1) := by decide +kernel
theorem dX7_init_16 : decode cX7_init 16 = .ok (.invokespecial 17, 3) := by decide +kernel
theorem dX7_init_19 : decode cX7_init 19 = .ok (.putfield 18, 3) := by decide +kernel
theorem dX7_init_22 : decode cX7_init 22 = .ok (.aload_n 0, 1) := by decide +kernel
theorem dX7_init_23 : decode cX7_init 23 = .ok (.bipush 37, 2) := by decide +kernel
theorem dX7_init_25 : decode cX7_init 25 = .ok (.newarray .long, 2) := by decide +kernel
theorem dX7_init_27 : decode cX7_init 27 = .ok (.putfield 22, 3) := by decide +kernel
theorem dX7_init_30 : decode cX7_init 30 = .ok (.return_, 1) := by decide +kernel
theorem dX7_findCut_0 : decode cX7_findCut 0 = .ok (.aload_n 0, 1) := by decide +kernel
theorem dX7_findCut_1 : decode cX7_findCut 1 = .ok (.getfield 18, 3) := by decide +kernel
theorem dX7_findCut_4 : decode cX7_findCut 4 = .ok (.aload_n 1, 1) := by decide +kernel
theorem dX7_findCut_5 : decode cX7_findCut 5 = .ok (.invokevirtual 26, 3) := by decide +kernel
theorem dX7_findCut_8 : decode cX7_findCut 8 = .ok (.aload_n 1, 1) := by decide +kernel
theorem dX7_findCut_9 : decode cX7_findCut 9 = .ok (.getfield 30, 3) := by decide +kernel
theorem dX7_findCut_12 : decode cX7_findCut 12 = .ok (.iload_n 2, 1) := by decide +kernel
theorem dX7_findCut_13 : decode cX7_findCut 13 = .ok (.iaload, 1) := by decide +kernel
theorem dX7_findCut_14 : decode cX7_findCut 14 = .ok (.istore_n 3, 1) := by decide +kernel
theorem dX7_findCut_15 : decode cX7_findCut 15 = .ok (.aload_n 0, 1) := by decide +kernel
theorem dX7_findCut_16 : decode cX7_findCut 16 = .ok (.bipush (-2), 2) := by decide +kernel
theorem dX7_findCut_18 : decode cX7_findCut 18 = .ok (.putfield 33, 3) := by decide +kernel
theorem dX7_findCut_21 : decode cX7_findCut 21 = .ok (.iconst 0, 1) := by decide +kernel
theorem dX7_findCut_22 : decode cX7_findCut 22 = .ok (.istore 4, 2) := by decide +kernel
theorem dX7_findCut_24 : decode cX7_findCut 24 = .ok (.iload 4, 2) := by decide +kernel
theorem dX7_findCut_26 : decode cX7_findCut 26 = .ok (.iconst 3, 1) := by decide +kernel
theorem dX7_findCut_27 : decode cX7_findCut 27 = .ok (.if_icmp .gt 34, 3) := by decide +kernel
theorem dX7_findCut_30 : decode cX7_findCut 30 = .ok (.aload_n 0, 1) := by decide +kernel
theorem dX7_findCut_31 : decode cX7_findCut 31 = .ok (.getfield 33, 3) := by decide +kernel
theorem dX7_findCut_34 : decode cX7_findCut 34 = .ok (.bipush (-2), 2) := by decide +kernel
theorem dX7_findCut_36 : decode cX7_findCut 36 = .ok (.if_icmp .ne 25, 3) := by decide +kernel
theorem dX7_findCut_39 : decode cX7_findCut 39 = .ok (.aload_n 0, 1) := by decide +kernel
theorem dX7_findCut_40 : decode cX7_findCut 40 = .ok (.iload_n 3, 1) := by decide +kernel
theorem dX7_findCut_41 : decode cX7_findCut 41 = .ok (.iload 4, 2) := by decide +kernel
theorem dX7_findCut_43 : decode cX7_findCut 43 = .ok (.invokestatic 37, 3) := by decide +kernel
theorem dX7_findCut_46 : decode cX7_findCut 46 = .ok (.ifCond .eq 9, 3) := by decide +kernel
theorem dX7_findCut_49 : decode cX7_findCut 49 = .ok (.aload_n 0, 1) := by decide +kernel
theorem dX7_findCut_50 : decode cX7_findCut 50 = .ok (.iload 4, 2) := by decide +kernel
theorem dX7_findCut_52 : decode cX7_findCut 52 = .ok (.putfield 33, 3) := by decide +kernel
theorem dX7_findCut_55 : decode cX7_findCut 55 = .ok (.iinc 4 1, 3) := by decide +kernel
theorem dX7_findCut_58 : decode cX7_findCut 58 = .ok (.goto (-34), 3) := by decide +kernel
theorem dX7_findCut_61 : decode cX7_findCut 61 = .ok (.iconst 0, 1) := by decide +kernel
theorem dX7_findCut_62 : decode cX7_findCut 62 = .ok (.istore 4, 2) := by decide +kernel
theorem dX7_findCut_64 : decode cX7_findCut 64 = .ok (.iconst 0, 1) := by decide +kernel
theorem dX7_findCut_65 : decode cX7_findCut 65 = .ok (.istore 5, 2) := by decide +kernel
theorem dX7_findCut_67 : decode cX7_findCut 67 = .ok (.iload 5, 2) := by decide +kernel
theorem dX7_findCut_69 : decode cX7_findCut 69 = .ok (.aload_n 1, 1) := by decide +kernel
theorem dX7_findCut_70 : decode cX7_findCut 70 = .ok (.getfield 41, 3) := by decide +kernel
theorem dX7_findCut_73 : decode cX7_findCut 73 = .ok (.if_icmp .ge 113, 3) := by decide +kernel
theorem dX7_findCut_76 : decode cX7_findCut 76 = .ok (.iload 4, 2) := by decide +kernel
theorem dX7_findCut_78 : decode cX7_findCut 78 = .ok (.aload_n 0, 1) := by decide +kernel
theorem dX7_findCut_79 : decode cX7_findCut 79 = .ok (.getfield 33, 3) := by decide +kernel
theorem dX7_findCut_82 : decode cX7_findCut 82 = .ok (.if_icmp .ge 104, 3) := by decide +kernel
theorem dX7_findCut_85 : decode cX7_findCut 85 = .ok (.iload 5, 2) := by decide +kernel
theorem dX7_findCut_87 : decode cX7_findCut 87 = .ok (.aload_n 1, 1) := by decide +kernel
theorem dX7_findCut_88 : decode cX7_findCut 88 = .ok (.getfield 44, 3) := by decide +kernel
theorem dX7_findCut_91 : decode cX7_findCut 91 = .ok (.if_icmp .eq 89, 3) := by decide +kernel
theorem dX7_findCut_94 : decode cX7_findCut 94 = .ok (.iload 5, 2) := by decide +kernel
theorem dX7_findCut_96 : decode cX7_findCut 96 = .ok (.iload_n 3, 1) := by decide +kernel
theorem dX7_findCut_97 : decode cX7_findCut 97 = .ok (.if_icmp .eq 83, 3) := by decide +kernel
theorem dX7_findCut_100 : decode cX7_findCut 100 = .ok (.aload_n 1, 1) := by decide +kernel
theorem dX7_findCut_101 : decode cX7_findCut 101 = .ok (.iload 5, 2) := by decide +kernel
theorem dX7_findCut_103 : decode cX7_findCut 103 = .ok (.invokevirtual 47, 3) := by decide +kernel
theorem dX7_findCut_106 : decode cX7_findCut 106 = .ok (.ifCond .ne 6, 3) := by decide +kernel
theorem dX7_findCut_109 : decode cX7_findCut 109 = .ok (.goto 71, 3) := by decide +kernel
theorem dX7_findCut_112 : decode cX7_findCut 112 = .ok (.aload_n 0, 1) := by decide +kernel
theorem dX7_findCut_113 : decode cX7_findCut 113 = .ok (.getfield 18, 3) := by decide +kernel
theorem dX7_findCut_116 : decode cX7_findCut 116 = .ok (.dup, 1) := by decide +kernel
theorem dX7_findCut_117 : decode cX7_findCut 117 = .ok (.getfield 51, 3) := by decide +kernel
theorem dX7_findCut_120 : decode cX7_findCut 120 = .ok (.lconst 1, 1) := by decide +kernel
theorem dX7_findCut_121 : decode cX7_findCut 121 = .ok (.iload 5, 2) := by decide +kernel
theorem dX7_findCut_123 : decode cX7_findCut 123 = .ok (.lshl, 1) := by decide +kernel
theorem dX7_findCut_124 : decode cX7_findCut 124 = .ok (.lor, 1) := by decide +kernel
theorem dX7_findCut_125 : decode cX7_findCut 125 = .ok (.putfield 51, 3) := by decide +kernel
theorem dX7_findCut_128 : decode cX7_findCut 128 = .ok (.aload_n 0, 1) := by decide +kernel
theorem dX7_findCut_129 : decode cX7_findCut 129 = .ok (.iload_n 3, 1) := by decide +kernel
theorem dX7_findCut_130 : decode cX7_findCut 130 = .ok (.aload_n 0, 1) := by decide +kernel
theorem dX7_findCut_131 : decode cX7_findCut 131 = .ok (.getfield 33, 3) := by decide +kernel
theorem dX7_findCut_134 : decode cX7_findCut 134 = .ok (.iload 4, 2) := by decide +kernel
theorem dX7_findCut_136 : decode cX7_findCut 136 = .ok (.isub, 1) := by decide +kernel
theorem dX7_findCut_137 : decode cX7_findCut 137 = .ok (.iconst 1, 1) := by decide +kernel
theorem dX7_findCut_138 : decode cX7_findCut 138 = .ok (.isub, 1) := by decide +kernel
theorem dX7_findCut_139 : decode cX7_findCut 139 = .ok (.invokestatic 37, 3) := by decide +kernel
theorem dX7_findCut_142 : decode cX7_findCut 142 = .ok (.ifCond .eq 18, 3) := by decide +kernel
theorem dX7_findCut_145 : decode cX7_findCut 145 = .ok (.aload_n 0, 1) := by decide +kernel
theorem dX7_findCut_146 : decode cX7_findCut 146 = .ok (.getfield 11, 3) := by decide +kernel
theorem dX7_findCut_149 : decode cX7_findCut 149 = .ok (.iload 4, 2) := by decide +kernel
theorem dX7_findCut_151 : decode cX7_findCut 151 = .ok (.iload 5, 2) := by decide +kernel
theorem dX7_findCut_153 : decode cX7_findCut 153 = .ok (.iastore, 1) := by decide +kernel
theorem dX7_findCut_154 : decode cX7_findCut 154 = .ok (.iinc 4 1, 3) := by decide +kernel
theorem dX7_findCut_157 : decode cX7_findCut 157 = .ok (.goto 23, 3) := by decide +kernel
theorem dX7_findCut_160 : decode cX7_findCut 160 = .ok (.aload_n 0, 1) := by decide +kernel
theorem dX7_findCut_161 : decode cX7_findCut 161 = .ok (.getfield 18, 3) := by decide +kernel
theorem dX7_findCut_164 : decode cX7_findCut 164 = .ok (.dup, 1) := by decide +kernel
theorem dX7_findCut_165 : decode cX7_findCut 165 = .ok (.getfield 51, 3) := by decide +kernel
theorem dX7_findCut_168 : decode cX7_findCut 168 = .ok (.lconst 1, 1) := by decide +kernel
theorem dX7_findCut_169 : decode cX7_findCut 169 = .ok (.iload 5, 2) := by decide +kernel
theorem dX7_findCut_171 : decode cX7_findCut 171 = .ok (.lshl, 1) := by decide +kernel
theorem dX7_findCut_172 : decode cX7_findCut 172 = .ok (.ldc2_w 55, 3) := by decide +kernel
theorem dX7_findCut_175 : decode cX7_findCut 175 = .ok (.lxor, 1) := by decide +kernel
theorem dX7_findCut_176 : decode cX7_findCut 176 = .ok (.land, 1) := by decide +kernel
theorem dX7_findCut_177 : decode cX7_findCut 177 = .ok (.putfield 51, 3) := by decide +kernel
theorem dX7_findCut_180 : decode cX7_findCut 180 = .ok (.iinc 5 1, 3) := by decide +kernel
theorem dX7_findCut_183 : decode cX7_findCut 183 = .ok (.goto (-116), 3) := by decide +kernel
theorem dX7_findCut_186 : decode cX7_findCut 186 = .ok (.return_, 1) := by decide +kernel
theorem dX7_isCutBy_0 : decode cX7_isCutBy 0 = .ok (.aload_n 0, 1) := by decide +kernel
theorem dX7_isCutBy_1 : decode cX7_isCutBy 1 = .ok (.getfield 18, 3) := by decide +kernel
theorem dX7_isCutBy_4 : decode cX7_isCutBy 4 = .ok (.astore_n 3, 1) := by decide +kernel
theorem dX7_isCutBy_5 : decode cX7_isCutBy 5 = .ok (.aload_n 3, 1) := by decide +kernel
theorem dX7_isCutBy_6 : decode cX7_isCutBy 6 = .ok (.aload_n 3, 1) := by decide +kernel
theorem dX7_isCutBy_7 : decode cX7_isCutBy 7 = .ok (.getfield 44, 3) := by decide +kernel
theorem dX7_isCutBy_10 : decode cX7_isCutBy 10 = .ok (.lconst 1, 1) := by decide +kernel
theorem dX7_isCutBy_11 : decode cX7_isCutBy 11 = .ok (.iload_n 1, 1) := by decide +kernel
theorem dX7_isCutBy_12 : decode cX7_isCutBy 12 = .ok (.lshl, 1) := by decide +kernel
theorem dX7_isCutBy_13 : decode cX7_isCutBy 13 = .ok (.invokevirtual 57, 3) := by decide +kernel
theorem dX7_isCutBy_16 : decode cX7_isCutBy 16 = .ok (.iconst (-1), 1) := by decide +kernel
theorem dX7_isCutBy_17 : decode cX7_isCutBy 17 = .ok (.if_icmp .ne 5, 3) := by decide +kernel
theorem dX7_isCutBy_20 : decode cX7_isCutBy 20 = .ok (.iconst 1, 1) := by decide +kernel
theorem dX7_isCutBy_21 : decode cX7_isCutBy 21 = .ok (.ireturn, 1) := by decide +kernel
theorem dX7_isCutBy_22 : decode cX7_isCutBy 22 = .ok (.iload_n 2, 1) := by decide +kernel
theorem dX7_isCutBy_23 : decode cX7_isCutBy 23 = .ok (.ifCond .le 8, 3) := by decide +kernel
theorem dX7_isCutBy_26 : decode cX7_isCutBy 26 = .ok (.iload_n 2, 1) := by decide +kernel
theorem dX7_isCutBy_27 : decode cX7_isCutBy 27 = .ok (.iconst 3, 1) := by decide +kernel
theorem dX7_isCutBy_28 : decode cX7_isCutBy 28 = .ok (.if_icmp .le 5, 3) := by decide +kernel
theorem dX7_isCutBy_31 : decode cX7_isCutBy 31 = .ok (.iconst 0, 1) := by decide +kernel
theorem dX7_isCutBy_32 : decode cX7_isCutBy 32 = .ok (.ireturn, 1) := by decide +kernel
theorem dX7_isCutBy_33 : decode cX7_isCutBy 33 = .ok (.aload_n 0, 1) := by decide +kernel
theorem dX7_isCutBy_34 : decode cX7_isCutBy 34 = .ok (.iload_n 1, 1) := by decide +kernel
theorem dX7_isCutBy_35 : decode cX7_isCutBy 35 = .ok (.invokevirtual 61, 3) := by decide +kernel
theorem dX7_isCutBy_38 : decode cX7_isCutBy 38 = .ok (.lstore 4, 2) := by decide +kernel
theorem dX7_isCutBy_40 : decode cX7_isCutBy 40 = .ok (.iconst 0, 1) := by decide +kernel
theorem dX7_isCutBy_41 : decode cX7_isCutBy 41 = .ok (.istore 6, 2) := by decide +kernel
theorem dX7_isCutBy_43 : decode cX7_isCutBy 43 = .ok (.iload 6, 2) := by decide +kernel
theorem dX7_isCutBy_45 : decode cX7_isCutBy 45 = .ok (.aload_n 3, 1) := by decide +kernel
theorem dX7_isCutBy_46 : decode cX7_isCutBy 46 = .ok (.getfield 41, 3) := by decide +kernel
theorem dX7_isCutBy_49 : decode cX7_isCutBy 49 = .ok (.if_icmp .ge 68, 3) := by decide +kernel
theorem dX7_isCutBy_52 : decode cX7_isCutBy 52 = .ok (.lload 4, 2) := by decide +kernel
theorem dX7_isCutBy_54 : decode cX7_isCutBy 54 = .ok (.iload 6, 2) := by decide +kernel
theorem dX7_isCutBy_56 : decode cX7_isCutBy 56 = .ok (.lushr, 1) := by decide +kernel
theorem dX7_isCutBy_57 : decode cX7_isCutBy 57 = .ok (.lconst 1, 1) := by decide +kernel
theorem dX7_isCutBy_58 : decode cX7_isCutBy 58 = .ok (.land, 1) := by decide +kernel
theorem dX7_isCutBy_59 : decode cX7_isCutBy 59 = .ok (.lconst 0, 1) := by decide +kernel
theorem dX7_isCutBy_60 : decode cX7_isCutBy 60 = .ok (.lcmp, 1) := by decide +kernel
theorem dX7_isCutBy_61 : decode cX7_isCutBy 61 = .ok (.ifCond .eq 50, 3) := by decide +kernel
theorem dX7_isCutBy_64 : decode cX7_isCutBy 64 = .ok (.aload_n 3, 1) := by decide +kernel
theorem dX7_isCutBy_65 : decode cX7_isCutBy 65 = .ok (.dup, 1) := by decide +kernel
theorem dX7_isCutBy_66 : decode cX7_isCutBy 66 = .ok (.getfield 51, 3) := by decide +kernel
theorem dX7_isCutBy_69 : decode cX7_isCutBy 69 = .ok (.lconst 1, 1) := by decide +kernel
theorem dX7_isCutBy_70 : decode cX7_isCutBy 70 = .ok (.iload 6, 2) := by decide +kernel
theorem dX7_isCutBy_72 : decode cX7_isCutBy 72 = .ok (.lshl, 1) := by decide +kernel
theorem dX7_isCutBy_73 : decode cX7_isCutBy 73 = .ok (.lor, 1) := by decide +kernel
theorem dX7_isCutBy_74 : decode cX7_isCutBy 74 = .ok (.putfield 51, 3) := by decide +kernel
theorem dX7_isCutBy_77 : decode cX7_isCutBy 77 = .ok (.aload_n 0, 1) := by decide +kernel
theorem dX7_isCutBy_78 : decode cX7_isCutBy 78 = .ok (.iload_n 1, 1) := by decide +kernel
theorem dX7_isCutBy_79 : decode cX7_isCutBy 79 = .ok (.iload_n 2, 1) := by decide +kernel
theorem dX7_isCutBy_80 : decode cX7_isCutBy 80 = .ok (.iconst 1, 1) := by decide +kernel
theorem dX7_isCutBy_81 : decode cX7_isCutBy 81 = .ok (.isub, 1) := by decide +kernel
theorem dX7_isCutBy_82 : decode cX7_isCutBy 82 = .ok (.invokestatic 37, 3) := by decide +kernel
theorem dX7_isCutBy_85 : decode cX7_isCutBy 85 = .ok (.istore 7, 2) := by decide +kernel
theorem dX7_isCutBy_87 : decode cX7_isCutBy 87 = .ok (.aload_n 3, 1) := by decide +kernel
theorem dX7_isCutBy_88 : decode cX7_isCutBy 88 = .ok (.dup, 1) := by decide +kernel
theorem dX7_isCutBy_89 : decode cX7_isCutBy 89 = .ok (.getfield 51, 3) := by decide +kernel
theorem dX7_isCutBy_92 : decode cX7_isCutBy 92 = .ok (.lconst 1, 1) := by decide +kernel
theorem dX7_isCutBy_93 : decode cX7_isCutBy 93 = .ok (.iload 6, 2) := by decide +kernel
theorem dX7_isCutBy_95 : decode cX7_isCutBy 95 = .ok (.lshl, 1) := by decide +kernel
theorem dX7_isCutBy_96 : decode cX7_isCutBy 96 = .ok (.ldc2_w 55, 3) := by decide +kernel
theorem dX7_isCutBy_99 : decode cX7_isCutBy 99 = .ok (.lxor, 1) := by decide +kernel
theorem dX7_isCutBy_100 : decode cX7_isCutBy 100 = .ok (.land, 1) := by decide +kernel
theorem dX7_isCutBy_101 : decode cX7_isCutBy 101 = .ok (.putfield 51, 3) := by decide +kernel
theorem dX7_isCutBy_104 : decode cX7_isCutBy 104 = .ok (.iload 7, 2) := by decide +kernel
theorem dX7_isCutBy_106 : decode cX7_isCutBy 106 = .ok (.ifCond .eq 5, 3) := by decide +kernel
theorem dX7_isCutBy_109 : decode cX7_isCutBy 109 = .ok (.iconst 1, 1) := by decide +kernel
theorem dX7_isCutBy_110 : decode cX7_isCutBy 110 = .ok (.ireturn, 1) := by decide +kernel
theorem dX7_isCutBy_111 : decode cX7_isCutBy 111 = .ok (.iinc 6 1, 3) := by decide +kernel
theorem dX7_isCutBy_114 : decode cX7_isCutBy 114 = .ok (.goto (-71), 3) := by decide +kernel
theorem dX7_isCutBy_117 : decode cX7_isCutBy 117 = .ok (.iconst 0, 1) := by decide +kernel
theorem dX7_isCutBy_118 : decode cX7_isCutBy 118 = .ok (.ireturn, 1) := by decide +kernel
theorem dX7_cellsBetween_0 : decode cX7_cellsBetween 0 = .ok (.lconst 1, 1) := by decide +kernel
theorem dX7_cellsBetween_1 : decode cX7_cellsBetween 1 = .ok (.iload_n 1, 1) := by decide +kernel
theorem dX7_cellsBetween_2 : decode cX7_cellsBetween 2 = .ok (.lshl, 1) := by decide +kernel
theorem dX7_cellsBetween_3 : decode cX7_cellsBetween 3 = .ok (.lstore_n 2, 1) := by decide +kernel
theorem dX7_cellsBetween_4 : decode cX7_cellsBetween 4 = .ok (.lconst 1, 1) := by decide +kernel
theorem dX7_cellsBetween_5 : decode cX7_cellsBetween 5 = .ok (.aload_n 0, 1) := by decide +kernel
theorem dX7_cellsBetween_6 : decode cX7_cellsBetween 6 = .ok (.getfield 18, 3) := by decide +kernel
theorem dX7_cellsBetween_9 : decode cX7_cellsBetween 9 = .ok (.getfield 44, 3) := by decide +kernel
theorem dX7_cellsBetween_12 : decode cX7_cellsBetween 12 = .ok (.lshl, 1) := by decide +kernel
theorem dX7_cellsBetween_13 : decode cX7_cellsBetween 13 = .ok (.lstore 4, 2) := by decide +kernel
theorem dX7_cellsBetween_15 : decode cX7_cellsBetween 15 = .ok (.iconst 0, 1) := by decide +kernel
theorem dX7_cellsBetween_16 : decode cX7_cellsBetween 16 = .ok (.istore 6, 2) := by decide +kernel
theorem dX7_cellsBetween_18 : decode cX7_cellsBetween 18 = .ok (.lload 4, 2) := by decide +kernel
theorem dX7_cellsBetween_20 : decode cX7_cellsBetween 20 = .ok (.lload_n 2, 1) := by decide +kernel
theorem dX7_cellsBetween_21 : decode cX7_cellsBetween 21 = .ok (.land, 1) := by decide +kernel
theorem dX7_cellsBetween_22 : decode cX7_cellsBetween 22 = .ok (.lconst 0, 1) := by decide +kernel
theorem dX7_cellsBetween_23 : decode cX7_cellsBetween 23 = .ok (.lcmp, 1) := by decide +kernel
theorem dX7_cellsBetween_24 : decode cX7_cellsBetween 24 = .ok (.ifCond .ne 51, 3) := by decide +kernel
theorem dX7_cellsBetween_27 : decode cX7_cellsBetween 27 = .ok (.iload 6, 2) := by decide +kernel
theorem dX7_cellsBetween_29 : decode cX7_cellsBetween 29 = .ok (.bipush 36, 2) := by decide +kernel
theorem dX7_cellsBetween_31 : decode cX7_cellsBetween 31 = .ok (.if_icmp .ge 44, 3) := by decide +kernel
theorem dX7_cellsBetween_34 : decode cX7_cellsBetween 34 = .ok (.aload_n 0, 1) := by decide +kernel
theorem dX7_cellsBetween_35 : decode cX7_cellsBetween 35 = .ok (.getfield 22, 3) := by decide +kernel
theorem dX7_cellsBetween_38 : decode cX7_cellsBetween 38 = .ok (.iload 6, 2) := by decide +kernel
theorem dX7_cellsBetween_40 : decode cX7_cellsBetween 40 = .ok (.lload 4, 2) := by decide +kernel
theorem dX7_cellsBetween_42 : decode cX7_cellsBetween 42 = .ok (.lastore, 1) := by decide +kernel
theorem dX7_cellsBetween_43 : decode cX7_cellsBetween 43 = .ok (.lload 4, 2) := by decide +kernel
theorem dX7_cellsBetween_45 : decode cX7_cellsBetween 45 = .ok (.aload_n 0, 1) := by decide +kernel
theorem dX7_cellsBetween_46 : decode cX7_cellsBetween 46 = .ok (.getfield 18, 3) := by decide +kernel
theorem dX7_cellsBetween_49 : decode cX7_cellsBetween 49 = .ok (.lload 4, 2) := by decide +kernel
theorem dX7_cellsBetween_51 : decode cX7_cellsBetween 51 = .ok (.invokevirtual 65, 3) := by decide +kernel
theorem dX7_cellsBetween_54 : decode cX7_cellsBetween 54 = .ok (.aload_n 0, 1) := by decide +kernel
theorem dX7_cellsBetween_55 : decode cX7_cellsBetween 55 = .ok (.getfield 18, 3) := by decide +kernel
theorem dX7_cellsBetween_58 : decode cX7_cellsBetween 58 = .ok (.getfield 51, 3) := by decide +kernel
theorem dX7_cellsBetween_61 : decode cX7_cellsBetween 61 = .ok (.ldc2_w 55, 3) := by decide +kernel
theorem dX7_cellsBetween_64 : decode cX7_cellsBetween 64 = .ok (.lxor, 1) := by decide +kernel
theorem dX7_cellsBetween_65 : decode cX7_cellsBetween 65 = .ok (.land, 1) := by decide +kernel
theorem dX7_cellsBetween_66 : decode cX7_cellsBetween 66 = .ok (.lor, 1) := by decide +kernel
theorem dX7_cellsBetween_67 : decode cX7_cellsBetween 67 = .ok (.lstore 4, 2) := by decide +kernel
theorem dX7_cellsBetween_69 : decode cX7_cellsBetween 69 = .ok (.iinc 6 1, 3) := by decide +kernel
theorem dX7_cellsBetween_72 : decode cX7_cellsBetween 72 = .ok (.goto (-54), 3) := by decide +kernel
theorem dX7_cellsBetween_75 : decode cX7_cellsBetween 75 = .ok (.lconst 0, 1) := by decide +kernel
theorem dX7_cellsBetween_76 : decode cX7_cellsBetween 76 = .ok (.lstore 7, 2) := by decide +kernel
theorem dX7_cellsBetween_78 : decode cX7_cellsBetween 78 = .ok (.lload_n 2, 1) := by decide +kernel
theorem dX7_cellsBetween_79 : decode cX7_cellsBetween 79 = .ok (.lstore 9, 2) := by decide +kernel
theorem dX7_cellsBetween_81 : decode cX7_cellsBetween 81 = .ok (.iload 6, 2) := by decide +kernel
theorem dX7_cellsBetween_83 : decode cX7_cellsBetween 83 = .ok (.iconst 1, 1) := by decide +kernel
theorem dX7_cellsBetween_84 : decode cX7_cellsBetween 84 = .ok (.isub, 1) := by decide +kernel
theorem dX7_cellsBetween_85 : decode cX7_cellsBetween 85 = .ok (.istore 11, 2) := by decide +kernel
theorem dX7_cellsBetween_87 : decode cX7_cellsBetween 87 = .ok (.iload 11, 2) := by decide +kernel
theorem dX7_cellsBetween_89 : decode cX7_cellsBetween 89 = .ok (.ifCond .le 43, 3) := by decide +kernel
theorem dX7_cellsBetween_92 : decode cX7_cellsBetween 92 = .ok (.aload_n 0, 1) := by decide +kernel
theorem dX7_cellsBetween_93 : decode cX7_cellsBetween 93 = .ok (.getfield 18, 3) := by decide +kernel
theorem dX7_cellsBetween_96 : decode cX7_cellsBetween 96 = .ok (.lload 9, 2) := by decide +kernel
theorem dX7_cellsBetween_98 : decode cX7_cellsBetween 98 = .ok (.invokevirtual 65, 3) := by decide +kernel
theorem dX7_cellsBetween_101 : decode cX7_cellsBetween 101 = .ok (.aload_n 0, 1) := by decide +kernel
theorem dX7_cellsBetween_102 : decode cX7_cellsBetween 102 = .ok (.getfield 22, 3) := by decide +kernel
theorem dX7_cellsBetween_105 : decode cX7_cellsBetween 105 = .ok (.iload 11, 2) := by decide +kernel
theorem dX7_cellsBetween_107 : decode cX7_cellsBetween 107 = .ok (.laload, 1) := by decide +kernel
theorem dX7_cellsBetween_108 : decode cX7_cellsBetween 108 = .ok (.land, 1) := by decide +kernel
theorem dX7_cellsBetween_109 : decode cX7_cellsBetween 109 = .ok (.lstore 12, 2) := by decide +kernel
theorem dX7_cellsBetween_111 : decode cX7_cellsBetween 111 = .ok (.lload 12, 2) := by decide +kernel
theorem dX7_cellsBetween_113 : decode cX7_cellsBetween 113 = .ok (.lload 12, 2) := by decide +kernel
theorem dX7_cellsBetween_115 : decode cX7_cellsBetween 115 = .ok (.lneg, 1) := by decide +kernel
theorem dX7_cellsBetween_116 : decode cX7_cellsBetween 116 = .ok (.land, 1) := by decide +kernel
theorem dX7_cellsBetween_117 : decode cX7_cellsBetween 117 = .ok (.lstore 9, 2) := by decide +kernel
theorem dX7_cellsBetween_119 : decode cX7_cellsBetween 119 = .ok (.lload 7, 2) := by decide +kernel
theorem dX7_cellsBetween_121 : decode cX7_cellsBetween 121 = .ok (.lload 9, 2) := by decide +kernel
theorem dX7_cellsBetween_123 : decode cX7_cellsBetween 123 = .ok (.lor, 1) := by decide +kernel
theorem dX7_cellsBetween_124 : decode cX7_cellsBetween 124 = .ok (.lstore 7, 2) := by decide +kernel
theorem dX7_cellsBetween_126 : decode cX7_cellsBetween 126 = .ok (.iinc 11 (-1), 3) := by decide +kernel
theorem dX7_cellsBetween_129 : decode cX7_cellsBetween 129 = .ok (.goto (-42), 3) := by decide +kernel
theorem dX7_cellsBetween_132 : decode cX7_cellsBetween 132 = .ok (.lload 7, 2) := by decide +kernel
theorem dX7_cellsBetween_134 : decode cX7_cellsBetween 134 = .ok (.lreturn, 1) := by decide +kernel
theorem dX7_play_0 : decode cX7_play 0 = .ok (.aload_n 0, 1) := by decide +kernel
theorem dX7_play_1 : decode cX7_play 1 = .ok (.iconst (-1), 1) := by decide +kernel
theorem dX7_play_2 : decode cX7_play 2 = .ok (.putfield 69, 3) := by decide +kernel
theorem dX7_play_5 : decode cX7_play 5 = .ok (.iconst 0, 1) := by decide +kernel
theorem dX7_play_6 : decode cX7_play 6 = .ok (.istore 4, 2) := by decide +kernel
theorem dX7_play_8 : decode cX7_play 8 = .ok (.iload 4, 2) := by decide +kernel
theorem dX7_play_10 : decode cX7_play 10 = .ok (.getstatic 72, 3) := by decide +kernel
theorem dX7_play_13 : decode cX7_play 13 = .ok (.arraylength, 1) := by decide +kernel
theorem dX7_play_14 : decode cX7_play 14 = .ok (.if_icmp .ge 81, 3) := by decide +kernel
theorem dX7_play_17 : decode cX7_play 17 = .ok (.aload_n 1, 1) := by decide +kernel
theorem dX7_play_18 : decode cX7_play 18 = .ok (.aload_n 1, 1) := by decide +kernel
theorem dX7_play_19 : decode cX7_play 19 = .ok (.getfield 44, 3) := by decide +kernel
theorem dX7_play_22 : decode cX7_play 22 = .ok (.getstatic 72, 3) := by decide +kernel
theorem dX7_play_25 : decode cX7_play 25 = .ok (.iload 4, 2) := by decide +kernel
theorem dX7_play_27 : decode cX7_play 27 = .ok (.iaload, 1) := by decide +kernel
theorem dX7_play_28 : decode cX7_play 28 = .ok (.invokevirtual 75, 3) := by decide +kernel
theorem dX7_play_31 : decode cX7_play 31 = .ok (.istore 5, 2) := by decide +kernel
theorem dX7_play_33 : decode cX7_play 33 = .ok (.iload 5, 2) := by decide +kernel
theorem dX7_play_35 : decode cX7_play 35 = .ok (.iconst (-1), 1) := by decide +kernel
theorem dX7_play_36 : decode cX7_play 36 = .ok (.if_icmp .ne 6, 3) := by decide +kernel
theorem dX7_play_39 : decode cX7_play 39 = .ok (.goto 50, 3) := by decide +kernel
theorem dX7_play_42 : decode cX7_play 42 = .ok (.aload_n 1, 1) := by decide +kernel
theorem dX7_play_43 : decode cX7_play 43 = .ok (.iload 5, 2) := by decide +kernel
theorem dX7_play_45 : decode cX7_play 45 = .ok (.aload_n 1, 1) := by decide +kernel
theorem dX7_play_46 : decode cX7_play 46 = .ok (.getfield 30, 3) := by decide +kernel
theorem dX7_play_49 : decode cX7_play 49 = .ok (.iload_n 2, 1) := by decide +kernel
theorem dX7_play_50 : decode cX7_play 50 = .ok (.iaload, 1) := by decide +kernel
theorem dX7_play_51 : decode cX7_play 51 = .ok (.iload_n 3, 1) := by decide +kernel
theorem dX7_play_52 : decode cX7_play 52 = .ok (.iconst 1, 1) := by decide +kernel
theorem dX7_play_53 : decode cX7_play 53 = .ok (.isub, 1) := by decide +kernel
theorem dX7_play_54 : decode cX7_play 54 = .ok (.iconst 0, 1) := by decide +kernel
theorem dX7_play_55 : decode cX7_play 55 = .ok (.invokestatic 79, 3) := by decide +kernel
theorem dX7_play_58 : decode cX7_play 58 = .ok (.istore 6, 2) := by decide +kernel
theorem dX7_play_60 : decode cX7_play 60 = .ok (.aload_n 0, 1) := by decide +kernel
theorem dX7_play_61 : decode cX7_play 61 = .ok (.getfield 69, 3) := by decide +kernel
theorem dX7_play_64 : decode cX7_play 64 = .ok (.iconst (-1), 1) := by decide +kernel
theorem dX7_play_65 : decode cX7_play 65 = .ok (.if_icmp .eq 12, 3) := by decide +kernel
theorem dX7_play_68 : decode cX7_play 68 = .ok (.iload 6, 2) := by decide +kernel
theorem dX7_play_70 : decode cX7_play 70 = .ok (.aload_n 0, 1) := by decide +kernel
theorem dX7_play_71 : decode cX7_play 71 = .ok (.getfield 69, 3) := by decide +kernel
theorem dX7_play_74 : decode cX7_play 74 = .ok (.if_icmp .ge 15, 3) := by decide +kernel
theorem dX7_play_77 : decode cX7_play 77 = .ok (.aload_n 0, 1) := by decide +kernel
theorem dX7_play_78 : decode cX7_play 78 = .ok (.iload 6, 2) := by decide +kernel
theorem dX7_play_80 : decode cX7_play 80 = .ok (.putfield 69, 3) := by decide +kernel
theorem dX7_play_83 : decode cX7_play 83 = .ok (.aload_n 0, 1) := by decide +kernel
theorem dX7_play_84 : decode cX7_play 84 = .ok (.iload 5, 2) := by decide +kernel
theorem dX7_play_86 : decode cX7_play 86 = .ok (.putfield 83, 3) := by decide +kernel
theorem dX7_play_89 : decode cX7_play 89 = .ok (.iinc 4 1, 3) := by decide +kernel
theorem dX7_play_92 : decode cX7_play 92 = .ok (.goto (-84), 3) := by decide +kernel
theorem dX7_play_95 : decode cX7_play 95 = .ok (.return_, 1) := by decide +kernel
theorem dX7_ended_0 : decode cX7_ended 0 = .ok (.iload_n 3, 1) := by decide +kernel
theorem dX7_ended_1 : decode cX7_ended 1 = .ok (.ifCond .le 8, 3) := by decide +kernel
theorem dX7_ended_4 : decode cX7_ended 4 = .ok (.iload_n 3, 1) := by decide +kernel
theorem dX7_ended_5 : decode cX7_ended 5 = .ok (.iconst 4, 1) := by decide +kernel
theorem dX7_ended_6 : decode cX7_ended 6 = .ok (.if_icmp .le 10, 3) := by decide +kernel
theorem dX7_ended_9 : decode cX7_ended 9 = .ok (.aload_n 0, 1) := by decide +kernel
theorem dX7_ended_10 : decode cX7_ended 10 = .ok (.iload_n 1, 1) := by decide +kernel
theorem dX7_ended_11 : decode cX7_ended 11 = .ok (.iload_n 2, 1) := by decide +kernel
theorem dX7_ended_12 : decode cX7_ended 12 = .ok (.invokevirtual 86, 3) := by decide +kernel
theorem dX7_ended_15 : decode cX7_ended 15 = .ok (.ireturn, 1) := by decide +kernel
theorem dX7_ended_16 : decode cX7_ended 16 = .ok (.iconst (-1), 1) := by decide +kernel
theorem dX7_ended_17 : decode cX7_ended 17 = .ok (.istore 5, 2) := by decide +kernel
theorem dX7_ended_19 : decode cX7_ended 19 = .ok (.iconst 0, 1) := by decide +kernel
theorem dX7_ended_20 : decode cX7_ended 20 = .ok (.istore 6, 2) := by decide +kernel
theorem dX7_ended_22 : decode cX7_ended 22 = .ok (.iload 6, 2) := by decide +kernel
theorem dX7_ended_24 : decode cX7_ended 24 = .ok (.getstatic 72, 3) := by decide +kernel
theorem dX7_ended_27 : decode cX7_ended 27 = .ok (.arraylength, 1) := by decide +kernel
theorem dX7_ended_28 : decode cX7_ended 28 = .ok (.if_icmp .ge 116, 3) := by decide +kernel
theorem dX7_ended_31 : decode cX7_ended 31 = .ok (.getstatic 72, 3) := by decide +kernel
theorem dX7_ended_34 : decode cX7_ended 34 = .ok (.iload 6, 2) := by decide +kernel
theorem dX7_ended_36 : decode cX7_ended 36 = .ok (.iaload, 1) := by decide +kernel
theorem dX7_ended_37 : decode cX7_ended 37 = .ok (.istore 7, 2) := by decide +kernel
theorem dX7_ended_39 : decode cX7_ended 39 = .ok (.iload 4, 2) := by decide +kernel
theorem dX7_ended_41 : decode cX7_ended 41 = .ok (.ifCond .eq 13, 3) := by decide +kernel
theorem dX7_ended_44 : decode cX7_ended 44 = .ok (.aload_n 0, 1) := by decide +kernel
theorem dX7_ended_45 : decode cX7_ended 45 = .ok (.iload_n 1, 1) := by decide +kernel
theorem dX7_ended_46 : decode cX7_ended 46 = .ok (.iload 7, 2) := by decide +kernel
theorem dX7_ended_48 : decode cX7_ended 48 = .ok (.invokevirtual 75, 3) := by decide +kernel
theorem dX7_ended_51 : decode cX7_ended 51 = .ok (.goto 10, 3) := by decide +kernel
theorem dX7_ended_54 : decode cX7_ended 54 = .ok (.aload_n 0, 1) := by decide +kernel
theorem dX7_ended_55 : decode cX7_ended 55 = .ok (.iload_n 2, 1) := by decide +kernel
theorem dX7_ended_56 : decode cX7_ended 56 = .ok (.iload 7, 2) := by decide +kernel
theorem dX7_ended_58 : decode cX7_ended 58 = .ok (.invokevirtual 89, 3) := by decide +kernel
theorem dX7_ended_61 : decode cX7_ended 61 = .ok (.istore 8, 2) := by decide +kernel
theorem dX7_ended_63 : decode cX7_ended 63 = .ok (.iload 8, 2) := by decide +kernel
theorem dX7_ended_65 : decode cX7_ended 65 = .ok (.iconst (-1), 1) := by decide +kernel
theorem dX7_ended_66 : decode cX7_ended 66 = .ok (.if_icmp .ne 6, 3) := by decide +kernel
theorem dX7_ended_69 : decode cX7_ended 69 = .ok (.goto 69, 3) := by decide +kernel
theorem dX7_ended_72 : decode cX7_ended 72 = .ok (.iload 4, 2) := by decide +kernel
theorem dX7_ended_74 : decode cX7_ended 74 = .ok (.ifCond .eq 17, 3) := by decide +kernel
theorem dX7_ended_77 : decode cX7_ended 77 = .ok (.aload_n 0, 1) := by decide +kernel
theorem dX7_ended_78 : decode cX7_ended 78 = .ok (.iload 8, 2) := by decide +kernel
theorem dX7_ended_80 : decode cX7_ended 80 = .ok (.iload_n 2, 1) := by decide +kernel
theorem dX7_ended_81 : decode cX7_ended 81 = .ok (.iload_n 3, 1) := by decide +kernel
theorem dX7_ended_82 : decode cX7_ended 82 = .ok (.iconst 1, 1) := by decide +kernel
theorem dX7_ended_83 : decode cX7_ended 83 = .ok (.isub, 1) := by decide +kernel
theorem dX7_ended_84 : decode cX7_ended 84 = .ok (.iconst 0, 1) := by decide +kernel
theorem dX7_ended_85 : decode cX7_ended 85 = .ok (.invokestatic 79, 3) := by decide +kernel
theorem dX7_ended_88 : decode cX7_ended 88 = .ok (.goto 14, 3) := by decide +kernel
theorem dX7_ended_91 : decode cX7_ended 91 = .ok (.aload_n 0, 1) := by decide +kernel
theorem dX7_ended_92 : decode cX7_ended 92 = .ok (.iload_n 1, 1) := by decide +kernel
theorem dX7_ended_93 : decode cX7_ended 93 = .ok (.iload 8, 2) := by decide +kernel
theorem dX7_ended_95 : decode cX7_ended 95 = .ok (.iload_n 3, 1) := by decide +kernel
theorem dX7_ended_96 : decode cX7_ended 96 = .ok (.iconst 1, 1) := by decide +kernel
theorem dX7_ended_97 : decode cX7_ended 97 = .ok (.isub, 1) := by decide +kernel
theorem dX7_ended_98 : decode cX7_ended 98 = .ok (.iconst 1, 1) := by decide +kernel
theorem dX7_ended_99 : decode cX7_ended 99 = .ok (.invokestatic 79, 3) := by decide +kernel
theorem dX7_ended_102 : decode cX7_ended 102 = .ok (.istore 9, 2) := by decide +kernel
theorem dX7_ended_104 : decode cX7_ended 104 = .ok (.iload 5, 2) := by decide +kernel
theorem dX7_ended_106 : decode cX7_ended 106 = .ok (.iconst (-1), 1) := by decide +kernel
theorem dX7_ended_107 : decode cX7_ended 107 = .ok (.if_icmp .eq 27, 3) := by decide +kernel
theorem dX7_ended_110 : decode cX7_ended 110 = .ok (.iload 4, 2) := by decide +kernel
theorem dX7_ended_112 : decode cX7_ended 112 = .ok (.ifCond .eq 10, 3) := by decide +kernel
theorem dX7_ended_115 : decode cX7_ended 115 = .ok (.iload 9, 2) := by decide +kernel
theorem dX7_ended_117 : decode cX7_ended 117 = .ok (.iload 5, 2) := by decide +kernel
theorem dX7_ended_119 : decode cX7_ended 119 = .ok (.if_icmp .lt 15, 3) := by decide +kernel
theorem dX7_ended_122 : decode cX7_ended 122 = .ok (.iload 4, 2) := by decide +kernel
theorem dX7_ended_124 : decode cX7_ended 124 = .ok (.ifCond .ne 14, 3) := by decide +kernel
theorem dX7_ended_127 : decode cX7_ended 127 = .ok (.iload 9, 2) := by decide +kernel
theorem dX7_ended_129 : decode cX7_ended 129 = .ok (.iload 5, 2) := by decide +kernel
theorem dX7_ended_131 : decode cX7_ended 131 = .ok (.if_icmp .le 7, 3) := by decide +kernel
theorem dX7_ended_134 : decode cX7_ended 134 = .ok (.iload 9, 2) := by decide +kernel
theorem dX7_ended_136 : decode cX7_ended 136 = .ok (.istore 5, 2) := by decide +kernel
theorem dX7_ended_138 : decode cX7_ended 138 = .ok (.iinc 6 1, 3) := by decide +kernel
theorem dX7_ended_141 : decode cX7_ended 141 = .ok (.goto (-119), 3) := by decide +kernel
theorem dX7_ended_144 : decode cX7_ended 144 = .ok (.iload 5, 2) := by decide +kernel
theorem dX7_ended_146 : decode cX7_ended 146 = .ok (.ireturn, 1) := by decide +kernel
theorem dX8_init_0 : decode cX8_init 0 = .ok (.aload_n 0, 1) := by decide +kernel
theorem dX8_init_1 : decode cX8_init 1 = .ok (.invokespecial 5, 3) := by decide +kernel
theorem dX8_init_4 : decode cX8_init 4 = .ok (.aload_n 0, 1) := by decide +kernel
theorem dX8_init_5 : decode cX8_init 5 = .ok (.aload_n 1, 1) := by decide +kernel
theorem dX8_init_6 : decode cX8_init 6 = .ok (.putfield 11, 3) := by decide +kernel
theorem dX8_init_9 : decode cX8_init 9 = .ok (.aload_n 0, 1) := by decide +kernel
theorem dX8_init_10 : decode cX8_init 10 = .ok (.new 17, 3) := by decide +kernel
theorem dX8_init_13 : decode cX8_init 13 = .ok (.dup, 1) := by decide +kernel
theorem dX8_init_14 : decode cX8_init 14 = .ok (.invokespecial 19, 3) := by decide +kernel
theorem dX8_init_17 : decode cX8_init 17 = .ok (.putfield 20, 3) := by decide +kernel
theorem dX8_init_20 : decode cX8_init 20 = .ok (.aload_n 0, 1) := by decide +kernel
theorem dX8_init_21 : decode cX8_init 21 = .ok (.bipush 7, 2) := by decide +kernel
theorem dX8_init_23 : decode cX8_init 23 = .ok (.bipush 61, 2) := by decide +kernel
theorem dX8_init_25 : decode cX8_init 25 = .ok (.multianewarray 24 2, 4) := by decide +kernel
theorem dX8_init_29 : decode cX8_init 29 = .ok (.putfield 26, 3) := by decide +kernel
theorem dX8_init_32 : decode cX8_init 32 = .ok (.aload_n 0, 1) := by decide +kernel
theorem dX8_init_33 : decode cX8_init 33 = .ok (.bipush 7, 2) := by decide +kernel
theorem dX8_init_35 : decode cX8_init 35 = .ok (.newarray .boolean, 2) := by decide +kernel
theorem dX8_init_37 : decode cX8_init 37 = .ok (.putfield 29, 3) := by decide +kernel
theorem dX8_init_40 : decode cX8_init 40 = .ok (.return_, 1) := by decide +kernel
theorem dX8_trace_0 : decode cX8_trace 0 = .ok (.iconst 0, 1) := by decide +kernel
theorem dX8_trace_1 : decode cX8_trace 1 = .ok (.istore_n 2, 1) := by decide +kernel
theorem dX8_trace_2 : decode cX8_trace 2 = .ok (.iload_n 2, 1) := by decide +kernel
theorem dX8_trace_3 : decode cX8_trace 3 = .ok (.bipush 7, 2) := by decide +kernel
theorem dX8_trace_5 : decode cX8_trace 5 = .ok (.if_icmp .ge 110, 3) := by decide +kernel
theorem dX8_trace_8 : decode cX8_trace 8 = .ok (.aload_n 0, 1) := by decide +kernel
theorem dX8_trace_9 : decode cX8_trace 9 = .ok (.getfield 29, 3) := by decide +kernel
theorem dX8_trace_12 : decode cX8_trace 12 = .ok (.iload_n 2, 1) := by decide +kernel
theorem dX8_trace_13 : decode cX8_trace 13 = .ok (.iload_n 2, 1) := by decide +kernel
theorem dX8_trace_14 : decode cX8_trace 14 = .ok (.aload_n 0, 1) := by decide +kernel
theorem dX8_trace_15 : decode cX8_trace 15 = .ok (.getfield 11, 3) := by decide +kernel
theorem dX8_trace_18 : decode cX8_trace 18 = .ok (.getfield 33, 3) := by decide +kernel
theorem dX8_trace_21 : decode cX8_trace 21 = .ok (.if_icmp .gt 7, 3) := by decide +kernel
theorem dX8_trace_24 : decode cX8_trace 24 = .ok (.iconst 1, 1) := by decide +kernel
theorem dX8_trace_25 : decode cX8_trace 25 = .ok (.goto 4, 3) := by decide +kernel
theorem dX8_trace_28 : decode cX8_trace 28 = .ok (.iconst 0, 1) := by decide +kernel
theorem dX8_trace_29 : decode cX8_trace 29 = .ok (.bastore, 1) := by decide +kernel
theorem dX8_trace_30 : decode cX8_trace 30 = .ok (.aload_n 0, 1) := by decide +kernel
theorem dX8_trace_31 : decode cX8_trace 31 = .ok (.getfield 29, 3) := by decide +kernel
theorem dX8_trace_34 : decode cX8_trace 34 = .ok (.iload_n 2, 1) := by decide +kernel
theorem dX8_trace_35 : decode cX8_trace 35 = .ok (.baload, 1) := by decide +kernel
theorem dX8_trace_36 : decode cX8_trace 36 = .ok (.ifCond .ne 6, 3) := by decide +kernel
theorem dX8_trace_39 : decode cX8_trace 39 = .ok (.goto 70, 3) := by decide +kernel
theorem dX8_trace_42 : decode cX8_trace 42 = .ok (.aload_n 0, 1) := by decide +kernel
theorem dX8_trace_43 : decode cX8_trace 43 = .ok (.getfield 20, 3) := by decide +kernel
theorem dX8_trace_46 : decode cX8_trace 46 = .ok (.aload_n 1, 1) := by decide +kernel
theorem dX8_trace_47 : decode cX8_trace 47 = .ok (.getfield 37, 3) := by decide +kernel
theorem dX8_trace_50 : decode cX8_trace 50 = .ok (.invokevirtual 42, 3) := by decide +kernel
theorem dX8_trace_53 : decode cX8_trace 53 = .ok (.iconst 0, 1) := by decide +kernel
theorem dX8_trace_54 : decode cX8_trace 54 = .ok (.istore_n 3, 1) := by decide +kernel
theorem dX8_trace_55 : decode cX8_trace 55 = .ok (.iload_n 3, 1) := by decide +kernel
theorem dX8_trace_56 : decode cX8_trace 56 = .ok (.bipush 60, 2) := by decide +kernel
theorem dX8_trace_58 : decode cX8_trace 58 = .ok (.if_icmp .gt 39, 3) := by decide +kernel
theorem dX8_trace_61 : decode cX8_trace 61 = .ok (.aload_n 0, 1) := by decide +kernel
theorem dX8_trace_62 : decode cX8_trace 62 = .ok (.getfield 26, 3) := by decide +kernel
theorem dX8_trace_65 : decode cX8_trace 65 = .ok (.iload_n 2, 1) := by decide +kernel
theorem dX8_trace_66 : decode cX8_trace 66 = .ok (.aaload, 1) := by decide +kernel
theorem dX8_trace_67 : decode cX8_trace 67 = .ok (.iload_n 3, 1) := by decide +kernel
theorem dX8_trace_68 : decode cX8_trace 68 = .ok (.aload_n 0, 1) := by decide +kernel
theorem dX8_trace_69 : decode cX8_trace 69 = .ok (.getfield 20, 3) := by decide +kernel
theorem dX8_trace_72 : decode cX8_trace 72 = .ok (.getfield 46, 3) := by decide +kernel
theorem dX8_trace_75 : decode cX8_trace 75 = .ok (.iastore, 1) := by decide +kernel
theorem dX8_trace_76 : decode cX8_trace 76 = .ok (.aload_n 0, 1) := by decide +kernel
theorem dX8_trace_77 : decode cX8_trace 77 = .ok (.getfield 11, 3) := by decide +kernel
theorem dX8_trace_80 : decode cX8_trace 80 = .ok (.aload_n 0, 1) := by decide +kernel
theorem dX8_trace_81 : decode cX8_trace 81 = .ok (.getfield 20, 3) := by decide +kernel
theorem dX8_trace_84 : decode cX8_trace 84 = .ok (.iload_n 2, 1) := by decide +kernel
theorem dX8_trace_85 : decode cX8_trace 85 = .ok (.iconst 1, 1) := by decide +kernel
theorem dX8_trace_86 : decode cX8_trace 86 = .ok (.isub, 1) := by decide +kernel
theorem dX8_trace_87 : decode cX8_trace 87 = .ok (.iconst 1, 1) := by decide +kernel
theorem dX8_trace_88 : decode cX8_trace 88 = .ok (.invokevirtual 49, 3) := by decide +kernel
theorem dX8_trace_91 : decode cX8_trace 91 = .ok (.iinc 3 1, 3) := by decide +kernel
theorem dX8_trace_94 : decode cX8_trace 94 = .ok (.goto (-39), 3) := by decide +kernel
theorem dX8_trace_97 : decode cX8_trace 97 = .ok (.aload_n 0, 1) := by decide +kernel
theorem dX8_trace_98 : decode cX8_trace 98 = .ok (.getfield 29, 3) := by decide +kernel
theorem dX8_trace_101 : decode cX8_trace 101 = .ok (.iload_n 2, 1) := by decide +kernel
theorem dX8_trace_102 : decode cX8_trace 102 = .ok (.aload_n 0, 1) := by decide +kernel
theorem dX8_trace_103 : decode cX8_trace 103 = .ok (.aload_n 1, 1) := by decide +kernel
theorem dX8_trace_104 : decode cX8_trace 104 = .ok (.iload_n 2, 1) := by decide +kernel
theorem dX8_trace_105 : decode cX8_trace 105 = .ok (.invokevirtual 53, 3) := by decide +kernel
theorem dX8_trace_108 : decode cX8_trace 108 = .ok (.bastore, 1) := by decide +kernel
theorem dX8_trace_109 : decode cX8_trace 109 = .ok (.iinc 2 1, 3) := by decide +kernel
theorem dX8_trace_112 : decode cX8_trace 112 = .ok (.goto (-110), 3) := by decide +kernel
theorem dX8_trace_115 : decode cX8_trace 115 = .ok (.return_, 1) := by decide +kernel
theorem dX8_agrees_0 : decode cX8_agrees 0 = .ok (.iconst 0, 1) := by decide +kernel
theorem dX8_agrees_1 : decode cX8_agrees 1 = .ok (.istore_n 3, 1) := by decide +kernel
theorem dX8_agrees_2 : decode cX8_agrees 2 = .ok (.iload_n 3, 1) := by decide +kernel
theorem dX8_agrees_3 : decode cX8_agrees 3 = .ok (.aload_n 1, 1) := by decide +kernel
theorem dX8_agrees_4 : decode cX8_agrees 4 = .ok (.getfield 57, 3) := by decide +kernel
theorem dX8_agrees_7 : decode cX8_agrees 7 = .ok (.if_icmp .ge 49, 3) := by decide +kernel
theorem dX8_agrees_10 : decode cX8_agrees 10 = .ok (.aload_n 1, 1) := by decide +kernel
theorem dX8_agrees_11 : decode cX8_agrees 11 = .ok (.getfield 60, 3) := by decide +kernel
theorem dX8_agrees_14 : decode cX8_agrees 14 = .ok (.iload_n 3, 1) := by decide +kernel
theorem dX8_agrees_15 : decode cX8_agrees 15 = .ok (.iaload, 1) := by decide +kernel
theorem dX8_agrees_16 : decode cX8_agrees 16 = .ok (.istore 4, 2) := by decide +kernel
theorem dX8_agrees_18 : decode cX8_agrees 18 = .ok (.iload 4, 2) := by decide +kernel
theorem dX8_agrees_20 : decode cX8_agrees 20 = .ok (.ifCond .lt 28, 3) := by decide +kernel
theorem dX8_agrees_23 : decode cX8_agrees 23 = .ok (.iload 4, 2) := by decide +kernel
theorem dX8_agrees_25 : decode cX8_agrees 25 = .ok (.bipush 60, 2) := by decide +kernel
theorem dX8_agrees_27 : decode cX8_agrees 27 = .ok (.if_icmp .gt 21, 3) := by decide +kernel
theorem dX8_agrees_30 : decode cX8_agrees 30 = .ok (.aload_n 0, 1) := by decide +kernel
theorem dX8_agrees_31 : decode cX8_agrees 31 = .ok (.getfield 26, 3) := by decide +kernel
theorem dX8_agrees_34 : decode cX8_agrees 34 = .ok (.iload_n 2, 1) := by decide +kernel
theorem dX8_agrees_35 : decode cX8_agrees 35 = .ok (.aaload, 1) := by decide +kernel
theorem dX8_agrees_36 : decode cX8_agrees 36 = .ok (.iload 4, 2) := by decide +kernel
theorem dX8_agrees_38 : decode cX8_agrees 38 = .ok (.iaload, 1) := by decide +kernel
theorem dX8_agrees_39 : decode cX8_agrees 39 = .ok (.aload_n 1, 1) := by decide +kernel
theorem dX8_agrees_40 : decode cX8_agrees 40 = .ok (.getfield 64, 3) := by decide +kernel
theorem dX8_agrees_43 : decode cX8_agrees 43 = .ok (.iload_n 3, 1) := by decide +kernel
theorem dX8_agrees_44 : decode cX8_agrees 44 = .ok (.iaload, 1) := by decide +kernel
theorem dX8_agrees_45 : decode cX8_agrees 45 = .ok (.if_icmp .eq 5, 3) := by decide +kernel
theorem dX8_agrees_48 : decode cX8_agrees 48 = .ok (.iconst 0, 1) := by decide +kernel
theorem dX8_agrees_49 : decode cX8_agrees 49 = .ok (.ireturn, 1) := by decide +kernel
theorem dX8_agrees_50 : decode cX8_agrees 50 = .ok (.iinc 3 1, 3) := by decide +kernel
theorem dX8_agrees_53 : decode cX8_agrees 53 = .ok (.goto (-51), 3) := by decide +kernel
theorem dX8_agrees_56 : decode cX8_agrees 56 = .ok (.iconst 1, 1) := by decide +kernel
theorem dX8_agrees_57 : decode cX8_agrees 57 = .ok (.ireturn, 1) := by decide +kernel
theorem dX8_fitting_0 : decode cX8_fitting 0 = .ok (.iconst 0, 1) := by decide +kernel
theorem dX8_fitting_1 : decode cX8_fitting 1 = .ok (.istore_n 1, 1) := by decide +kernel
theorem dX8_fitting_2 : decode cX8_fitting 2 = .ok (.iconst 0, 1) := by decide +kernel
theorem dX8_fitting_3 : decode cX8_fitting 3 = .ok (.istore_n 2, 1) := by decide +kernel
theorem dX8_fitting_4 : decode cX8_fitting 4 = .ok (.iload_n 2, 1) := by decide +kernel
theorem dX8_fitting_5 : decode cX8_fitting 5 = .ok (.bipush 7, 2) := by decide +kernel
theorem dX8_fitting_7 : decode cX8_fitting 7 = .ok (.if_icmp .ge 21, 3) := by decide +kernel
theorem dX8_fitting_10 : decode cX8_fitting 10 = .ok (.aload_n 0, 1) := by decide +kernel
theorem dX8_fitting_11 : decode cX8_fitting 11 = .ok (.getfield 29, 3) := by decide +kernel
theorem dX8_fitting_14 : decode cX8_fitting 14 = .ok (.iload_n 2, 1) := by decide +kernel
theorem dX8_fitting_15 : decode cX8_fitting 15 = .ok (.baload, 1) := by decide +kernel
theorem dX8_fitting_16 : decode cX8_fitting 16 = .ok (.ifCond .eq 6, 3) := by decide +kernel
theorem dX8_fitting_19 : decode cX8_fitting 19 = .ok (.iinc 1 1, 3) := by decide +kernel
theorem dX8_fitting_22 : decode cX8_fitting 22 = .ok (.iinc 2 1, 3) := by decide +kernel
theorem dX8_fitting_25 : decode cX8_fitting 25 = .ok (.goto (-21), 3) := by decide +kernel
theorem dX8_fitting_28 : decode cX8_fitting 28 = .ok (.iload_n 1, 1) := by decide +kernel
theorem dX8_fitting_29 : decode cX8_fitting 29 = .ok (.ireturn, 1) := by decide +kernel
theorem dX8_firstFitting_0 : decode cX8_firstFitting 0 = .ok (.iconst 0, 1) := by decide +kernel
theorem dX8_firstFitting_1 : decode cX8_firstFitting 1 = .ok (.istore_n 1, 1) := by decide +kernel
theorem dX8_firstFitting_2 : decode cX8_firstFitting 2 = .ok (.iload_n 1, 1) := by decide +kernel
theorem dX8_firstFitting_3 : decode cX8_firstFitting 3 = .ok (.bipush 7, 2) := by decide +kernel
theorem dX8_firstFitting_5 : decode cX8_firstFitting 5 = .ok (.if_icmp .ge 22, 3) := by decide +kernel
theorem dX8_firstFitting_8 : decode cX8_firstFitting 8 = .ok (.aload_n 0, 1) := by decide +kernel
theorem dX8_firstFitting_9 : decode cX8_firstFitting 9 = .ok (.getfield 29, 3) := by decide +kernel
theorem dX8_firstFitting_12 : decode cX8_firstFitting 12 = .ok (.iload_n 1, 1) := by decide +kernel
theorem dX8_firstFitting_13 : decode cX8_firstFitting 13 = .ok (.baload, 1) := by decide +kernel
theorem dX8_firstFitting_14 : decode cX8_firstFitting 14 = .ok (.ifCond .eq 7, 3) := by decide +kernel
theorem dX8_firstFitting_17 : decode cX8_firstFitting 17 = .ok (.iload_n 1, 1) := by decide +kernel
theorem dX8_firstFitting_18 : decode cX8_firstFitting 18 = .ok (.iconst 1, 1) := by decide +kernel
theorem dX8_firstFitting_19 : decode cX8_firstFitting 19 = .ok (.isub, 1) := by decide +kernel
theorem dX8_firstFitting_20 : decode cX8_firstFitting 20 = .ok (.ireturn, 1) := by decide +kernel
theorem dX8_firstFitting_21 : decode cX8_firstFitting 21 = .ok (.iinc 1 1, 3) := by decide +kernel
theorem dX8_firstFitting_24 : decode cX8_firstFitting 24 = .ok (.goto (-22), 3) := by decide +kernel
theorem dX8_firstFitting_27 : decode cX8_firstFitting 27 = .ok (.bipush (-2), 2) := by decide +kernel
theorem dX8_firstFitting_29 : decode cX8_firstFitting 29 = .ok (.ireturn, 1) := by decide +kernel
theorem dX8_findParting_0 : decode cX8_findParting 0 = .ok (.aload_n 0, 1) := by decide +kernel
theorem dX8_findParting_1 : decode cX8_findParting 1 = .ok (.bipush (-2), 2) := by decide +kernel
theorem dX8_findParting_3 : decode cX8_findParting 3 = .ok (.putfield 67, 3) := by decide +kernel
theorem dX8_findParting_6 : decode cX8_findParting 6 = .ok (.aload_n 0, 1) := by decide +kernel
theorem dX8_findParting_7 : decode cX8_findParting 7 = .ok (.bipush (-2), 2) := by decide +kernel
theorem dX8_findParting_9 : decode cX8_findParting 9 = .ok (.putfield 70, 3) := by decide +kernel
theorem dX8_findParting_12 : decode cX8_findParting 12 = .ok (.aload_n 0, 1) := by decide +kernel
theorem dX8_findParting_13 : decode cX8_findParting 13 = .ok (.invokevirtual 73, 3) := by decide +kernel
theorem dX8_findParting_16 : decode cX8_findParting 16 = .ok (.ifCond .ne 4, 3) := by decide +kernel
theorem dX8_findParting_19 : decode cX8_findParting 19 = .ok (.return_, 1) := by decide +kernel
theorem dX8_findParting_20 : decode cX8_findParting 20 = .ok (.iconst 0, 1) := by decide +kernel
theorem dX8_findParting_21 : decode cX8_findParting 21 = .ok (.istore_n 1, 1) := by decide +kernel
theorem dX8_findParting_22 : decode cX8_findParting 22 = .ok (.iload_n 1, 1) := by decide +kernel
theorem dX8_findParting_23 : decode cX8_findParting 23 = .ok (.bipush 60, 2) := by decide +kernel
theorem dX8_findParting_25 : decode cX8_findParting 25 = .ok (.if_icmp .gt 42, 3) := by decide +kernel
theorem dX8_findParting_28 : decode cX8_findParting 28 = .ok (.aload_n 0, 1) := by decide +kernel
theorem dX8_findParting_29 : decode cX8_findParting 29 = .ok (.iload_n 1, 1) := by decide +kernel
theorem dX8_findParting_30 : decode cX8_findParting 30 = .ok (.invokevirtual 77, 3) := by decide +kernel
theorem dX8_findParting_33 : decode cX8_findParting 33 = .ok (.istore_n 2, 1) := by decide +kernel
theorem dX8_findParting_34 : decode cX8_findParting 34 = .ok (.aload_n 0, 1) := by decide +kernel
theorem dX8_findParting_35 : decode cX8_findParting 35 = .ok (.getfield 67, 3) := by decide +kernel
theorem dX8_findParting_38 : decode cX8_findParting 38 = .ok (.bipush (-2), 2) := by decide +kernel
theorem dX8_findParting_40 : decode cX8_findParting 40 = .ok (.if_icmp .eq 11, 3) := by decide +kernel
theorem dX8_findParting_43 : decode cX8_findParting 43 = .ok (.iload_n 2, 1) := by decide +kernel
theorem dX8_findParting_44 : decode cX8_findParting 44 = .ok (.aload_n 0, 1) := by decide +kernel
theorem dX8_findParting_45 : decode cX8_findParting 45 = .ok (.getfield 70, 3) := by decide +kernel
theorem dX8_findParting_48 : decode cX8_findParting 48 = .ok (.if_icmp .ge 13, 3) := by decide +kernel
theorem dX8_findParting_51 : decode cX8_findParting 51 = .ok (.aload_n 0, 1) := by decide +kernel
theorem dX8_findParting_52 : decode cX8_findParting 52 = .ok (.iload_n 1, 1) := by decide +kernel
theorem dX8_findParting_53 : decode cX8_findParting 53 = .ok (.putfield 67, 3) := by decide +kernel
theorem dX8_findParting_56 : decode cX8_findParting 56 = .ok (.aload_n 0, 1) := by decide +kernel
theorem dX8_findParting_57 : decode cX8_findParting 57 = .ok (.iload_n 2, 1) := by decide +kernel
theorem dX8_findParting_58 : decode cX8_findParting 58 = .ok (.putfield 70, 3) := by decide +kernel
theorem dX8_findParting_61 : decode cX8_findParting 61 = .ok (.iinc 1 1, 3) := by decide +kernel
theorem dX8_findParting_64 : decode cX8_findParting 64 = .ok (.goto (-42), 3) := by decide +kernel
theorem dX8_findParting_67 : decode cX8_findParting 67 = .ok (.return_, 1) := by decide +kernel
theorem dX8_greatestCrowd_0 : decode cX8_greatestCrowd 0 = .ok (.iconst 0, 1) := by decide +kernel
theorem dX8_greatestCrowd_1 : decode cX8_greatestCrowd 1 = .ok (.istore_n 2, 1) := by decide +kernel
theorem dX8_greatestCrowd_2 : decode cX8_greatestCrowd 2 = .ok (.iconst 0, 1) := by decide +kernel
theorem dX8_greatestCrowd_3 : decode cX8_greatestCrowd 3 = .ok (.istore_n 3, 1) := by decide +kernel
theorem dX8_greatestCrowd_4 : decode cX8_greatestCrowd 4 = .ok (.iload_n 3, 1) := by decide +kernel
theorem dX8_greatestCrowd_5 : decode cX8_greatestCrowd 5 = .ok (.bipush 7, 2) := by decide +kernel
theorem dX8_greatestCrowd_7 : decode cX8_greatestCrowd 7 = .ok (.if_icmp .ge 79, 3) := by decide +kernel
theorem dX8_greatestCrowd_10 : decode cX8_greatestCrowd 10 = .ok (.iconst 0, 1) := by decide +kernel
theorem dX8_greatestCrowd_11 : decode cX8_greatestCrowd 11 = .ok (.istore 4, 2) := by decide +kernel
theorem dX8_greatestCrowd_13 : decode cX8_greatestCrowd 13 = .ok (.iconst 0, 1) := by decide +kernel
theorem dX8_greatestCrowd_14 : decode cX8_greatestCrowd 14 = .ok (.istore 5, 2) := by decide +kernel
theorem dX8_greatestCrowd_16 : decode cX8_greatestCrowd 16 = .ok (.iload 5, 2) := by decide +kernel
theorem dX8_greatestCrowd_18 : decode cX8_greatestCrowd 18 = .ok (.bipush 7, 2) := by decide +kernel
theorem dX8_greatestCrowd_20 : decode cX8_greatestCrowd 20 = .ok (.if_icmp .ge 42, 3) := by decide +kernel
theorem dX8_greatestCrowd_23 : decode cX8_greatestCrowd 23 = .ok (.aload_n 0, 1) := by decide +kernel
theorem dX8_greatestCrowd_24 : decode cX8_greatestCrowd 24 = .ok (.getfield 29, 3) := by decide +kernel
theorem dX8_greatestCrowd_27 : decode cX8_greatestCrowd 27 = .ok (.iload 5, 2) := by decide +kernel
theorem dX8_greatestCrowd_29 : decode cX8_greatestCrowd 29 = .ok (.baload, 1) := by decide +kernel
theorem dX8_greatestCrowd_30 : decode cX8_greatestCrowd 30 = .ok (.ifCond .eq 26, 3) := by decide +kernel
theorem dX8_greatestCrowd_33 : decode cX8_greatestCrowd 33 = .ok (.aload_n 0, 1) := by decide +kernel
theorem dX8_greatestCrowd_34 : decode cX8_greatestCrowd 34 = .ok (.getfield 26, 3) := by decide +kernel
theorem dX8_greatestCrowd_37 : decode cX8_greatestCrowd 37 = .ok (.iload 5, 2) := by decide +kernel
theorem dX8_greatestCrowd_39 : decode cX8_greatestCrowd 39 = .ok (.aaload, 1) := by decide +kernel
theorem dX8_greatestCrowd_40 : decode cX8_greatestCrowd 40 = .ok (.iload_n 1, 1) := by decide +kernel
theorem dX8_greatestCrowd_41 : decode cX8_greatestCrowd 41 = .ok (.iaload, 1) := by decide +kernel
theorem dX8_greatestCrowd_42 : decode cX8_greatestCrowd 42 = .ok (.aload_n 0, 1) := by decide +kernel
theorem dX8_greatestCrowd_43 : decode cX8_greatestCrowd 43 = .ok (.getfield 26, 3) := by decide +kernel
theorem dX8_greatestCrowd_46 : decode cX8_greatestCrowd 46 = .ok (.iload_n 3, 1) := by decide +kernel
theorem dX8_greatestCrowd_47 : decode cX8_greatestCrowd 47 = .ok (.aaload, 1) := by decide +kernel
theorem dX8_greatestCrowd_48 : decode cX8_greatestCrowd 48 = .ok (.iload_n 1, 1) := by decide +kernel
theorem dX8_greatestCrowd_49 : decode cX8_greatestCrowd 49 = .ok (.iaload, 1) := by decide +kernel
theorem dX8_greatestCrowd_50 : decode cX8_greatestCrowd 50 = .ok (.if_icmp .ne 6, 3) := by decide +kernel
theorem dX8_greatestCrowd_53 : decode cX8_greatestCrowd 53 = .ok (.iinc 4 1, 3) := by decide +kernel
theorem dX8_greatestCrowd_56 : decode cX8_greatestCrowd 56 = .ok (.iinc 5 1, 3) := by decide +kernel
theorem dX8_greatestCrowd_59 : decode cX8_greatestCrowd 59 = .ok (.goto (-43), 3) := by decide +kernel
theorem dX8_greatestCrowd_62 : decode cX8_greatestCrowd 62 = .ok (.aload_n 0, 1) := by decide +kernel
theorem dX8_greatestCrowd_63 : decode cX8_greatestCrowd 63 = .ok (.getfield 29, 3) := by decide +kernel
theorem dX8_greatestCrowd_66 : decode cX8_greatestCrowd 66 = .ok (.iload_n 3, 1) := by decide +kernel
theorem dX8_greatestCrowd_67 : decode cX8_greatestCrowd 67 = .ok (.baload, 1) := by decide +kernel
theorem dX8_greatestCrowd_68 : decode cX8_greatestCrowd 68 = .ok (.ifCond .eq 12, 3) := by decide +kernel
theorem dX8_greatestCrowd_71 : decode cX8_greatestCrowd 71 = .ok (.iload 4, 2) := by decide +kernel
theorem dX8_greatestCrowd_73 : decode cX8_greatestCrowd 73 = .ok (.iload_n 2, 1) := by decide +kernel
theorem dX8_greatestCrowd_74 : decode cX8_greatestCrowd 74 = .ok (.if_icmp .le 6, 3) := by decide +kernel
theorem dX8_greatestCrowd_77 : decode cX8_greatestCrowd 77 = .ok (.iload 4, 2) := by decide +kernel
theorem dX8_greatestCrowd_79 : decode cX8_greatestCrowd 79 = .ok (.istore_n 2, 1) := by decide +kernel
theorem dX8_greatestCrowd_80 : decode cX8_greatestCrowd 80 = .ok (.iinc 3 1, 3) := by decide +kernel
theorem dX8_greatestCrowd_83 : decode cX8_greatestCrowd 83 = .ok (.goto (-79), 3) := by decide +kernel
theorem dX8_greatestCrowd_86 : decode cX8_greatestCrowd 86 = .ok (.iload_n 2, 1) := by decide +kernel
theorem dX8_greatestCrowd_87 : decode cX8_greatestCrowd 87 = .ok (.ireturn, 1) := by decide +kernel
theorem dX9_init_0 : decode cX9_init 0 = .ok (.aload_n 0, 1) := by decide +kernel
theorem dX9_init_1 : decode cX9_init 1 = .ok (.invokespecial 1, 3) := by decide +kernel
theorem dX9_init_4 : decode cX9_init 4 = .ok (.aload_n 0, 1) := by decide +kernel
theorem dX9_init_5 : decode cX9_init 5 = .ok (.sipush 400, 3) := by decide +kernel
theorem dX9_init_8 : decode cX9_init 8 = .ok (.newarray .byte, 2) := by decide +kernel
theorem dX9_init_10 : decode cX9_init 10 = .ok (.putfield 9, 3) := by decide +kernel
theorem dX9_init_13 : decode cX9_init 13 = .ok (.return_, 1) := by decide +kernel
theorem dX9_hasRoom_0 : decode cX9_hasRoom 0 = .ok (.aload_n 0, 1) := by decide +kernel
theorem dX9_hasRoom_1 : decode cX9_hasRoom 1 = .ok (.getfield 13, 3) := by decide +kernel
theorem dX9_hasRoom_4 : decode cX9_hasRoom 4 = .ok (.bipush 20, 2) := by decide +kernel
theorem dX9_hasRoom_6 : decode cX9_hasRoom 6 = .ok (.iadd, 1) := by decide +kernel
theorem dX9_hasRoom_7 : decode cX9_hasRoom 7 = .ok (.sipush 400, 3) := by decide +kernel
theorem dX9_hasRoom_10 : decode cX9_hasRoom 10 = .ok (.if_icmp .gt 7, 3) := by decide +kernel
theorem dX9_hasRoom_13 : decode cX9_hasRoom 13 = .ok (.iconst 1, 1) := by decide +kernel
theorem dX9_hasRoom_14 : decode cX9_hasRoom 14 = .ok (.goto 4, 3) := by decide +kernel
theorem dX9_hasRoom_17 : decode cX9_hasRoom 17 = .ok (.iconst 0, 1) := by decide +kernel
theorem dX9_hasRoom_18 : decode cX9_hasRoom 18 = .ok (.ireturn, 1) := by decide +kernel
theorem dX9_append_0 : decode cX9_append 0 = .ok (.bipush 24, 2) := by decide +kernel
theorem dX9_append_2 : decode cX9_append 2 = .ok (.istore_n 2, 1) := by decide +kernel
theorem dX9_append_3 : decode cX9_append 3 = .ok (.iload_n 2, 1) := by decide +kernel
theorem dX9_append_4 : decode cX9_append 4 = .ok (.ifCond .lt 42, 3) := by decide +kernel
theorem dX9_append_7 : decode cX9_append 7 = .ok (.aload_n 0, 1) := by decide +kernel
theorem dX9_append_8 : decode cX9_append 8 = .ok (.getfield 13, 3) := by decide +kernel
theorem dX9_append_11 : decode cX9_append 11 = .ok (.sipush 400, 3) := by decide +kernel
theorem dX9_append_14 : decode cX9_append 14 = .ok (.if_icmp .ge 26, 3) := by decide +kernel
theorem dX9_append_17 : decode cX9_append 17 = .ok (.aload_n 0, 1) := by decide +kernel
theorem dX9_append_18 : decode cX9_append 18 = .ok (.getfield 9, 3) := by decide +kernel
theorem dX9_append_21 : decode cX9_append 21 = .ok (.aload_n 0, 1) := by decide +kernel
theorem dX9_append_22 : decode cX9_append 22 = .ok (.getfield 13, 3) := by decide +kernel
theorem dX9_append_25 : decode cX9_append 25 = .ok (.iload_n 1, 1) := by decide +kernel
theorem dX9_append_26 : decode cX9_append 26 = .ok (.iload_n 2, 1) := by decide +kernel
theorem dX9_append_27 : decode cX9_append 27 = .ok (.iushr, 1) := by decide +kernel
theorem dX9_append_28 : decode cX9_append 28 = .ok (.i2b, 1) := by decide +kernel
theorem dX9_append_29 : decode cX9_append 29 = .ok (.bastore, 1) := by decide +kernel
theorem dX9_append_30 : decode cX9_append 30 = .ok (.aload_n 0, 1) := by decide +kernel
theorem dX9_append_31 : decode cX9_append 31 = .ok (.dup, 1) := by decide +kernel
theorem dX9_append_32 : decode cX9_append 32 = .ok (.getfield 13, 3) := by decide +kernel
theorem dX9_append_35 : decode cX9_append 35 = .ok (.iconst 1, 1) := by decide +kernel
theorem dX9_append_36 : decode cX9_append 36 = .ok (.iadd, 1) := by decide +kernel
theorem dX9_append_37 : decode cX9_append 37 = .ok (.putfield 13, 3) := by decide +kernel
theorem dX9_append_40 : decode cX9_append 40 = .ok (.iinc 2 (-8), 3) := by decide +kernel
theorem dX9_append_43 : decode cX9_append 43 = .ok (.goto (-40), 3) := by decide +kernel
theorem dX9_append_46 : decode cX9_append 46 = .ok (.return_, 1) := by decide +kernel
theorem dX9_startReading_0 : decode cX9_startReading 0 = .ok (.aload_n 0, 1) := by decide +kernel
theorem dX9_startReading_1 : decode cX9_startReading 1 = .ok (.iconst 0, 1) := by decide +kernel
theorem dX9_startReading_2 : decode cX9_startReading 2 = .ok (.putfield 17, 3) := by decide +kernel
theorem dX9_startReading_5 : decode cX9_startReading 5 = .ok (.aload_n 0, 1) := by decide +kernel
theorem dX9_startReading_6 : decode cX9_startReading 6 = .ok (.iconst 0, 1) := by decide +kernel
theorem dX9_startReading_7 : decode cX9_startReading 7 = .ok (.putfield 20, 3) := by decide +kernel
theorem dX9_startReading_10 : decode cX9_startReading 10 = .ok (.aload_n 0, 1) := by decide +kernel
theorem dX9_startReading_11 : decode cX9_startReading 11 = .ok (.iconst 0, 1) := by decide +kernel
theorem dX9_startReading_12 : decode cX9_startReading 12 = .ok (.putfield 23, 3) := by decide +kernel
theorem dX9_startReading_15 : decode cX9_startReading 15 = .ok (.return_, 1) := by decide +kernel
theorem dX9_fail_0 : decode cX9_fail 0 = .ok (.aload_n 0, 1) := by decide +kernel
theorem dX9_fail_1 : decode cX9_fail 1 = .ok (.getfield 23, 3) := by decide +kernel
theorem dX9_fail_4 : decode cX9_fail 4 = .ok (.ifCond .ne 15, 3) := by decide +kernel
theorem dX9_fail_7 : decode cX9_fail 7 = .ok (.aload_n 0, 1) := by decide +kernel
theorem dX9_fail_8 : decode cX9_fail 8 = .ok (.iconst 1, 1) := by decide +kernel
theorem dX9_fail_9 : decode cX9_fail 9 = .ok (.bipush 8, 2) := by decide +kernel
theorem dX9_fail_11 : decode cX9_fail 11 = .ok (.iload_n 1, 1) := by decide +kernel
theorem dX9_fail_12 : decode cX9_fail 12 = .ok (.imul, 1) := by decide +kernel
theorem dX9_fail_13 : decode cX9_fail 13 = .ok (.iadd, 1) := by decide +kernel
theorem dX9_fail_14 : decode cX9_fail 14 = .ok (.iload_n 2, 1) := by decide +kernel
theorem dX9_fail_15 : decode cX9_fail 15 = .ok (.iadd, 1) := by decide +kernel
theorem dX9_fail_16 : decode cX9_fail 16 = .ok (.putfield 23, 3) := by decide +kernel
theorem dX9_fail_19 : decode cX9_fail 19 = .ok (.return_, 1) := by decide +kernel
theorem dX9_peek_0 : decode cX9_peek 0 = .ok (.aload_n 0, 1) := by decide +kernel
theorem dX9_peek_1 : decode cX9_peek 1 = .ok (.getfield 17, 3) := by decide +kernel
theorem dX9_peek_4 : decode cX9_peek 4 = .ok (.aload_n 0, 1) := by decide +kernel
theorem dX9_peek_5 : decode cX9_peek 5 = .ok (.getfield 13, 3) := by decide +kernel
theorem dX9_peek_8 : decode cX9_peek 8 = .ok (.if_icmp .ge 30, 3) := by decide +kernel
theorem dX9_peek_11 : decode cX9_peek 11 = .ok (.aload_n 0, 1) := by decide +kernel
theorem dX9_peek_12 : decode cX9_peek 12 = .ok (.getfield 9, 3) := by decide +kernel
theorem dX9_peek_15 : decode cX9_peek 15 = .ok (.aload_n 0, 1) := by decide +kernel
theorem dX9_peek_16 : decode cX9_peek 16 = .ok (.getfield 17, 3) := by decide +kernel
theorem dX9_peek_19 : decode cX9_peek 19 = .ok (.baload, 1) := by decide +kernel
theorem dX9_peek_20 : decode cX9_peek 20 = .ok (.bipush 32, 2) := by decide +kernel
theorem dX9_peek_22 : decode cX9_peek 22 = .ok (.if_icmp .ne 16, 3) := by decide +kernel
theorem dX9_peek_25 : decode cX9_peek 25 = .ok (.aload_n 0, 1) := by decide +kernel
theorem dX9_peek_26 : decode cX9_peek 26 = .ok (.dup, 1) := by decide +kernel
theorem dX9_peek_27 : decode cX9_peek 27 = .ok (.getfield 17, 3) := by decide +kernel
theorem dX9_peek_30 : decode cX9_peek 30 = .ok (.iconst 1, 1) := by decide +kernel
theorem dX9_peek_31 : decode cX9_peek 31 = .ok (.iadd, 1) := by decide +kernel
theorem dX9_peek_32 : decode cX9_peek 32 = .ok (.putfield 17, 3) := by decide +kernel
theorem dX9_peek_35 : decode cX9_peek 35 = .ok (.goto (-35), 3) := by decide +kernel
theorem dX9_peek_38 : decode cX9_peek 38 = .ok (.aload_n 0, 1) := by decide +kernel
theorem dX9_peek_39 : decode cX9_peek 39 = .ok (.getfield 17, 3) := by decide +kernel
theorem dX9_peek_42 : decode cX9_peek 42 = .ok (.aload_n 0, 1) := by decide +kernel
theorem dX9_peek_43 : decode cX9_peek 43 = .ok (.getfield 13, 3) := by decide +kernel
theorem dX9_peek_46 : decode cX9_peek 46 = .ok (.if_icmp .ge 19, 3) := by decide +kernel
theorem dX9_peek_49 : decode cX9_peek 49 = .ok (.aload_n 0, 1) := by decide +kernel
theorem dX9_peek_50 : decode cX9_peek 50 = .ok (.getfield 9, 3) := by decide +kernel
theorem dX9_peek_53 : decode cX9_peek 53 = .ok (.aload_n 0, 1) := by decide +kernel
theorem dX9_peek_54 : decode cX9_peek 54 = .ok (.getfield 17, 3) := by decide +kernel
theorem dX9_peek_57 : decode cX9_peek 57 = .ok (.baload, 1) := by decide +kernel
theorem dX9_peek_58 : decode cX9_peek 58 = .ok (.sipush 255, 3) := by decide +kernel
theorem dX9_peek_61 : decode cX9_peek 61 = .ok (.iand, 1) := by decide +kernel
theorem dX9_peek_62 : decode cX9_peek 62 = .ok (.goto 4, 3) := by decide +kernel
theorem dX9_peek_65 : decode cX9_peek 65 = .ok (.iconst (-1), 1) := by decide +kernel
theorem dX9_peek_66 : decode cX9_peek 66 = .ok (.ireturn, 1) := by decide +kernel
theorem dX9_takeWord_0 : decode cX9_takeWord 0 = .ok (.aload_n 0, 1) := by decide +kernel
theorem dX9_takeWord_1 : decode cX9_takeWord 1 = .ok (.invokevirtual 26, 3) := by decide +kernel
theorem dX9_takeWord_4 : decode cX9_takeWord 4 = .ok (.pop, 1) := by decide +kernel
theorem dX9_takeWord_5 : decode cX9_takeWord 5 = .ok (.aload_n 0, 1) := by decide +kernel
theorem dX9_takeWord_6 : decode cX9_takeWord 6 = .ok (.aload_n 0, 1) := by decide +kernel
theorem dX9_takeWord_7 : decode cX9_takeWord 7 = .ok (.getfield 17, 3) := by decide +kernel
theorem dX9_takeWord_10 : decode cX9_takeWord 10 = .ok (.putfield 20, 3) := by decide +kernel
theorem dX9_takeWord_13 : decode cX9_takeWord 13 = .ok (.aload_n 0, 1) := by decide +kernel
theorem dX9_takeWord_14 : decode cX9_takeWord 14 = .ok (.getfield 17, 3) := by decide +kernel
theorem dX9_takeWord_17 : decode cX9_takeWord 17 = .ok (.aload_n 0, 1) := by decide +kernel
theorem dX9_takeWord_18 : decode cX9_takeWord 18 = .ok (.getfield 13, 3) := by decide +kernel
theorem dX9_takeWord_21 : decode cX9_takeWord 21 = .ok (.if_icmp .ge 44, 3) := by decide +kernel
theorem dX9_takeWord_24 : decode cX9_takeWord 24 = .ok (.aload_n 0, 1) := by decide +kernel
theorem dX9_takeWord_25 : decode cX9_takeWord 25 = .ok (.getfield 9, 3) := by decide +kernel
theorem dX9_takeWord_28 : decode cX9_takeWord 28 = .ok (.aload_n 0, 1) := by decide +kernel
theorem dX9_takeWord_29 : decode cX9_takeWord 29 = .ok (.getfield 17, 3) := by decide +kernel
theorem dX9_takeWord_32 : decode cX9_takeWord 32 = .ok (.baload, 1) := by decide +kernel
theorem dX9_takeWord_33 : decode cX9_takeWord 33 = .ok (.bipush 97, 2) := by decide +kernel
theorem dX9_takeWord_35 : decode cX9_takeWord 35 = .ok (.if_icmp .lt 30, 3) := by decide +kernel
theorem dX9_takeWord_38 : decode cX9_takeWord 38 = .ok (.aload_n 0, 1) := by decide +kernel
theorem dX9_takeWord_39 : decode cX9_takeWord 39 = .ok (.getfield 9, 3) := by decide +kernel
theorem dX9_takeWord_42 : decode cX9_takeWord 42 = .ok (.aload_n 0, 1) := by decide +kernel
theorem dX9_takeWord_43 : decode cX9_takeWord 43 = .ok (.getfield 17, 3) := by decide +kernel
theorem dX9_takeWord_46 : decode cX9_takeWord 46 = .ok (.baload, 1) := by decide +kernel
theorem dX9_takeWord_47 : decode cX9_takeWord 47 = .ok (.bipush 122, 2) := by decide +kernel
theorem dX9_takeWord_49 : decode cX9_takeWord 49 = .ok (.if_icmp .gt 16, 3) := by decide +kernel
theorem dX9_takeWord_52 : decode cX9_takeWord 52 = .ok (.aload_n 0, 1) := by decide +kernel
theorem dX9_takeWord_53 : decode cX9_takeWord 53 = .ok (.dup, 1) := by decide +kernel
theorem dX9_takeWord_54 : decode cX9_takeWord 54 = .ok (.getfield 17, 3) := by decide +kernel
theorem dX9_takeWord_57 : decode cX9_takeWord 57 = .ok (.iconst 1, 1) := by decide +kernel
theorem dX9_takeWord_58 : decode cX9_takeWord 58 = .ok (.iadd, 1) := by decide +kernel
theorem dX9_takeWord_59 : decode cX9_takeWord 59 = .ok (.putfield 17, 3) := by decide +kernel
theorem dX9_takeWord_62 : decode cX9_takeWord 62 = .ok (.goto (-49), 3) := by decide +kernel
theorem dX9_takeWord_65 : decode cX9_takeWord 65 = .ok (.return_, 1) := by decide +kernel
theorem dX9_wordIs_0 : decode cX9_wordIs 0 = .ok (.aload_n 0, 1) := by decide +kernel
theorem dX9_wordIs_1 : decode cX9_wordIs 1 = .ok (.getfield 17, 3) := by decide +kernel
theorem dX9_wordIs_4 : decode cX9_wordIs 4 = .ok (.aload_n 0, 1) := by decide +kernel
theorem dX9_wordIs_5 : decode cX9_wordIs 5 = .ok (.getfield 20, 3) := by decide +kernel
theorem dX9_wordIs_8 : decode cX9_wordIs 8 = .ok (.isub, 1) := by decide +kernel
theorem dX9_wordIs_9 : decode cX9_wordIs 9 = .ok (.aload_n 1, 1) := by decide +kernel
theorem dX9_wordIs_10 : decode cX9_wordIs 10 = .ok (.invokevirtual 30, 3) := by decide +kernel
theorem dX9_wordIs_13 : decode cX9_wordIs 13 = .ok (.if_icmp .eq 5, 3) := by decide +kernel
theorem dX9_wordIs_16 : decode cX9_wordIs 16 = .ok (.iconst 0, 1) := by decide +kernel
theorem dX9_wordIs_17 : decode cX9_wordIs 17 = .ok (.ireturn, 1) := by decide +kernel
theorem dX9_wordIs_18 : decode cX9_wordIs 18 = .ok (.iconst 0, 1) := by decide +kernel
theorem dX9_wordIs_19 : decode cX9_wordIs 19 = .ok (.istore_n 2, 1) := by decide +kernel
theorem dX9_wordIs_20 : decode cX9_wordIs 20 = .ok (.iload_n 2, 1) := by decide +kernel
theorem dX9_wordIs_21 : decode cX9_wordIs 21 = .ok (.aload_n 1, 1) := by decide +kernel
theorem dX9_wordIs_22 : decode cX9_wordIs 22 = .ok (.invokevirtual 30, 3) := by decide +kernel
theorem dX9_wordIs_25 : decode cX9_wordIs 25 = .ok (.if_icmp .ge 30, 3) := by decide +kernel
theorem dX9_wordIs_28 : decode cX9_wordIs 28 = .ok (.aload_n 0, 1) := by decide +kernel
theorem dX9_wordIs_29 : decode cX9_wordIs 29 = .ok (.getfield 9, 3) := by decide +kernel
theorem dX9_wordIs_32 : decode cX9_wordIs 32 = .ok (.aload_n 0, 1) := by decide +kernel
theorem dX9_wordIs_33 : decode cX9_wordIs 33 = .ok (.getfield 20, 3) := by decide +kernel
theorem dX9_wordIs_36 : decode cX9_wordIs 36 = .ok (.iload_n 2, 1) := by decide +kernel
theorem dX9_wordIs_37 : decode cX9_wordIs 37 = .ok (.iadd, 1) := by decide +kernel
theorem dX9_wordIs_38 : decode cX9_wordIs 38 = .ok (.baload, 1) := by decide +kernel
theorem dX9_wordIs_39 : decode cX9_wordIs 39 = .ok (.aload_n 1, 1) := by decide +kernel
theorem dX9_wordIs_40 : decode cX9_wordIs 40 = .ok (.iload_n 2, 1) := by decide +kernel
theorem dX9_wordIs_41 : decode cX9_wordIs 41 = .ok (.invokevirtual 35, 3) := by decide +kernel
theorem dX9_wordIs_44 : decode cX9_wordIs 44 = .ok (.if_icmp .eq 5, 3) := by decide +kernel
theorem dX9_wordIs_47 : decode cX9_wordIs 47 = .ok (.iconst 0, 1) := by decide +kernel
theorem dX9_wordIs_48 : decode cX9_wordIs 48 = .ok (.ireturn, 1) := by decide +kernel
theorem dX9_wordIs_49 : decode cX9_wordIs 49 = .ok (.iinc 2 1, 3) := by decide +kernel
theorem dX9_wordIs_52 : decode cX9_wordIs 52 = .ok (.goto (-32), 3) := by decide +kernel
theorem dX9_wordIs_55 : decode cX9_wordIs 55 = .ok (.iconst 1, 1) := by decide +kernel
theorem dX9_wordIs_56 : decode cX9_wordIs 56 = .ok (.ireturn, 1) := by decide +kernel
theorem dX9_putWordBack_0 : decode cX9_putWordBack 0 = .ok (.aload_n 0, 1) := by decide +kernel
theorem dX9_putWordBack_1 : decode cX9_putWordBack 1 = .ok (.aload_n 0, 1) := by decide +kernel
theorem dX9_putWordBack_2 : decode cX9_putWordBack 2 = .ok (.getfield 20, 3) := by decide +kernel
theorem dX9_putWordBack_5 : decode cX9_putWordBack 5 = .ok (.putfield 17, 3) := by decide +kernel
theorem dX9_putWordBack_8 : decode cX9_putWordBack 8 = .ok (.return_, 1) := by decide +kernel
theorem dX9_takeNumber_0 : decode cX9_takeNumber 0 = .ok (.aload_n 0, 1) := by decide +kernel
theorem dX9_takeNumber_1 : decode cX9_takeNumber 1 = .ok (.invokevirtual 26, 3) := by decide +kernel
theorem dX9_takeNumber_4 : decode cX9_takeNumber 4 = .ok (.pop, 1) := by decide +kernel
theorem dX9_takeNumber_5 : decode cX9_takeNumber 5 = .ok (.aload_n 0, 1) := by decide +kernel
theorem dX9_takeNumber_6 : decode cX9_takeNumber 6 = .ok (.aload_n 0, 1) := by decide +kernel
theorem dX9_takeNumber_7 : decode cX9_takeNumber 7 = .ok (.getfield 17, 3) := by decide +kernel
theorem dX9_takeNumber_10 : decode cX9_takeNumber 10 = .ok (.putfield 20, 3) := by decide +kernel
theorem dX9_takeNumber_13 : decode cX9_takeNumber 13 = .ok (.aload_n 0, 1) := by decide +kernel
theorem dX9_takeNumber_14 : decode cX9_takeNumber 14 = .ok (.iconst 0, 1) := by decide +kernel
theorem dX9_takeNumber_15 : decode cX9_takeNumber 15 = .ok (.putfield 39, 3) := by decide +kernel
theorem dX9_takeNumber_18 : decode cX9_takeNumber 18 = .ok (.aload_n 0, 1) := by decide +kernel
theorem dX9_takeNumber_19 : decode cX9_takeNumber 19 = .ok (.getfield 17, 3) := by decide +kernel
theorem dX9_takeNumber_22 : decode cX9_takeNumber 22 = .ok (.aload_n 0, 1) := by decide +kernel
theorem dX9_takeNumber_23 : decode cX9_takeNumber 23 = .ok (.getfield 13, 3) := by decide +kernel
theorem dX9_takeNumber_26 : decode cX9_takeNumber 26 = .ok (.if_icmp .ge 81, 3) := by decide +kernel
theorem dX9_takeNumber_29 : decode cX9_takeNumber 29 = .ok (.aload_n 0, 1) := by decide +kernel
theorem dX9_takeNumber_30 : decode cX9_takeNumber 30 = .ok (.getfield 9, 3) := by decide +kernel
theorem dX9_takeNumber_33 : decode cX9_takeNumber 33 = .ok (.aload_n 0, 1) := by decide +kernel
theorem dX9_takeNumber_34 : decode cX9_takeNumber 34 = .ok (.getfield 17, 3) := by decide +kernel
theorem dX9_takeNumber_37 : decode cX9_takeNumber 37 = .ok (.baload, 1) := by decide +kernel
theorem dX9_takeNumber_38 : decode cX9_takeNumber 38 = .ok (.bipush 48, 2) := by decide +kernel
theorem dX9_takeNumber_40 : decode cX9_takeNumber 40 = .ok (.if_icmp .lt 67, 3) := by decide +kernel
theorem dX9_takeNumber_43 : decode cX9_takeNumber 43 = .ok (.aload_n 0, 1) := by decide +kernel
theorem dX9_takeNumber_44 : decode cX9_takeNumber 44 = .ok (.getfield 9, 3) := by decide +kernel
theorem dX9_takeNumber_47 : decode cX9_takeNumber 47 = .ok (.aload_n 0, 1) := by decide +kernel
theorem dX9_takeNumber_48 : decode cX9_takeNumber 48 = .ok (.getfield 17, 3) := by decide +kernel
theorem dX9_takeNumber_51 : decode cX9_takeNumber 51 = .ok (.baload, 1) := by decide +kernel
theorem dX9_takeNumber_52 : decode cX9_takeNumber 52 = .ok (.bipush 57, 2) := by decide +kernel
theorem dX9_takeNumber_54 : decode cX9_takeNumber 54 = .ok (.if_icmp .gt 53, 3) := by decide +kernel
theorem dX9_takeNumber_57 : decode cX9_takeNumber 57 = .ok (.aload_n 0, 1) := by decide +kernel
theorem dX9_takeNumber_58 : decode cX9_takeNumber 58 = .ok (.getfield 17, 3) := by decide +kernel
theorem dX9_takeNumber_61 : decode cX9_takeNumber 61 = .ok (.aload_n 0, 1) := by decide +kernel
theorem dX9_takeNumber_62 : decode cX9_takeNumber 62 = .ok (.getfield 20, 3) := by decide +kernel
theorem dX9_takeNumber_65 : decode cX9_takeNumber 65 = .ok (.isub, 1) := by decide +kernel
theorem dX9_takeNumber_66 : decode cX9_takeNumber 66 = .ok (.iconst 5, 1) := by decide +kernel
theorem dX9_takeNumber_67 : decode cX9_takeNumber 67 = .ok (.if_icmp .ge 27, 3) := by decide +kernel
theorem dX9_takeNumber_70 : decode cX9_takeNumber 70 = .ok (.aload_n 0, 1) := by decide +kernel
theorem dX9_takeNumber_71 : decode cX9_takeNumber 71 = .ok (.aload_n 0, 1) := by decide +kernel
theorem dX9_takeNumber_72 : decode cX9_takeNumber 72 = .ok (.getfield 39, 3) := by decide +kernel
theorem dX9_takeNumber_75 : decode cX9_takeNumber 75 = .ok (.bipush 10, 2) := by decide +kernel
theorem dX9_takeNumber_77 : decode cX9_takeNumber 77 = .ok (.imul, 1) := by decide +kernel
theorem dX9_takeNumber_78 : decode cX9_takeNumber 78 = .ok (.aload_n 0, 1) := by decide +kernel
theorem dX9_takeNumber_79 : decode cX9_takeNumber 79 = .ok (.getfield 9, 3) := by decide +kernel
theorem dX9_takeNumber_82 : decode cX9_takeNumber 82 = .ok (.aload_n 0, 1) := by decide +kernel
theorem dX9_takeNumber_83 : decode cX9_takeNumber 83 = .ok (.getfield 17, 3) := by decide +kernel
theorem dX9_takeNumber_86 : decode cX9_takeNumber 86 = .ok (.baload, 1) := by decide +kernel
theorem dX9_takeNumber_87 : decode cX9_takeNumber 87 = .ok (.iadd, 1) := by decide +kernel
theorem dX9_takeNumber_88 : decode cX9_takeNumber 88 = .ok (.bipush 48, 2) := by decide +kernel
theorem dX9_takeNumber_90 : decode cX9_takeNumber 90 = .ok (.isub, 1) := by decide +kernel
theorem dX9_takeNumber_91 : decode cX9_takeNumber 91 = .ok (.putfield 39, 3) := by decide +kernel
theorem dX9_takeNumber_94 : decode cX9_takeNumber 94 = .ok (.aload_n 0, 1) := by decide +kernel
theorem dX9_takeNumber_95 : decode cX9_takeNumber 95 = .ok (.dup, 1) := by decide +kernel
theorem dX9_takeNumber_96 : decode cX9_takeNumber 96 = .ok (.getfield 17, 3) := by decide +kernel
theorem dX9_takeNumber_99 : decode cX9_takeNumber 99 = .ok (.iconst 1, 1) := by decide +kernel
theorem dX9_takeNumber_100 : decode cX9_takeNumber 100 = .ok (.iadd, 1) := by decide +kernel
theorem dX9_takeNumber_101 : decode cX9_takeNumber 101 = .ok (.putfield 17, 3) := by decide +kernel
theorem dX9_takeNumber_104 : decode cX9_takeNumber 104 = .ok (.goto (-86), 3) := by decide +kernel
theorem dX9_takeNumber_107 : decode cX9_takeNumber 107 = .ok (.aload_n 0, 1) := by decide +kernel
theorem dX9_takeNumber_108 : decode cX9_takeNumber 108 = .ok (.getfield 17, 3) := by decide +kernel
theorem dX9_takeNumber_111 : decode cX9_takeNumber 111 = .ok (.aload_n 0, 1) := by decide +kernel
theorem dX9_takeNumber_112 : decode cX9_takeNumber 112 = .ok (.getfield 20, 3) := by decide +kernel
theorem dX9_takeNumber_115 : decode cX9_takeNumber 115 = .ok (.if_icmp .ne 15, 3) := by decide +kernel
theorem dX9_takeNumber_118 : decode cX9_takeNumber 118 = .ok (.aload_n 0, 1) := by decide +kernel
theorem dX9_takeNumber_119 : decode cX9_takeNumber 119 = .ok (.aload_n 0, 1) := by decide +kernel
theorem dX9_takeNumber_120 : decode cX9_takeNumber 120 = .ok (.getfield 20, 3) := by decide +kernel
theorem dX9_takeNumber_123 : decode cX9_takeNumber 123 = .ok (.iconst 0, 1) := by decide +kernel
theorem dX9_takeNumber_124 : decode cX9_takeNumber 124 = .ok (.invokevirtual 42, 3) := by decide +kernel
theorem dX9_takeNumber_127 : decode cX9_takeNumber 127 = .ok (.goto 41, 3) := by decide +kernel
theorem dX9_takeNumber_130 : decode cX9_takeNumber 130 = .ok (.aload_n 0, 1) := by decide +kernel
theorem dX9_takeNumber_131 : decode cX9_takeNumber 131 = .ok (.getfield 17, 3) := by decide +kernel
theorem dX9_takeNumber_134 : decode cX9_takeNumber 134 = .ok (.aload_n 0, 1) := by decide +kernel
theorem dX9_takeNumber_135 : decode cX9_takeNumber 135 = .ok (.getfield 20, 3) := by decide +kernel
theorem dX9_takeNumber_138 : decode cX9_takeNumber 138 = .ok (.isub, 1) := by decide +kernel
theorem dX9_takeNumber_139 : decode cX9_takeNumber 139 = .ok (.iconst 5, 1) := by decide +kernel
theorem dX9_takeNumber_140 : decode cX9_takeNumber 140 = .ok (.if_icmp .gt 19, 3) := by decide +kernel
theorem dX9_takeNumber_143 : decode cX9_takeNumber 143 = .ok (.aload_n 0, 1) := by decide +kernel
theorem dX9_takeNumber_144 : decode cX9_takeNumber 144 = .ok (.getfield 39, 3) := by decide +kernel
theorem dX9_takeNumber_147 : decode cX9_takeNumber 147 = .ok (.iload_n 1, 1) := by decide +kernel
theorem dX9_takeNumber_148 : decode cX9_takeNumber 148 = .ok (.if_icmp .lt 11, 3) := by decide +kernel
theorem dX9_takeNumber_151 : decode cX9_takeNumber 151 = .ok (.aload_n 0, 1) := by decide +kernel
theorem dX9_takeNumber_152 : decode cX9_takeNumber 152 = .ok (.getfield 39, 3) := by decide +kernel
theorem dX9_takeNumber_155 : decode cX9_takeNumber 155 = .ok (.iload_n 2, 1) := by decide +kernel
theorem dX9_takeNumber_156 : decode cX9_takeNumber 156 = .ok (.if_icmp .le 12, 3) := by decide +kernel
theorem dX9_takeNumber_159 : decode cX9_takeNumber 159 = .ok (.aload_n 0, 1) := by decide +kernel
theorem dX9_takeNumber_160 : decode cX9_takeNumber 160 = .ok (.aload_n 0, 1) := by decide +kernel
theorem dX9_takeNumber_161 : decode cX9_takeNumber 161 = .ok (.getfield 20, 3) := by decide +kernel
theorem dX9_takeNumber_164 : decode cX9_takeNumber 164 = .ok (.iconst 1, 1) := by decide +kernel
theorem dX9_takeNumber_165 : decode cX9_takeNumber 165 = .ok (.invokevirtual 42, 3) := by decide +kernel
theorem dX9_takeNumber_168 : decode cX9_takeNumber 168 = .ok (.aload_n 0, 1) := by decide +kernel
theorem dX9_takeNumber_169 : decode cX9_takeNumber 169 = .ok (.getfield 23, 3) := by decide +kernel
theorem dX9_takeNumber_172 : decode cX9_takeNumber 172 = .ok (.ifCond .ne 7, 3) := by decide +kernel
theorem dX9_takeNumber_175 : decode cX9_takeNumber 175 = .ok (.iconst 1, 1) := by decide +kernel
theorem dX9_takeNumber_176 : decode cX9_takeNumber 176 = .ok (.goto 4, 3) := by decide +kernel
theorem dX9_takeNumber_179 : decode cX9_takeNumber 179 = .ok (.iconst 0, 1) := by decide +kernel
theorem dX9_takeNumber_180 : decode cX9_takeNumber 180 = .ok (.ireturn, 1) := by decide +kernel
theorem dX9_takeSemicolon_0 : decode cX9_takeSemicolon 0 = .ok (.aload_n 0, 1) := by decide +kernel
theorem dX9_takeSemicolon_1 : decode cX9_takeSemicolon 1 = .ok (.getfield 23, 3) := by decide +kernel
theorem dX9_takeSemicolon_4 : decode cX9_takeSemicolon 4 = .ok (.ifCond .eq 5, 3) := by decide +kernel
theorem dX9_takeSemicolon_7 : decode cX9_takeSemicolon 7 = .ok (.iconst 0, 1) := by decide +kernel
theorem dX9_takeSemicolon_8 : decode cX9_takeSemicolon 8 = .ok (.ireturn, 1) := by decide +kernel
theorem dX9_takeSemicolon_9 : decode cX9_takeSemicolon 9 = .ok (.aload_n 0, 1) := by decide +kernel
theorem dX9_takeSemicolon_10 : decode cX9_takeSemicolon 10 = .ok (.invokevirtual 26, 3) := by decide +kernel
theorem dX9_takeSemicolon_13 : decode cX9_takeSemicolon 13 = .ok (.istore_n 1, 1) := by decide +kernel
theorem dX9_takeSemicolon_14 : decode cX9_takeSemicolon 14 = .ok (.iload_n 1, 1) := by decide +kernel
theorem dX9_takeSemicolon_15 : decode cX9_takeSemicolon 15 = .ok (.bipush 59, 2) := by decide +kernel
theorem dX9_takeSemicolon_17 : decode cX9_takeSemicolon 17 = .ok (.if_icmp .ne 15, 3) := by decide +kernel
theorem dX9_takeSemicolon_20 : decode cX9_takeSemicolon 20 = .ok (.aload_n 0, 1) := by decide +kernel
theorem dX9_takeSemicolon_21 : decode cX9_takeSemicolon 21 = .ok (.dup, 1) := by decide +kernel
theorem dX9_takeSemicolon_22 : decode cX9_takeSemicolon 22 = .ok (.getfield 17, 3) := by decide +kernel
theorem dX9_takeSemicolon_25 : decode cX9_takeSemicolon 25 = .ok (.iconst 1, 1) := by decide +kernel
theorem dX9_takeSemicolon_26 : decode cX9_takeSemicolon 26 = .ok (.iadd, 1) := by decide +kernel
theorem dX9_takeSemicolon_27 : decode cX9_takeSemicolon 27 = .ok (.putfield 17, 3) := by decide +kernel
theorem dX9_takeSemicolon_30 : decode cX9_takeSemicolon 30 = .ok (.iconst 1, 1) := by decide +kernel
theorem dX9_takeSemicolon_31 : decode cX9_takeSemicolon 31 = .ok (.ireturn, 1) := by decide +kernel
theorem dX9_takeSemicolon_32 : decode cX9_takeSemicolon 32 = .ok (.iload_n 1, 1) := by decide +kernel
theorem dX9_takeSemicolon_33 : decode cX9_takeSemicolon 33 = .ok (.iconst (-1), 1) := by decide +kernel
theorem dX9_takeSemicolon_34 : decode cX9_takeSemicolon 34 = .ok (.if_icmp .eq 12, 3) := by decide +kernel
theorem dX9_takeSemicolon_37 : decode cX9_takeSemicolon 37 = .ok (.aload_n 0, 1) := by decide +kernel
theorem dX9_takeSemicolon_38 : decode cX9_takeSemicolon 38 = .ok (.aload_n 0, 1) := by decide +kernel
theorem dX9_takeSemicolon_39 : decode cX9_takeSemicolon 39 = .ok (.getfield 17, 3) := by decide +kernel
theorem dX9_takeSemicolon_42 : decode cX9_takeSemicolon 42 = .ok (.iconst 0, 1) := by decide +kernel
theorem dX9_takeSemicolon_43 : decode cX9_takeSemicolon 43 = .ok (.invokevirtual 42, 3) := by decide +kernel
theorem dX9_takeSemicolon_46 : decode cX9_takeSemicolon 46 = .ok (.iconst 0, 1) := by decide +kernel
theorem dX9_takeSemicolon_47 : decode cX9_takeSemicolon 47 = .ok (.ireturn, 1) := by decide +kernel
theorem dX10_init_0 : decode cX10_init 0 = .ok (.aload_n 0, 1) := by decide +kernel
theorem dX10_init_1 : decode cX10_init 1 = .ok (.invokespecial 3, 3) := by decide +kernel
theorem dX10_init_4 : decode cX10_init 4 = .ok (.aload_n 0, 1) := by decide +kernel
theorem dX10_init_5 : decode cX10_init 5 = .ok (.bipush 6, 2) := by decide +kernel
theorem dX10_init_7 : decode cX10_init 7 = .ok (.newarray .int, 2) := by decide +kernel
theorem dX10_init_9 : decode cX10_init 9 = .ok (.putfield 9, 3) := by decide +kernel
theorem dX10_init_12 : decode cX10_init 12 = .ok (.aload_n 0, 1) := by decide +kernel
theorem dX10_init_13 : decode cX10_init 13 = .ok (.bipush 6, 2) := by decide +kernel
theorem dX10_init_15 : decode cX10_init 15 = .ok (.newarray .int, 2) := by decide +kernel
theorem dX10_init_17 : decode cX10_init 17 = .ok (.putfield 15, 3) := by decide +kernel
theorem dX10_init_20 : decode cX10_init 20 = .ok (.aload_n 0, 1) := by decide +kernel
theorem dX10_init_21 : decode cX10_init 21 = .ok (.bipush 6, 2) := by decide +kernel
theorem dX10_init_23 : decode cX10_init 23 = .ok (.newarray .int, 2) := by decide +kernel
theorem dX10_init_25 : decode cX10_init 25 = .ok (.putfield 18, 3) := by decide +kernel
theorem dX10_init_28 : decode cX10_init 28 = .ok (.aload_n 0, 1) := by decide +kernel
theorem dX10_init_29 : decode cX10_init 29 = .ok (.bipush 6, 2) := by decide +kernel
theorem dX10_init_31 : decode cX10_init 31 = .ok (.newarray .int, 2) := by decide +kernel
theorem dX10_init_33 : decode cX10_init 33 = .ok (.putfield 21, 3) := by decide +kernel
theorem dX10_init_36 : decode cX10_init 36 = .ok (.aload_n 0, 1) := by decide +kernel
theorem dX10_init_37 : decode cX10_init 37 = .ok (.bipush 36, 2) := by decide +kernel
theorem dX10_init_39 : decode cX10_init 39 = .ok (.newarray .int, 2) := by decide +kernel
theorem dX10_init_41 : decode cX10_init 41 = .ok (.putfield 24, 3) := by decide +kernel
theorem dX10_init_44 : decode cX10_init 44 = .ok (.return_, 1) := by decide +kernel
theorem dX10_clear_0 : decode cX10_clear 0 = .ok (.aload_n 0, 1) := by decide +kernel
theorem dX10_clear_1 : decode cX10_clear 1 = .ok (.iconst 0, 1) := by decide +kernel
theorem dX10_clear_2 : decode cX10_clear 2 = .ok (.putfield 27, 3) := by decide +kernel
theorem dX10_clear_5 : decode cX10_clear 5 = .ok (.aload_n 0, 1) := by decide +kernel
theorem dX10_clear_6 : decode cX10_clear 6 = .ok (.iconst 0, 1) := by decide +kernel
theorem dX10_clear_7 : decode cX10_clear 7 = .ok (.putfield 31, 3) := by decide +kernel
theorem dX10_clear_10 : decode cX10_clear 10 = .ok (.aload_n 0, 1) := by decide +kernel
theorem dX10_clear_11 : decode cX10_clear 11 = .ok (.iconst 0, 1) := by decide +kernel
theorem dX10_clear_12 : decode cX10_clear 12 = .ok (.putfield 34, 3) := by decide +kernel
theorem dX10_clear_15 : decode cX10_clear 15 = .ok (.aload_n 0, 1) := by decide +kernel
theorem dX10_clear_16 : decode cX10_clear 16 = .ok (.iconst 0, 1) := by decide +kernel
theorem dX10_clear_17 : decode cX10_clear 17 = .ok (.putfield 37, 3) := by decide +kernel
theorem dX10_clear_20 : decode cX10_clear 20 = .ok (.aload_n 0, 1) := by decide +kernel
theorem dX10_clear_21 : decode cX10_clear 21 = .ok (.iconst 0, 1) := by decide +kernel
theorem dX10_clear_22 : decode cX10_clear 22 = .ok (.putfield 40, 3) := by decide +kernel
theorem dX10_clear_25 : decode cX10_clear 25 = .ok (.aload_n 0, 1) := by decide +kernel
theorem dX10_clear_26 : decode cX10_clear 26 = .ok (.iconst 0, 1) := by decide +kernel
theorem dX10_clear_27 : decode cX10_clear 27 = .ok (.putfield 43, 3) := by decide +kernel
theorem dX10_clear_30 : decode cX10_clear 30 = .ok (.aload_n 0, 1) := by decide +kernel
theorem dX10_clear_31 : decode cX10_clear 31 = .ok (.lconst 0, 1) := by decide +kernel
theorem dX10_clear_32 : decode cX10_clear 32 = .ok (.putfield 46, 3) := by decide +kernel
theorem dX10_clear_35 : decode cX10_clear 35 = .ok (.iconst 0, 1) := by decide +kernel
theorem dX10_clear_36 : decode cX10_clear 36 = .ok (.istore_n 1, 1) := by decide +kernel
theorem dX10_clear_37 : decode cX10_clear 37 = .ok (.iload_n 1, 1) := by decide +kernel
theorem dX10_clear_38 : decode cX10_clear 38 = .ok (.bipush 36, 2) := by decide +kernel
theorem dX10_clear_40 : decode cX10_clear 40 = .ok (.if_icmp .ge 16, 3) := by decide +kernel
theorem dX10_clear_43 : decode cX10_clear 43 = .ok (.aload_n 0, 1) := by decide +kernel
theorem dX10_clear_44 : decode cX10_clear 44 = .ok (.getfield 24, 3) := by decide +kernel
theorem dX10_clear_47 : decode cX10_clear 47 = .ok (.iload_n 1, 1) := by decide +kernel
theorem dX10_clear_48 : decode cX10_clear 48 = .ok (.iconst 0, 1) := by decide +kernel
theorem dX10_clear_49 : decode cX10_clear 49 = .ok (.iastore, 1) := by decide +kernel
theorem dX10_clear_50 : decode cX10_clear 50 = .ok (.iinc 1 1, 3) := by decide +kernel
theorem dX10_clear_53 : decode cX10_clear 53 = .ok (.goto (-16), 3) := by decide +kernel
theorem dX10_clear_56 : decode cX10_clear 56 = .ok (.return_, 1) := by decide +kernel
theorem dX10_copyFrom_0 : decode cX10_copyFrom 0 = .ok (.aload_n 0, 1) := by decide +kernel
theorem dX10_copyFrom_1 : decode cX10_copyFrom 1 = .ok (.aload_n 1, 1) := by decide +kernel
theorem dX10_copyFrom_2 : decode cX10_copyFrom 2 = .ok (.getfield 27, 3) := by decide +kernel
theorem dX10_copyFrom_5 : decode cX10_copyFrom 5 = .ok (.putfield 27, 3) := by decide +kernel
theorem dX10_copyFrom_8 : decode cX10_copyFrom 8 = .ok (.aload_n 0, 1) := by decide +kernel
theorem dX10_copyFrom_9 : decode cX10_copyFrom 9 = .ok (.aload_n 1, 1) := by decide +kernel
theorem dX10_copyFrom_10 : decode cX10_copyFrom 10 = .ok (.getfield 31, 3) := by decide +kernel
theorem dX10_copyFrom_13 : decode cX10_copyFrom 13 = .ok (.putfield 31, 3) := by decide +kernel
theorem dX10_copyFrom_16 : decode cX10_copyFrom 16 = .ok (.aload_n 0, 1) := by decide +kernel
theorem dX10_copyFrom_17 : decode cX10_copyFrom 17 = .ok (.aload_n 1, 1) := by decide +kernel
theorem dX10_copyFrom_18 : decode cX10_copyFrom 18 = .ok (.getfield 34, 3) := by decide +kernel
theorem dX10_copyFrom_21 : decode cX10_copyFrom 21 = .ok (.putfield 34, 3) := by decide +kernel
theorem dX10_copyFrom_24 : decode cX10_copyFrom 24 = .ok (.aload_n 0, 1) := by decide +kernel
theorem dX10_copyFrom_25 : decode cX10_copyFrom 25 = .ok (.aload_n 1, 1) := by decide +kernel
theorem dX10_copyFrom_26 : decode cX10_copyFrom 26 = .ok (.getfield 37, 3) := by decide +kernel
theorem dX10_copyFrom_29 : decode cX10_copyFrom 29 = .ok (.putfield 37, 3) := by decide +kernel
theorem dX10_copyFrom_32 : decode cX10_copyFrom 32 = .ok (.aload_n 0, 1) := by decide +kernel
theorem dX10_copyFrom_33 : decode cX10_copyFrom 33 = .ok (.aload_n 1, 1) := by decide +kernel
theorem dX10_copyFrom_34 : decode cX10_copyFrom 34 = .ok (.getfield 40, 3) := by decide +kernel
theorem dX10_copyFrom_37 : decode cX10_copyFrom 37 = .ok (.putfield 40, 3) := by decide +kernel
theorem dX10_copyFrom_40 : decode cX10_copyFrom 40 = .ok (.aload_n 0, 1) := by decide +kernel
theorem dX10_copyFrom_41 : decode cX10_copyFrom 41 = .ok (.aload_n 1, 1) := by decide +kernel
theorem dX10_copyFrom_42 : decode cX10_copyFrom 42 = .ok (.getfield 43, 3) := by decide +kernel
theorem dX10_copyFrom_45 : decode cX10_copyFrom 45 = .ok (.putfield 43, 3) := by decide +kernel
theorem dX10_copyFrom_48 : decode cX10_copyFrom 48 = .ok (.aload_n 0, 1) := by decide +kernel
theorem dX10_copyFrom_49 : decode cX10_copyFrom 49 = .ok (.aload_n 1, 1) := by decide +kernel
theorem dX10_copyFrom_50 : decode cX10_copyFrom 50 = .ok (.getfield 46, 3) := by decide +kernel
theorem dX10_copyFrom_53 : decode cX10_copyFrom 53 = .ok (.putfield 46, 3) := by decide +kernel
theorem dX10_copyFrom_56 : decode cX10_copyFrom 56 = .ok (.iconst 0, 1) := by decide +kernel
theorem dX10_copyFrom_57 : decode cX10_copyFrom 57 = .ok (.istore_n 2, 1) := by decide +kernel
theorem dX10_copyFrom_58 : decode cX10_copyFrom 58 = .ok (.iload_n 2, 1) := by decide +kernel
theorem dX10_copyFrom_59 : decode cX10_copyFrom 59 = .ok (.bipush 6, 2) := by decide +kernel
theorem dX10_copyFrom_61 : decode cX10_copyFrom 61 = .ok (.if_icmp .ge 57, 3) := by decide +kernel
theorem dX10_copyFrom_64 : decode cX10_copyFrom 64 = .ok (.aload_n 0, 1) := by decide +kernel
