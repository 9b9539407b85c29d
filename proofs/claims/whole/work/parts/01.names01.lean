theorem dX0_init_0 : decode cX0_init 0 = .ok (.aload_n 0, 1) := by decide +kernel
theorem dX0_init_1 : decode cX0_init 1 = .ok (.invokespecial 1, 3) := by decide +kernel
theorem dX0_init_4 : decode cX0_init 4 = .ok (.aload_n 0, 1) := by decide +kernel
theorem dX0_init_5 : decode cX0_init 5 = .ok (.bipush 20, 2) := by decide +kernel
theorem dX0_init_7 : decode cX0_init 7 = .ok (.anewarray 9, 3) := by decide +kernel
theorem dX0_init_10 : decode cX0_init 10 = .ok (.putfield 11, 3) := by decide +kernel
theorem dX0_init_13 : decode cX0_init 13 = .ok (.iconst 0, 1) := by decide +kernel
theorem dX0_init_14 : decode cX0_init 14 = .ok (.istore_n 1, 1) := by decide +kernel
theorem dX0_init_15 : decode cX0_init 15 = .ok (.iload_n 1, 1) := by decide +kernel
theorem dX0_init_16 : decode cX0_init 16 = .ok (.bipush 20, 2) := by decide +kernel
theorem dX0_init_18 : decode cX0_init 18 = .ok (.if_icmp .ge 22, 3) := by decide +kernel
theorem dX0_init_21 : decode cX0_init 21 = .ok (.aload_n 0, 1) := by decide +kernel
theorem dX0_init_22 : decode cX0_init 22 = .ok (.getfield 11, 3) := by decide +kernel
theorem dX0_init_25 : decode cX0_init 25 = .ok (.iload_n 1, 1) := by decide +kernel
theorem dX0_init_26 : decode cX0_init 26 = .ok (.new 9, 3) := by decide +kernel
theorem dX0_init_29 : decode cX0_init 29 = .ok (.dup, 1) := by decide +kernel
theorem dX0_init_30 : decode cX0_init 30 = .ok (.invokespecial 15, 3) := by decide +kernel
theorem dX0_init_33 : decode cX0_init 33 = .ok (.aastore, 1) := by decide +kernel
theorem dX0_init_34 : decode cX0_init 34 = .ok (.iinc 1 1, 3) := by decide +kernel
theorem dX0_init_37 : decode cX0_init 37 = .ok (.goto (-22), 3) := by decide +kernel
theorem dX0_init_40 : decode cX0_init 40 = .ok (.return_, 1) := by decide +kernel
theorem dX0_forget_0 : decode cX0_forget 0 = .ok (.aload_n 0, 1) := by decide +kernel
theorem dX0_forget_1 : decode cX0_forget 1 = .ok (.iconst 0, 1) := by decide +kernel
theorem dX0_forget_2 : decode cX0_forget 2 = .ok (.putfield 16, 3) := by decide +kernel
theorem dX0_forget_5 : decode cX0_forget 5 = .ok (.return_, 1) := by decide +kernel
theorem dX0_keep_0 : decode cX0_keep 0 = .ok (.aload_n 0, 1) := by decide +kernel
theorem dX0_keep_1 : decode cX0_keep 1 = .ok (.getfield 11, 3) := by decide +kernel
theorem dX0_keep_4 : decode cX0_keep 4 = .ok (.aload_n 0, 1) := by decide +kernel
theorem dX0_keep_5 : decode cX0_keep 5 = .ok (.getfield 20, 3) := by decide +kernel
theorem dX0_keep_8 : decode cX0_keep 8 = .ok (.aaload, 1) := by decide +kernel
theorem dX0_keep_9 : decode cX0_keep 9 = .ok (.aload_n 1, 1) := by decide +kernel
theorem dX0_keep_10 : decode cX0_keep 10 = .ok (.invokevirtual 23, 3) := by decide +kernel
theorem dX0_keep_13 : decode cX0_keep 13 = .ok (.aload_n 0, 1) := by decide +kernel
theorem dX0_keep_14 : decode cX0_keep 14 = .ok (.aload_n 0, 1) := by decide +kernel
theorem dX0_keep_15 : decode cX0_keep 15 = .ok (.getfield 20, 3) := by decide +kernel
theorem dX0_keep_18 : decode cX0_keep 18 = .ok (.iconst 1, 1) := by decide +kernel
theorem dX0_keep_19 : decode cX0_keep 19 = .ok (.iadd, 1) := by decide +kernel
theorem dX0_keep_20 : decode cX0_keep 20 = .ok (.bipush 20, 2) := by decide +kernel
theorem dX0_keep_22 : decode cX0_keep 22 = .ok (.irem, 1) := by decide +kernel
theorem dX0_keep_23 : decode cX0_keep 23 = .ok (.putfield 20, 3) := by decide +kernel
theorem dX0_keep_26 : decode cX0_keep 26 = .ok (.aload_n 0, 1) := by decide +kernel
theorem dX0_keep_27 : decode cX0_keep 27 = .ok (.aload_n 0, 1) := by decide +kernel
theorem dX0_keep_28 : decode cX0_keep 28 = .ok (.getfield 16, 3) := by decide +kernel
theorem dX0_keep_31 : decode cX0_keep 31 = .ok (.iconst 1, 1) := by decide +kernel
theorem dX0_keep_32 : decode cX0_keep 32 = .ok (.iadd, 1) := by decide +kernel
theorem dX0_keep_33 : decode cX0_keep 33 = .ok (.bipush 20, 2) := by decide +kernel
theorem dX0_keep_35 : decode cX0_keep 35 = .ok (.invokestatic 27, 3) := by decide +kernel
theorem dX0_keep_38 : decode cX0_keep 38 = .ok (.putfield 16, 3) := by decide +kernel
theorem dX0_keep_41 : decode cX0_keep 41 = .ok (.return_, 1) := by decide +kernel
theorem dX0_takeBack_0 : decode cX0_takeBack 0 = .ok (.aload_n 0, 1) := by decide +kernel
theorem dX0_takeBack_1 : decode cX0_takeBack 1 = .ok (.getfield 16, 3) := by decide +kernel
theorem dX0_takeBack_4 : decode cX0_takeBack 4 = .ok (.ifCond .le 42, 3) := by decide +kernel
theorem dX0_takeBack_7 : decode cX0_takeBack 7 = .ok (.aload_n 0, 1) := by decide +kernel
theorem dX0_takeBack_8 : decode cX0_takeBack 8 = .ok (.aload_n 0, 1) := by decide +kernel
theorem dX0_takeBack_9 : decode cX0_takeBack 9 = .ok (.getfield 20, 3) := by decide +kernel
theorem dX0_takeBack_12 : decode cX0_takeBack 12 = .ok (.bipush 20, 2) := by decide +kernel
theorem dX0_takeBack_14 : decode cX0_takeBack 14 = .ok (.iadd, 1) := by decide +kernel
theorem dX0_takeBack_15 : decode cX0_takeBack 15 = .ok (.iconst 1, 1) := by decide +kernel
theorem dX0_takeBack_16 : decode cX0_takeBack 16 = .ok (.isub, 1) := by decide +kernel
theorem dX0_takeBack_17 : decode cX0_takeBack 17 = .ok (.bipush 20, 2) := by decide +kernel
theorem dX0_takeBack_19 : decode cX0_takeBack 19 = .ok (.irem, 1) := by decide +kernel
theorem dX0_takeBack_20 : decode cX0_takeBack 20 = .ok (.putfield 20, 3) := by decide +kernel
theorem dX0_takeBack_23 : decode cX0_takeBack 23 = .ok (.aload_n 1, 1) := by decide +kernel
theorem dX0_takeBack_24 : decode cX0_takeBack 24 = .ok (.aload_n 0, 1) := by decide +kernel
theorem dX0_takeBack_25 : decode cX0_takeBack 25 = .ok (.getfield 11, 3) := by decide +kernel
theorem dX0_takeBack_28 : decode cX0_takeBack 28 = .ok (.aload_n 0, 1) := by decide +kernel
theorem dX0_takeBack_29 : decode cX0_takeBack 29 = .ok (.getfield 20, 3) := by decide +kernel
theorem dX0_takeBack_32 : decode cX0_takeBack 32 = .ok (.aaload, 1) := by decide +kernel
theorem dX0_takeBack_33 : decode cX0_takeBack 33 = .ok (.invokevirtual 23, 3) := by decide +kernel
theorem dX0_takeBack_36 : decode cX0_takeBack 36 = .ok (.aload_n 0, 1) := by decide +kernel
theorem dX0_takeBack_37 : decode cX0_takeBack 37 = .ok (.dup, 1) := by decide +kernel
theorem dX0_takeBack_38 : decode cX0_takeBack 38 = .ok (.getfield 16, 3) := by decide +kernel
theorem dX0_takeBack_41 : decode cX0_takeBack 41 = .ok (.iconst 1, 1) := by decide +kernel
theorem dX0_takeBack_42 : decode cX0_takeBack 42 = .ok (.isub, 1) := by decide +kernel
theorem dX0_takeBack_43 : decode cX0_takeBack 43 = .ok (.putfield 16, 3) := by decide +kernel
theorem dX0_takeBack_46 : decode cX0_takeBack 46 = .ok (.return_, 1) := by decide +kernel
theorem dX1_init_0 : decode cX1_init 0 = .ok (.aload_n 0, 1) := by decide +kernel
theorem dX1_init_1 : decode cX1_init 1 = .ok (.invokespecial 3, 3) := by decide +kernel
theorem dX1_init_4 : decode cX1_init 4 = .ok (.aload_n 0, 1) := by decide +kernel
theorem dX1_init_5 : decode cX1_init 5 = .ok (.aload_n 1, 1) := by decide +kernel
theorem dX1_init_6 : decode cX1_init 6 = .ok (.putfield 9, 3) := by decide +kernel
theorem dX1_init_9 : decode cX1_init 9 = .ok (.return_, 1) := by decide +kernel
theorem dX1_read_0 : decode cX1_read 0 = .ok (.aload_n 1, 1) := by decide +kernel
theorem dX1_read_1 : decode cX1_read 1 = .ok (.invokevirtual 15, 3) := by decide +kernel
theorem dX1_read_4 : decode cX1_read 4 = .ok (.aload_n 0, 1) := by decide +kernel
theorem dX1_read_5 : decode cX1_read 5 = .ok (.getfield 9, 3) := by decide +kernel
theorem dX1_read_8 : decode cX1_read 8 = .ok (.invokevirtual 20, 3) := by decide +kernel
theorem dX1_read_11 : decode cX1_read 11 = .ok (.iconst 1, 1) := by decide +kernel
theorem dX1_read_12 : decode cX1_read 12 = .ok (.istore_n 2, 1) := by decide +kernel
theorem dX1_read_13 : decode cX1_read 13 = .ok (.iload_n 2, 1) := by decide +kernel
theorem dX1_read_14 : decode cX1_read 14 = .ok (.bipush 41, 2) := by decide +kernel
theorem dX1_read_16 : decode cX1_read 16 = .ok (.if_icmp .gt 26, 3) := by decide +kernel
theorem dX1_read_19 : decode cX1_read 19 = .ok (.aload_n 0, 1) := by decide +kernel
theorem dX1_read_20 : decode cX1_read 20 = .ok (.aload_n 1, 1) := by decide +kernel
theorem dX1_read_21 : decode cX1_read 21 = .ok (.iload_n 2, 1) := by decide +kernel
theorem dX1_read_22 : decode cX1_read 22 = .ok (.invokevirtual 25, 3) := by decide +kernel
theorem dX1_read_25 : decode cX1_read 25 = .ok (.aload_n 0, 1) := by decide +kernel
theorem dX1_read_26 : decode cX1_read 26 = .ok (.getfield 9, 3) := by decide +kernel
theorem dX1_read_29 : decode cX1_read 29 = .ok (.invokevirtual 29, 3) := by decide +kernel
theorem dX1_read_32 : decode cX1_read 32 = .ok (.ifCond .ne 4, 3) := by decide +kernel
theorem dX1_read_35 : decode cX1_read 35 = .ok (.return_, 1) := by decide +kernel
theorem dX1_read_36 : decode cX1_read 36 = .ok (.iinc 2 1, 3) := by decide +kernel
theorem dX1_read_39 : decode cX1_read 39 = .ok (.goto (-26), 3) := by decide +kernel
theorem dX1_read_42 : decode cX1_read 42 = .ok (.return_, 1) := by decide +kernel
theorem dX1_readClause_0 : decode cX1_readClause 0 = .ok (.aload_n 0, 1) := by decide +kernel
theorem dX1_readClause_1 : decode cX1_readClause 1 = .ok (.getfield 9, 3) := by decide +kernel
theorem dX1_readClause_4 : decode cX1_readClause 4 = .ok (.invokevirtual 33, 3) := by decide +kernel
theorem dX1_readClause_7 : decode cX1_readClause 7 = .ok (.aload_n 0, 1) := by decide +kernel
theorem dX1_readClause_8 : decode cX1_readClause 8 = .ok (.getfield 9, 3) := by decide +kernel
theorem dX1_readClause_11 : decode cX1_readClause 11 = .ok (.ldc 36, 2) := by decide +kernel
theorem dX1_readClause_13 : decode cX1_readClause 13 = .ok (.invokevirtual 38, 3) := by decide +kernel
theorem dX1_readClause_16 : decode cX1_readClause 16 = .ok (.istore_n 3, 1) := by decide +kernel
theorem dX1_readClause_17 : decode cX1_readClause 17 = .ok (.aload_n 0, 1) := by decide +kernel
theorem dX1_readClause_18 : decode cX1_readClause 18 = .ok (.getfield 9, 3) := by decide +kernel
theorem dX1_readClause_21 : decode cX1_readClause 21 = .ok (.ldc 42, 2) := by decide +kernel
theorem dX1_readClause_23 : decode cX1_readClause 23 = .ok (.invokevirtual 38, 3) := by decide +kernel
theorem dX1_readClause_26 : decode cX1_readClause 26 = .ok (.istore 4, 2) := by decide +kernel
theorem dX1_readClause_28 : decode cX1_readClause 28 = .ok (.iload_n 3, 1) := by decide +kernel
theorem dX1_readClause_29 : decode cX1_readClause 29 = .ok (.ifCond .ne 36, 3) := by decide +kernel
theorem dX1_readClause_32 : decode cX1_readClause 32 = .ok (.iload 4, 2) := by decide +kernel
theorem dX1_readClause_34 : decode cX1_readClause 34 = .ok (.ifCond .ne 31, 3) := by decide +kernel
theorem dX1_readClause_37 : decode cX1_readClause 37 = .ok (.aload_n 0, 1) := by decide +kernel
theorem dX1_readClause_38 : decode cX1_readClause 38 = .ok (.getfield 9, 3) := by decide +kernel
theorem dX1_readClause_41 : decode cX1_readClause 41 = .ok (.ldc 44, 2) := by decide +kernel
theorem dX1_readClause_43 : decode cX1_readClause 43 = .ok (.invokevirtual 38, 3) := by decide +kernel
theorem dX1_readClause_46 : decode cX1_readClause 46 = .ok (.ifCond .ne 19, 3) := by decide +kernel
theorem dX1_readClause_49 : decode cX1_readClause 49 = .ok (.aload_n 0, 1) := by decide +kernel
theorem dX1_readClause_50 : decode cX1_readClause 50 = .ok (.getfield 9, 3) := by decide +kernel
theorem dX1_readClause_53 : decode cX1_readClause 53 = .ok (.aload_n 0, 1) := by decide +kernel
theorem dX1_readClause_54 : decode cX1_readClause 54 = .ok (.getfield 9, 3) := by decide +kernel
theorem dX1_readClause_57 : decode cX1_readClause 57 = .ok (.getfield 46, 3) := by decide +kernel
theorem dX1_readClause_60 : decode cX1_readClause 60 = .ok (.iconst 0, 1) := by decide +kernel
theorem dX1_readClause_61 : decode cX1_readClause 61 = .ok (.invokevirtual 50, 3) := by decide +kernel
theorem dX1_readClause_64 : decode cX1_readClause 64 = .ok (.return_, 1) := by decide +kernel
theorem dX1_readClause_65 : decode cX1_readClause 65 = .ok (.iload_n 3, 1) := by decide +kernel
theorem dX1_readClause_66 : decode cX1_readClause 66 = .ok (.iload_n 2, 1) := by decide +kernel
theorem dX1_readClause_67 : decode cX1_readClause 67 = .ok (.iconst 1, 1) := by decide +kernel
theorem dX1_readClause_68 : decode cX1_readClause 68 = .ok (.if_icmp .ne 7, 3) := by decide +kernel
theorem dX1_readClause_71 : decode cX1_readClause 71 = .ok (.iconst 1, 1) := by decide +kernel
theorem dX1_readClause_72 : decode cX1_readClause 72 = .ok (.goto 4, 3) := by decide +kernel
theorem dX1_readClause_75 : decode cX1_readClause 75 = .ok (.iconst 0, 1) := by decide +kernel
theorem dX1_readClause_76 : decode cX1_readClause 76 = .ok (.if_icmp .ne 9, 3) := by decide +kernel
theorem dX1_readClause_79 : decode cX1_readClause 79 = .ok (.iload_n 2, 1) := by decide +kernel
theorem dX1_readClause_80 : decode cX1_readClause 80 = .ok (.bipush 40, 2) := by decide +kernel
theorem dX1_readClause_82 : decode cX1_readClause 82 = .ok (.if_icmp .le 7, 3) := by decide +kernel
theorem dX1_readClause_85 : decode cX1_readClause 85 = .ok (.iconst 1, 1) := by decide +kernel
theorem dX1_readClause_86 : decode cX1_readClause 86 = .ok (.goto 4, 3) := by decide +kernel
theorem dX1_readClause_89 : decode cX1_readClause 89 = .ok (.iconst 0, 1) := by decide +kernel
theorem dX1_readClause_90 : decode cX1_readClause 90 = .ok (.istore 5, 2) := by decide +kernel
theorem dX1_readClause_92 : decode cX1_readClause 92 = .ok (.iload 5, 2) := by decide +kernel
theorem dX1_readClause_94 : decode cX1_readClause 94 = .ok (.ifCond .ne 17, 3) := by decide +kernel
theorem dX1_readClause_97 : decode cX1_readClause 97 = .ok (.iload 4, 2) := by decide +kernel
theorem dX1_readClause_99 : decode cX1_readClause 99 = .ok (.ifCond .eq 28, 3) := by decide +kernel
theorem dX1_readClause_102 : decode cX1_readClause 102 = .ok (.aload_n 1, 1) := by decide +kernel
theorem dX1_readClause_103 : decode cX1_readClause 103 = .ok (.getfield 54, 3) := by decide +kernel
theorem dX1_readClause_106 : decode cX1_readClause 106 = .ok (.bipush 6, 2) := by decide +kernel
theorem dX1_readClause_108 : decode cX1_readClause 108 = .ok (.if_icmp .lt 19, 3) := by decide +kernel
theorem dX1_readClause_111 : decode cX1_readClause 111 = .ok (.aload_n 0, 1) := by decide +kernel
theorem dX1_readClause_112 : decode cX1_readClause 112 = .ok (.getfield 9, 3) := by decide +kernel
theorem dX1_readClause_115 : decode cX1_readClause 115 = .ok (.aload_n 0, 1) := by decide +kernel
theorem dX1_readClause_116 : decode cX1_readClause 116 = .ok (.getfield 9, 3) := by decide +kernel
theorem dX1_readClause_119 : decode cX1_readClause 119 = .ok (.getfield 46, 3) := by decide +kernel
theorem dX1_readClause_122 : decode cX1_readClause 122 = .ok (.iconst 4, 1) := by decide +kernel
theorem dX1_readClause_123 : decode cX1_readClause 123 = .ok (.invokevirtual 50, 3) := by decide +kernel
theorem dX1_readClause_126 : decode cX1_readClause 126 = .ok (.return_, 1) := by decide +kernel
theorem dX1_readClause_127 : decode cX1_readClause 127 = .ok (.iload_n 3, 1) := by decide +kernel
theorem dX1_readClause_128 : decode cX1_readClause 128 = .ok (.ifCond .eq 11, 3) := by decide +kernel
theorem dX1_readClause_131 : decode cX1_readClause 131 = .ok (.aload_n 0, 1) := by decide +kernel
theorem dX1_readClause_132 : decode cX1_readClause 132 = .ok (.aload_n 1, 1) := by decide +kernel
theorem dX1_readClause_133 : decode cX1_readClause 133 = .ok (.invokevirtual 57, 3) := by decide +kernel
theorem dX1_readClause_136 : decode cX1_readClause 136 = .ok (.goto 51, 3) := by decide +kernel
theorem dX1_readClause_139 : decode cX1_readClause 139 = .ok (.iload 4, 2) := by decide +kernel
theorem dX1_readClause_141 : decode cX1_readClause 141 = .ok (.ifCond .eq 11, 3) := by decide +kernel
theorem dX1_readClause_144 : decode cX1_readClause 144 = .ok (.aload_n 0, 1) := by decide +kernel
theorem dX1_readClause_145 : decode cX1_readClause 145 = .ok (.aload_n 1, 1) := by decide +kernel
theorem dX1_readClause_146 : decode cX1_readClause 146 = .ok (.invokevirtual 61, 3) := by decide +kernel
theorem dX1_readClause_149 : decode cX1_readClause 149 = .ok (.goto 38, 3) := by decide +kernel
theorem dX1_readClause_152 : decode cX1_readClause 152 = .ok (.aload_n 0, 1) := by decide +kernel
theorem dX1_readClause_153 : decode cX1_readClause 153 = .ok (.getfield 9, 3) := by decide +kernel
theorem dX1_readClause_156 : decode cX1_readClause 156 = .ok (.iconst 0, 1) := by decide +kernel
theorem dX1_readClause_157 : decode cX1_readClause 157 = .ok (.aload_n 1, 1) := by decide +kernel
theorem dX1_readClause_158 : decode cX1_readClause 158 = .ok (.getfield 64, 3) := by decide +kernel
theorem dX1_readClause_161 : decode cX1_readClause 161 = .ok (.iconst 1, 1) := by decide +kernel
theorem dX1_readClause_162 : decode cX1_readClause 162 = .ok (.isub, 1) := by decide +kernel
theorem dX1_readClause_163 : decode cX1_readClause 163 = .ok (.invokevirtual 67, 3) := by decide +kernel
theorem dX1_readClause_166 : decode cX1_readClause 166 = .ok (.ifCond .eq 21, 3) := by decide +kernel
theorem dX1_readClause_169 : decode cX1_readClause 169 = .ok (.aload_n 1, 1) := by decide +kernel
theorem dX1_readClause_170 : decode cX1_readClause 170 = .ok (.dup, 1) := by decide +kernel
theorem dX1_readClause_171 : decode cX1_readClause 171 = .ok (.getfield 71, 3) := by decide +kernel
theorem dX1_readClause_174 : decode cX1_readClause 174 = .ok (.lconst 1, 1) := by decide +kernel
theorem dX1_readClause_175 : decode cX1_readClause 175 = .ok (.aload_n 0, 1) := by decide +kernel
theorem dX1_readClause_176 : decode cX1_readClause 176 = .ok (.getfield 9, 3) := by decide +kernel
theorem dX1_readClause_179 : decode cX1_readClause 179 = .ok (.getfield 75, 3) := by decide +kernel
theorem dX1_readClause_182 : decode cX1_readClause 182 = .ok (.lshl, 1) := by decide +kernel
theorem dX1_readClause_183 : decode cX1_readClause 183 = .ok (.lor, 1) := by decide +kernel
theorem dX1_readClause_184 : decode cX1_readClause 184 = .ok (.putfield 71, 3) := by decide +kernel
theorem dX1_readClause_187 : decode cX1_readClause 187 = .ok (.return_, 1) := by decide +kernel
theorem dX1_readSquare_0 : decode cX1_readSquare 0 = .ok (.aload_n 0, 1) := by decide +kernel
theorem dX1_readSquare_1 : decode cX1_readSquare 1 = .ok (.getfield 9, 3) := by decide +kernel
theorem dX1_readSquare_4 : decode cX1_readSquare 4 = .ok (.iconst 2, 1) := by decide +kernel
theorem dX1_readSquare_5 : decode cX1_readSquare 5 = .ok (.bipush 6, 2) := by decide +kernel
theorem dX1_readSquare_7 : decode cX1_readSquare 7 = .ok (.invokevirtual 67, 3) := by decide +kernel
theorem dX1_readSquare_10 : decode cX1_readSquare 10 = .ok (.ifCond .ne 4, 3) := by decide +kernel
theorem dX1_readSquare_13 : decode cX1_readSquare 13 = .ok (.return_, 1) := by decide +kernel
theorem dX1_readSquare_14 : decode cX1_readSquare 14 = .ok (.aload_n 1, 1) := by decide +kernel
theorem dX1_readSquare_15 : decode cX1_readSquare 15 = .ok (.aload_n 0, 1) := by decide +kernel
theorem dX1_readSquare_16 : decode cX1_readSquare 16 = .ok (.getfield 9, 3) := by decide +kernel
theorem dX1_readSquare_19 : decode cX1_readSquare 19 = .ok (.getfield 75, 3) := by decide +kernel
theorem dX1_readSquare_22 : decode cX1_readSquare 22 = .ok (.putfield 78, 3) := by decide +kernel
theorem dX1_readSquare_25 : decode cX1_readSquare 25 = .ok (.aload_n 1, 1) := by decide +kernel
theorem dX1_readSquare_26 : decode cX1_readSquare 26 = .ok (.aload_n 0, 1) := by decide +kernel
theorem dX1_readSquare_27 : decode cX1_readSquare 27 = .ok (.getfield 9, 3) := by decide +kernel
theorem dX1_readSquare_30 : decode cX1_readSquare 30 = .ok (.getfield 75, 3) := by decide +kernel
theorem dX1_readSquare_33 : decode cX1_readSquare 33 = .ok (.aload_n 0, 1) := by decide +kernel
theorem dX1_readSquare_34 : decode cX1_readSquare 34 = .ok (.getfield 9, 3) := by decide +kernel
theorem dX1_readSquare_37 : decode cX1_readSquare 37 = .ok (.getfield 75, 3) := by decide +kernel
theorem dX1_readSquare_40 : decode cX1_readSquare 40 = .ok (.imul, 1) := by decide +kernel
theorem dX1_readSquare_41 : decode cX1_readSquare 41 = .ok (.putfield 64, 3) := by decide +kernel
theorem dX1_readSquare_44 : decode cX1_readSquare 44 = .ok (.aload_n 0, 1) := by decide +kernel
theorem dX1_readSquare_45 : decode cX1_readSquare 45 = .ok (.getfield 9, 3) := by decide +kernel
theorem dX1_readSquare_48 : decode cX1_readSquare 48 = .ok (.iconst 0, 1) := by decide +kernel
theorem dX1_readSquare_49 : decode cX1_readSquare 49 = .ok (.aload_n 1, 1) := by decide +kernel
theorem dX1_readSquare_50 : decode cX1_readSquare 50 = .ok (.getfield 64, 3) := by decide +kernel
theorem dX1_readSquare_53 : decode cX1_readSquare 53 = .ok (.iconst 1, 1) := by decide +kernel
theorem dX1_readSquare_54 : decode cX1_readSquare 54 = .ok (.isub, 1) := by decide +kernel
theorem dX1_readSquare_55 : decode cX1_readSquare 55 = .ok (.invokevirtual 67, 3) := by decide +kernel
theorem dX1_readSquare_58 : decode cX1_readSquare 58 = .ok (.ifCond .eq 14, 3) := by decide +kernel
theorem dX1_readSquare_61 : decode cX1_readSquare 61 = .ok (.aload_n 1, 1) := by decide +kernel
theorem dX1_readSquare_62 : decode cX1_readSquare 62 = .ok (.aload_n 0, 1) := by decide +kernel
theorem dX1_readSquare_63 : decode cX1_readSquare 63 = .ok (.getfield 9, 3) := by decide +kernel
theorem dX1_readSquare_66 : decode cX1_readSquare 66 = .ok (.getfield 75, 3) := by decide +kernel
theorem dX1_readSquare_69 : decode cX1_readSquare 69 = .ok (.putfield 81, 3) := by decide +kernel
theorem dX1_readSquare_72 : decode cX1_readSquare 72 = .ok (.return_, 1) := by decide +kernel
theorem dX1_readTent_0 : decode cX1_readTent 0 = .ok (.aload_n 0, 1) := by decide +kernel
theorem dX1_readTent_1 : decode cX1_readTent 1 = .ok (.getfield 9, 3) := by decide +kernel
theorem dX1_readTent_4 : decode cX1_readTent 4 = .ok (.iconst 0, 1) := by decide +kernel
theorem dX1_readTent_5 : decode cX1_readTent 5 = .ok (.aload_n 1, 1) := by decide +kernel
theorem dX1_readTent_6 : decode cX1_readTent 6 = .ok (.getfield 64, 3) := by decide +kernel
theorem dX1_readTent_9 : decode cX1_readTent 9 = .ok (.iconst 1, 1) := by decide +kernel
theorem dX1_readTent_10 : decode cX1_readTent 10 = .ok (.isub, 1) := by decide +kernel
theorem dX1_readTent_11 : decode cX1_readTent 11 = .ok (.invokevirtual 67, 3) := by decide +kernel
theorem dX1_readTent_14 : decode cX1_readTent 14 = .ok (.ifCond .ne 4, 3) := by decide +kernel
theorem dX1_readTent_17 : decode cX1_readTent 17 = .ok (.return_, 1) := by decide +kernel
theorem dX1_readTent_18 : decode cX1_readTent 18 = .ok (.aload_n 0, 1) := by decide +kernel
theorem dX1_readTent_19 : decode cX1_readTent 19 = .ok (.getfield 9, 3) := by decide +kernel
theorem dX1_readTent_22 : decode cX1_readTent 22 = .ok (.getfield 75, 3) := by decide +kernel
theorem dX1_readTent_25 : decode cX1_readTent 25 = .ok (.istore_n 2, 1) := by decide +kernel
theorem dX1_readTent_26 : decode cX1_readTent 26 = .ok (.aload_n 0, 1) := by decide +kernel
theorem dX1_readTent_27 : decode cX1_readTent 27 = .ok (.getfield 9, 3) := by decide +kernel
theorem dX1_readTent_30 : decode cX1_readTent 30 = .ok (.iconst 0, 1) := by decide +kernel
theorem dX1_readTent_31 : decode cX1_readTent 31 = .ok (.bipush 20, 2) := by decide +kernel
theorem dX1_readTent_33 : decode cX1_readTent 33 = .ok (.invokevirtual 67, 3) := by decide +kernel
theorem dX1_readTent_36 : decode cX1_readTent 36 = .ok (.ifCond .eq 15, 3) := by decide +kernel
theorem dX1_readTent_39 : decode cX1_readTent 39 = .ok (.aload_n 1, 1) := by decide +kernel
theorem dX1_readTent_40 : decode cX1_readTent 40 = .ok (.iload_n 2, 1) := by decide +kernel
theorem dX1_readTent_41 : decode cX1_readTent 41 = .ok (.aload_n 0, 1) := by decide +kernel
theorem dX1_readTent_42 : decode cX1_readTent 42 = .ok (.getfield 9, 3) := by decide +kernel
theorem dX1_readTent_45 : decode cX1_readTent 45 = .ok (.getfield 75, 3) := by decide +kernel
theorem dX1_readTent_48 : decode cX1_readTent 48 = .ok (.invokevirtual 84, 3) := by decide +kernel
theorem dX1_readTent_51 : decode cX1_readTent 51 = .ok (.return_, 1) := by decide +kernel
theorem dX2_init_0 : decode cX2_init 0 = .ok (.aload_n 0, 1) := by decide +kernel
theorem dX2_init_1 : decode cX2_init 1 = .ok (.invokespecial 3, 3) := by decide +kernel
theorem dX2_init_4 : decode cX2_init 4 = .ok (.aload_n 0, 1) := by decide +kernel
theorem dX2_init_5 : decode cX2_init 5 = .ok (.aload_n 1, 1) := by decide +kernel
theorem dX2_init_6 : decode cX2_init 6 = .ok (.putfield 9, 3) := by decide +kernel
theorem dX2_init_9 : decode cX2_init 9 = .ok (.aload_n 0, 1) := by decide +kernel
theorem dX2_init_10 : decode cX2_init 10 = .ok (.new 15, 3) := by decide +kernel
theorem dX2_init_13 : decode cX2_init 13 = .ok (.dup, 1) := by decide +kernel
theorem dX2_init_14 : decode cX2_init 14 = .ok (.invokespecial 17, 3) := by decide +kernel
theorem dX2_init_17 : decode cX2_init 17 = .ok (.putfield 18, 3) := by decide +kernel
theorem dX2_init_20 : decode cX2_init 20 = .ok (.aload_n 0, 1) := by decide +kernel
theorem dX2_init_21 : decode cX2_init 21 = .ok (.bipush 66, 2) := by decide +kernel
theorem dX2_init_23 : decode cX2_init 23 = .ok (.newarray .int, 2) := by decide +kernel
theorem dX2_init_25 : decode cX2_init 25 = .ok (.putfield 22, 3) := by decide +kernel
theorem dX2_init_28 : decode cX2_init 28 = .ok (.return_, 1) := by decide +kernel
theorem dX2_after_0 : decode cX2_after 0 = .ok (.aload_n 0, 1) := by decide +kernel
theorem dX2_after_1 : decode cX2_after 1 = .ok (.getfield 18, 3) := by decide +kernel
theorem dX2_after_4 : decode cX2_after 4 = .ok (.aload_n 1, 1) := by decide +kernel
theorem dX2_after_5 : decode cX2_after 5 = .ok (.getfield 26, 3) := by decide +kernel
theorem dX2_after_8 : decode cX2_after 8 = .ok (.invokevirtual 31, 3) := by decide +kernel
theorem dX2_after_11 : decode cX2_after 11 = .ok (.aload_n 0, 1) := by decide +kernel
theorem dX2_after_12 : decode cX2_after 12 = .ok (.getfield 9, 3) := by decide +kernel
theorem dX2_after_15 : decode cX2_after 15 = .ok (.aload_n 0, 1) := by decide +kernel
theorem dX2_after_16 : decode cX2_after 16 = .ok (.getfield 18, 3) := by decide +kernel
theorem dX2_after_19 : decode cX2_after 19 = .ok (.aload_n 1, 1) := by decide +kernel
theorem dX2_after_20 : decode cX2_after 20 = .ok (.getfield 35, 3) := by decide +kernel
theorem dX2_after_23 : decode cX2_after 23 = .ok (.iload_n 2, 1) := by decide +kernel
theorem dX2_after_24 : decode cX2_after 24 = .ok (.invokevirtual 39, 3) := by decide +kernel
theorem dX2_after_27 : decode cX2_after 27 = .ok (.aload_n 0, 1) := by decide +kernel
theorem dX2_after_28 : decode cX2_after 28 = .ok (.getfield 18, 3) := by decide +kernel
theorem dX2_after_31 : decode cX2_after 31 = .ok (.areturn, 1) := by decide +kernel
theorem dX2_firstAsked_0 : decode cX2_firstAsked 0 = .ok (.aload_n 0, 1) := by decide +kernel
theorem dX2_firstAsked_1 : decode cX2_firstAsked 1 = .ok (.getfield 18, 3) := by decide +kernel
theorem dX2_firstAsked_4 : decode cX2_firstAsked 4 = .ok (.aload_n 1, 1) := by decide +kernel
theorem dX2_firstAsked_5 : decode cX2_firstAsked 5 = .ok (.getfield 26, 3) := by decide +kernel
theorem dX2_firstAsked_8 : decode cX2_firstAsked 8 = .ok (.invokevirtual 31, 3) := by decide +kernel
theorem dX2_firstAsked_11 : decode cX2_firstAsked 11 = .ok (.iconst 0, 1) := by decide +kernel
theorem dX2_firstAsked_12 : decode cX2_firstAsked 12 = .ok (.istore_n 3, 1) := by decide +kernel
theorem dX2_firstAsked_13 : decode cX2_firstAsked 13 = .ok (.iload_n 3, 1) := by decide +kernel
theorem dX2_firstAsked_14 : decode cX2_firstAsked 14 = .ok (.sipush 200, 3) := by decide +kernel
theorem dX2_firstAsked_17 : decode cX2_firstAsked 17 = .ok (.if_icmp .ge 56, 3) := by decide +kernel
theorem dX2_firstAsked_20 : decode cX2_firstAsked 20 = .ok (.aload_n 0, 1) := by decide +kernel
theorem dX2_firstAsked_21 : decode cX2_firstAsked 21 = .ok (.getfield 9, 3) := by decide +kernel
theorem dX2_firstAsked_24 : decode cX2_firstAsked 24 = .ok (.aload_n 0, 1) := by decide +kernel
theorem dX2_firstAsked_25 : decode cX2_firstAsked 25 = .ok (.getfield 18, 3) := by decide +kernel
theorem dX2_firstAsked_28 : decode cX2_firstAsked 28 = .ok (.aload_n 1, 1) := by decide +kernel
theorem dX2_firstAsked_29 : decode cX2_firstAsked 29 = .ok (.getfield 35, 3) := by decide +kernel
theorem dX2_firstAsked_32 : decode cX2_firstAsked 32 = .ok (.iconst 1, 1) := by decide +kernel
theorem dX2_firstAsked_33 : decode cX2_firstAsked 33 = .ok (.invokevirtual 39, 3) := by decide +kernel
theorem dX2_firstAsked_36 : decode cX2_firstAsked 36 = .ok (.aload_n 0, 1) := by decide +kernel
theorem dX2_firstAsked_37 : decode cX2_firstAsked 37 = .ok (.getfield 18, 3) := by decide +kernel
theorem dX2_firstAsked_40 : decode cX2_firstAsked 40 = .ok (.getfield 45, 3) := by decide +kernel
theorem dX2_firstAsked_43 : decode cX2_firstAsked 43 = .ok (.iload_n 2, 1) := by decide +kernel
theorem dX2_firstAsked_44 : decode cX2_firstAsked 44 = .ok (.iaload, 1) := by decide +kernel
theorem dX2_firstAsked_45 : decode cX2_firstAsked 45 = .ok (.aload_n 1, 1) := by decide +kernel
theorem dX2_firstAsked_46 : decode cX2_firstAsked 46 = .ok (.getfield 26, 3) := by decide +kernel
theorem dX2_firstAsked_49 : decode cX2_firstAsked 49 = .ok (.getfield 45, 3) := by decide +kernel
theorem dX2_firstAsked_52 : decode cX2_firstAsked 52 = .ok (.iload_n 2, 1) := by decide +kernel
theorem dX2_firstAsked_53 : decode cX2_firstAsked 53 = .ok (.iaload, 1) := by decide +kernel
theorem dX2_firstAsked_54 : decode cX2_firstAsked 54 = .ok (.if_icmp .le 13, 3) := by decide +kernel
theorem dX2_firstAsked_57 : decode cX2_firstAsked 57 = .ok (.aload_n 1, 1) := by decide +kernel
theorem dX2_firstAsked_58 : decode cX2_firstAsked 58 = .ok (.getfield 26, 3) := by decide +kernel
theorem dX2_firstAsked_61 : decode cX2_firstAsked 61 = .ok (.getfield 48, 3) := by decide +kernel
theorem dX2_firstAsked_64 : decode cX2_firstAsked 64 = .ok (.iload_n 3, 1) := by decide +kernel
theorem dX2_firstAsked_65 : decode cX2_firstAsked 65 = .ok (.iadd, 1) := by decide +kernel
theorem dX2_firstAsked_66 : decode cX2_firstAsked 66 = .ok (.ireturn, 1) := by decide +kernel
theorem dX2_firstAsked_67 : decode cX2_firstAsked 67 = .ok (.iinc 3 1, 3) := by decide +kernel
theorem dX2_firstAsked_70 : decode cX2_firstAsked 70 = .ok (.goto (-57), 3) := by decide +kernel
theorem dX2_firstAsked_73 : decode cX2_firstAsked 73 = .ok (.bipush (-2), 2) := by decide +kernel
theorem dX2_firstAsked_75 : decode cX2_firstAsked 75 = .ok (.ireturn, 1) := by decide +kernel
theorem dX2_firstKnowing_0 : decode cX2_firstKnowing 0 = .ok (.iconst 1, 1) := by decide +kernel
theorem dX2_firstKnowing_1 : decode cX2_firstKnowing 1 = .ok (.aload_n 1, 1) := by decide +kernel
theorem dX2_firstKnowing_2 : decode cX2_firstKnowing 2 = .ok (.getfield 26, 3) := by decide +kernel
theorem dX2_firstKnowing_5 : decode cX2_firstKnowing 5 = .ok (.getfield 51, 3) := by decide +kernel
theorem dX2_firstKnowing_8 : decode cX2_firstKnowing 8 = .ok (.ishl, 1) := by decide +kernel
theorem dX2_firstKnowing_9 : decode cX2_firstKnowing 9 = .ok (.iconst 1, 1) := by decide +kernel
theorem dX2_firstKnowing_10 : decode cX2_firstKnowing 10 = .ok (.isub, 1) := by decide +kernel
theorem dX2_firstKnowing_11 : decode cX2_firstKnowing 11 = .ok (.istore_n 3, 1) := by decide +kernel
theorem dX2_firstKnowing_12 : decode cX2_firstKnowing 12 = .ok (.aload_n 0, 1) := by decide +kernel
theorem dX2_firstKnowing_13 : decode cX2_firstKnowing 13 = .ok (.getfield 18, 3) := by decide +kernel
theorem dX2_firstKnowing_16 : decode cX2_firstKnowing 16 = .ok (.aload_n 1, 1) := by decide +kernel
theorem dX2_firstKnowing_17 : decode cX2_firstKnowing 17 = .ok (.getfield 26, 3) := by decide +kernel
theorem dX2_firstKnowing_20 : decode cX2_firstKnowing 20 = .ok (.invokevirtual 31, 3) := by decide +kernel
theorem dX2_firstKnowing_23 : decode cX2_firstKnowing 23 = .ok (.iconst 0, 1) := by decide +kernel
theorem dX2_firstKnowing_24 : decode cX2_firstKnowing 24 = .ok (.istore 4, 2) := by decide +kernel
theorem dX2_firstKnowing_26 : decode cX2_firstKnowing 26 = .ok (.iload 4, 2) := by decide +kernel
theorem dX2_firstKnowing_28 : decode cX2_firstKnowing 28 = .ok (.sipush 200, 3) := by decide +kernel
theorem dX2_firstKnowing_31 : decode cX2_firstKnowing 31 = .ok (.if_icmp .gt 51, 3) := by decide +kernel
theorem dX2_firstKnowing_34 : decode cX2_firstKnowing 34 = .ok (.aload_n 0, 1) := by decide +kernel
theorem dX2_firstKnowing_35 : decode cX2_firstKnowing 35 = .ok (.getfield 18, 3) := by decide +kernel
theorem dX2_firstKnowing_38 : decode cX2_firstKnowing 38 = .ok (.getfield 54, 3) := by decide +kernel
theorem dX2_firstKnowing_41 : decode cX2_firstKnowing 41 = .ok (.iload_n 2, 1) := by decide +kernel
theorem dX2_firstKnowing_42 : decode cX2_firstKnowing 42 = .ok (.iaload, 1) := by decide +kernel
theorem dX2_firstKnowing_43 : decode cX2_firstKnowing 43 = .ok (.iload_n 3, 1) := by decide +kernel
theorem dX2_firstKnowing_44 : decode cX2_firstKnowing 44 = .ok (.if_icmp .ne 16, 3) := by decide +kernel
theorem dX2_firstKnowing_47 : decode cX2_firstKnowing 47 = .ok (.aload_n 1, 1) := by decide +kernel
theorem dX2_firstKnowing_48 : decode cX2_firstKnowing 48 = .ok (.getfield 26, 3) := by decide +kernel
theorem dX2_firstKnowing_51 : decode cX2_firstKnowing 51 = .ok (.getfield 48, 3) := by decide +kernel
theorem dX2_firstKnowing_54 : decode cX2_firstKnowing 54 = .ok (.iload 4, 2) := by decide +kernel
theorem dX2_firstKnowing_56 : decode cX2_firstKnowing 56 = .ok (.iadd, 1) := by decide +kernel
theorem dX2_firstKnowing_57 : decode cX2_firstKnowing 57 = .ok (.iconst 1, 1) := by decide +kernel
theorem dX2_firstKnowing_58 : decode cX2_firstKnowing 58 = .ok (.isub, 1) := by decide +kernel
theorem dX2_firstKnowing_59 : decode cX2_firstKnowing 59 = .ok (.ireturn, 1) := by decide +kernel
theorem dX2_firstKnowing_60 : decode cX2_firstKnowing 60 = .ok (.aload_n 0, 1) := by decide +kernel
theorem dX2_firstKnowing_61 : decode cX2_firstKnowing 61 = .ok (.getfield 9, 3) := by decide +kernel
theorem dX2_firstKnowing_64 : decode cX2_firstKnowing 64 = .ok (.aload_n 0, 1) := by decide +kernel
theorem dX2_firstKnowing_65 : decode cX2_firstKnowing 65 = .ok (.getfield 18, 3) := by decide +kernel
theorem dX2_firstKnowing_68 : decode cX2_firstKnowing 68 = .ok (.aload_n 1, 1) := by decide +kernel
theorem dX2_firstKnowing_69 : decode cX2_firstKnowing 69 = .ok (.getfield 35, 3) := by decide +kernel
theorem dX2_firstKnowing_72 : decode cX2_firstKnowing 72 = .ok (.iconst 1, 1) := by decide +kernel
theorem dX2_firstKnowing_73 : decode cX2_firstKnowing 73 = .ok (.invokevirtual 39, 3) := by decide +kernel
theorem dX2_firstKnowing_76 : decode cX2_firstKnowing 76 = .ok (.iinc 4 1, 3) := by decide +kernel
theorem dX2_firstKnowing_79 : decode cX2_firstKnowing 79 = .ok (.goto (-53), 3) := by decide +kernel
theorem dX2_firstKnowing_82 : decode cX2_firstKnowing 82 = .ok (.bipush (-2), 2) := by decide +kernel
theorem dX2_firstKnowing_84 : decode cX2_firstKnowing 84 = .ok (.ireturn, 1) := by decide +kernel
theorem dX2_findMostAsked_0 : decode cX2_findMostAsked 0 = .ok (.aload_n 0, 1) := by decide +kernel
theorem dX2_findMostAsked_1 : decode cX2_findMostAsked 1 = .ok (.getfield 18, 3) := by decide +kernel
theorem dX2_findMostAsked_4 : decode cX2_findMostAsked 4 = .ok (.aload_n 1, 1) := by decide +kernel
theorem dX2_findMostAsked_5 : decode cX2_findMostAsked 5 = .ok (.getfield 26, 3) := by decide +kernel
theorem dX2_findMostAsked_8 : decode cX2_findMostAsked 8 = .ok (.invokevirtual 31, 3) := by decide +kernel
theorem dX2_findMostAsked_11 : decode cX2_findMostAsked 11 = .ok (.aload_n 0, 1) := by decide +kernel
theorem dX2_findMostAsked_12 : decode cX2_findMostAsked 12 = .ok (.getfield 9, 3) := by decide +kernel
theorem dX2_findMostAsked_15 : decode cX2_findMostAsked 15 = .ok (.aload_n 0, 1) := by decide +kernel
theorem dX2_findMostAsked_16 : decode cX2_findMostAsked 16 = .ok (.getfield 18, 3) := by decide +kernel
theorem dX2_findMostAsked_19 : decode cX2_findMostAsked 19 = .ok (.aload_n 1, 1) := by decide +kernel
theorem dX2_findMostAsked_20 : decode cX2_findMostAsked 20 = .ok (.getfield 35, 3) := by decide +kernel
theorem dX2_findMostAsked_23 : decode cX2_findMostAsked 23 = .ok (.iload_n 2, 1) := by decide +kernel
theorem dX2_findMostAsked_24 : decode cX2_findMostAsked 24 = .ok (.invokevirtual 39, 3) := by decide +kernel
theorem dX2_findMostAsked_27 : decode cX2_findMostAsked 27 = .ok (.aload_n 0, 1) := by decide +kernel
theorem dX2_findMostAsked_28 : decode cX2_findMostAsked 28 = .ok (.bipush (-2), 2) := by decide +kernel
theorem dX2_findMostAsked_30 : decode cX2_findMostAsked 30 = .ok (.putfield 57, 3) := by decide +kernel
theorem dX2_findMostAsked_33 : decode cX2_findMostAsked 33 = .ok (.aload_n 0, 1) := by decide +kernel
theorem dX2_findMostAsked_34 : decode cX2_findMostAsked 34 = .ok (.iconst 0, 1) := by decide +kernel
theorem dX2_findMostAsked_35 : decode cX2_findMostAsked 35 = .ok (.putfield 60, 3) := by decide +kernel
theorem dX2_findMostAsked_38 : decode cX2_findMostAsked 38 = .ok (.iconst 0, 1) := by decide +kernel
theorem dX2_findMostAsked_39 : decode cX2_findMostAsked 39 = .ok (.istore_n 3, 1) := by decide +kernel
theorem dX2_findMostAsked_40 : decode cX2_findMostAsked 40 = .ok (.iload_n 3, 1) := by decide +kernel
theorem dX2_findMostAsked_41 : decode cX2_findMostAsked 41 = .ok (.aload_n 0, 1) := by decide +kernel
theorem dX2_findMostAsked_42 : decode cX2_findMostAsked 42 = .ok (.getfield 18, 3) := by decide +kernel
theorem dX2_findMostAsked_45 : decode cX2_findMostAsked 45 = .ok (.getfield 51, 3) := by decide +kernel
theorem dX2_findMostAsked_48 : decode cX2_findMostAsked 48 = .ok (.if_icmp .ge 59, 3) := by decide +kernel
theorem dX2_findMostAsked_51 : decode cX2_findMostAsked 51 = .ok (.aload_n 0, 1) := by decide +kernel
theorem dX2_findMostAsked_52 : decode cX2_findMostAsked 52 = .ok (.getfield 18, 3) := by decide +kernel
theorem dX2_findMostAsked_55 : decode cX2_findMostAsked 55 = .ok (.getfield 45, 3) := by decide +kernel
theorem dX2_findMostAsked_58 : decode cX2_findMostAsked 58 = .ok (.iload_n 3, 1) := by decide +kernel
theorem dX2_findMostAsked_59 : decode cX2_findMostAsked 59 = .ok (.iaload, 1) := by decide +kernel
theorem dX2_findMostAsked_60 : decode cX2_findMostAsked 60 = .ok (.aload_n 1, 1) := by decide +kernel
theorem dX2_findMostAsked_61 : decode cX2_findMostAsked 61 = .ok (.getfield 26, 3) := by decide +kernel
theorem dX2_findMostAsked_64 : decode cX2_findMostAsked 64 = .ok (.getfield 45, 3) := by decide +kernel
theorem dX2_findMostAsked_67 : decode cX2_findMostAsked 67 = .ok (.iload_n 3, 1) := by decide +kernel
theorem dX2_findMostAsked_68 : decode cX2_findMostAsked 68 = .ok (.iaload, 1) := by decide +kernel
theorem dX2_findMostAsked_69 : decode cX2_findMostAsked 69 = .ok (.isub, 1) := by decide +kernel
theorem dX2_findMostAsked_70 : decode cX2_findMostAsked 70 = .ok (.istore 4, 2) := by decide +kernel
theorem dX2_findMostAsked_72 : decode cX2_findMostAsked 72 = .ok (.aload_n 0, 1) := by decide +kernel
theorem dX2_findMostAsked_73 : decode cX2_findMostAsked 73 = .ok (.getfield 57, 3) := by decide +kernel
theorem dX2_findMostAsked_76 : decode cX2_findMostAsked 76 = .ok (.bipush (-2), 2) := by decide +kernel
theorem dX2_findMostAsked_78 : decode cX2_findMostAsked 78 = .ok (.if_icmp .eq 12, 3) := by decide +kernel
theorem dX2_findMostAsked_81 : decode cX2_findMostAsked 81 = .ok (.iload 4, 2) := by decide +kernel
theorem dX2_findMostAsked_83 : decode cX2_findMostAsked 83 = .ok (.aload_n 0, 1) := by decide +kernel
theorem dX2_findMostAsked_84 : decode cX2_findMostAsked 84 = .ok (.getfield 60, 3) := by decide +kernel
theorem dX2_findMostAsked_87 : decode cX2_findMostAsked 87 = .ok (.if_icmp .le 14, 3) := by decide +kernel
theorem dX2_findMostAsked_90 : decode cX2_findMostAsked 90 = .ok (.aload_n 0, 1) := by decide +kernel
theorem dX2_findMostAsked_91 : decode cX2_findMostAsked 91 = .ok (.iload_n 3, 1) := by decide +kernel
theorem dX2_findMostAsked_92 : decode cX2_findMostAsked 92 = .ok (.putfield 57, 3) := by decide +kernel
theorem dX2_findMostAsked_95 : decode cX2_findMostAsked 95 = .ok (.aload_n 0, 1) := by decide +kernel
theorem dX2_findMostAsked_96 : decode cX2_findMostAsked 96 = .ok (.iload 4, 2) := by decide +kernel
theorem dX2_findMostAsked_98 : decode cX2_findMostAsked 98 = .ok (.putfield 60, 3) := by decide +kernel
theorem dX2_findMostAsked_101 : decode cX2_findMostAsked 101 = .ok (.iinc 3 1, 3) := by decide +kernel
theorem dX2_findMostAsked_104 : decode cX2_findMostAsked 104 = .ok (.goto (-64), 3) := by decide +kernel
theorem dX2_findMostAsked_107 : decode cX2_findMostAsked 107 = .ok (.return_, 1) := by decide +kernel
theorem dX2_findHidingCell_0 : decode cX2_findHidingCell 0 = .ok (.aload_n 0, 1) := by decide +kernel
theorem dX2_findHidingCell_1 : decode cX2_findHidingCell 1 = .ok (.iconst (-1), 1) := by decide +kernel
theorem dX2_findHidingCell_2 : decode cX2_findHidingCell 2 = .ok (.putfield 57, 3) := by decide +kernel
theorem dX2_findHidingCell_5 : decode cX2_findHidingCell 5 = .ok (.aload_n 0, 1) := by decide +kernel
theorem dX2_findHidingCell_6 : decode cX2_findHidingCell 6 = .ok (.iconst 0, 1) := by decide +kernel
theorem dX2_findHidingCell_7 : decode cX2_findHidingCell 7 = .ok (.putfield 60, 3) := by decide +kernel
theorem dX2_findHidingCell_10 : decode cX2_findHidingCell 10 = .ok (.iconst 0, 1) := by decide +kernel
theorem dX2_findHidingCell_11 : decode cX2_findHidingCell 11 = .ok (.istore 4, 2) := by decide +kernel
theorem dX2_findHidingCell_13 : decode cX2_findHidingCell 13 = .ok (.iload 4, 2) := by decide +kernel
theorem dX2_findHidingCell_15 : decode cX2_findHidingCell 15 = .ok (.aload_n 1, 1) := by decide +kernel
theorem dX2_findHidingCell_16 : decode cX2_findHidingCell 16 = .ok (.getfield 26, 3) := by decide +kernel
theorem dX2_findHidingCell_19 : decode cX2_findHidingCell 19 = .ok (.getfield 63, 3) := by decide +kernel
theorem dX2_findHidingCell_22 : decode cX2_findHidingCell 22 = .ok (.if_icmp .ge 97, 3) := by decide +kernel
theorem dX2_findHidingCell_25 : decode cX2_findHidingCell 25 = .ok (.aload_n 0, 1) := by decide +kernel
theorem dX2_findHidingCell_26 : decode cX2_findHidingCell 26 = .ok (.getfield 18, 3) := by decide +kernel
theorem dX2_findHidingCell_29 : decode cX2_findHidingCell 29 = .ok (.aload_n 1, 1) := by decide +kernel
theorem dX2_findHidingCell_30 : decode cX2_findHidingCell 30 = .ok (.getfield 26, 3) := by decide +kernel
theorem dX2_findHidingCell_33 : decode cX2_findHidingCell 33 = .ok (.invokevirtual 31, 3) := by decide +kernel
theorem dX2_findHidingCell_36 : decode cX2_findHidingCell 36 = .ok (.aload_n 0, 1) := by decide +kernel
theorem dX2_findHidingCell_37 : decode cX2_findHidingCell 37 = .ok (.getfield 18, 3) := by decide +kernel
theorem dX2_findHidingCell_40 : decode cX2_findHidingCell 40 = .ok (.getfield 66, 3) := by decide +kernel
theorem dX2_findHidingCell_43 : decode cX2_findHidingCell 43 = .ok (.iload_n 2, 1) := by decide +kernel
theorem dX2_findHidingCell_44 : decode cX2_findHidingCell 44 = .ok (.iload 4, 2) := by decide +kernel
theorem dX2_findHidingCell_46 : decode cX2_findHidingCell 46 = .ok (.iastore, 1) := by decide +kernel
theorem dX2_findHidingCell_47 : decode cX2_findHidingCell 47 = .ok (.aload_n 0, 1) := by decide +kernel
theorem dX2_findHidingCell_48 : decode cX2_findHidingCell 48 = .ok (.getfield 9, 3) := by decide +kernel
theorem dX2_findHidingCell_51 : decode cX2_findHidingCell 51 = .ok (.aload_n 0, 1) := by decide +kernel
theorem dX2_findHidingCell_52 : decode cX2_findHidingCell 52 = .ok (.getfield 18, 3) := by decide +kernel
theorem dX2_findHidingCell_55 : decode cX2_findHidingCell 55 = .ok (.aload_n 1, 1) := by decide +kernel
theorem dX2_findHidingCell_56 : decode cX2_findHidingCell 56 = .ok (.getfield 35, 3) := by decide +kernel
theorem dX2_findHidingCell_59 : decode cX2_findHidingCell 59 = .ok (.iload_n 3, 1) := by decide +kernel
theorem dX2_findHidingCell_60 : decode cX2_findHidingCell 60 = .ok (.invokevirtual 39, 3) := by decide +kernel
theorem dX2_findHidingCell_63 : decode cX2_findHidingCell 63 = .ok (.aload_n 0, 1) := by decide +kernel
theorem dX2_findHidingCell_64 : decode cX2_findHidingCell 64 = .ok (.getfield 18, 3) := by decide +kernel
theorem dX2_findHidingCell_67 : decode cX2_findHidingCell 67 = .ok (.getfield 45, 3) := by decide +kernel
theorem dX2_findHidingCell_70 : decode cX2_findHidingCell 70 = .ok (.iload_n 2, 1) := by decide +kernel
theorem dX2_findHidingCell_71 : decode cX2_findHidingCell 71 = .ok (.iaload, 1) := by decide +kernel
theorem dX2_findHidingCell_72 : decode cX2_findHidingCell 72 = .ok (.aload_n 1, 1) := by decide +kernel
theorem dX2_findHidingCell_73 : decode cX2_findHidingCell 73 = .ok (.getfield 26, 3) := by decide +kernel
theorem dX2_findHidingCell_76 : decode cX2_findHidingCell 76 = .ok (.getfield 45, 3) := by decide +kernel
theorem dX2_findHidingCell_79 : decode cX2_findHidingCell 79 = .ok (.iload_n 2, 1) := by decide +kernel
theorem dX2_findHidingCell_80 : decode cX2_findHidingCell 80 = .ok (.iaload, 1) := by decide +kernel
theorem dX2_findHidingCell_81 : decode cX2_findHidingCell 81 = .ok (.isub, 1) := by decide +kernel
theorem dX2_findHidingCell_82 : decode cX2_findHidingCell 82 = .ok (.istore 5, 2) := by decide +kernel
theorem dX2_findHidingCell_84 : decode cX2_findHidingCell 84 = .ok (.aload_n 0, 1) := by decide +kernel
theorem dX2_findHidingCell_85 : decode cX2_findHidingCell 85 = .ok (.getfield 57, 3) := by decide +kernel
theorem dX2_findHidingCell_88 : decode cX2_findHidingCell 88 = .ok (.iconst (-1), 1) := by decide +kernel
theorem dX2_findHidingCell_89 : decode cX2_findHidingCell 89 = .ok (.if_icmp .eq 12, 3) := by decide +kernel
theorem dX2_findHidingCell_92 : decode cX2_findHidingCell 92 = .ok (.iload 5, 2) := by decide +kernel
theorem dX2_findHidingCell_94 : decode cX2_findHidingCell 94 = .ok (.aload_n 0, 1) := by decide +kernel
theorem dX2_findHidingCell_95 : decode cX2_findHidingCell 95 = .ok (.getfield 60, 3) := by decide +kernel
theorem dX2_findHidingCell_98 : decode cX2_findHidingCell 98 = .ok (.if_icmp .ge 15, 3) := by decide +kernel
theorem dX2_findHidingCell_101 : decode cX2_findHidingCell 101 = .ok (.aload_n 0, 1) := by decide +kernel
theorem dX2_findHidingCell_102 : decode cX2_findHidingCell 102 = .ok (.iload 4, 2) := by decide +kernel
theorem dX2_findHidingCell_104 : decode cX2_findHidingCell 104 = .ok (.putfield 57, 3) := by decide +kernel
theorem dX2_findHidingCell_107 : decode cX2_findHidingCell 107 = .ok (.aload_n 0, 1) := by decide +kernel
theorem dX2_findHidingCell_108 : decode cX2_findHidingCell 108 = .ok (.iload 5, 2) := by decide +kernel
theorem dX2_findHidingCell_110 : decode cX2_findHidingCell 110 = .ok (.putfield 60, 3) := by decide +kernel
theorem dX2_findHidingCell_113 : decode cX2_findHidingCell 113 = .ok (.iinc 4 1, 3) := by decide +kernel
theorem dX2_findHidingCell_116 : decode cX2_findHidingCell 116 = .ok (.goto (-103), 3) := by decide +kernel
theorem dX2_findHidingCell_119 : decode cX2_findHidingCell 119 = .ok (.return_, 1) := by decide +kernel
theorem dX2_findWhomToWake_0 : decode cX2_findWhomToWake 0 = .ok (.aload_n 0, 1) := by decide +kernel
theorem dX2_findWhomToWake_1 : decode cX2_findWhomToWake 1 = .ok (.iconst (-1), 1) := by decide +kernel
theorem dX2_findWhomToWake_2 : decode cX2_findWhomToWake 2 = .ok (.putfield 57, 3) := by decide +kernel
theorem dX2_findWhomToWake_5 : decode cX2_findWhomToWake 5 = .ok (.aload_n 0, 1) := by decide +kernel
theorem dX2_findWhomToWake_6 : decode cX2_findWhomToWake 6 = .ok (.iconst (-1), 1) := by decide +kernel
theorem dX2_findWhomToWake_7 : decode cX2_findWhomToWake 7 = .ok (.putfield 60, 3) := by decide +kernel
theorem dX2_findWhomToWake_10 : decode cX2_findWhomToWake 10 = .ok (.iconst (-1), 1) := by decide +kernel
theorem dX2_findWhomToWake_11 : decode cX2_findWhomToWake 11 = .ok (.istore_n 3, 1) := by decide +kernel
theorem dX2_findWhomToWake_12 : decode cX2_findWhomToWake 12 = .ok (.iload_n 3, 1) := by decide +kernel
theorem dX2_findWhomToWake_13 : decode cX2_findWhomToWake 13 = .ok (.aload_n 1, 1) := by decide +kernel
theorem dX2_findWhomToWake_14 : decode cX2_findWhomToWake 14 = .ok (.getfield 26, 3) := by decide +kernel
theorem dX2_findWhomToWake_17 : decode cX2_findWhomToWake 17 = .ok (.getfield 51, 3) := by decide +kernel
theorem dX2_findWhomToWake_20 : decode cX2_findWhomToWake 20 = .ok (.if_icmp .ge 100, 3) := by decide +kernel
theorem dX2_findWhomToWake_23 : decode cX2_findWhomToWake 23 = .ok (.aload_n 0, 1) := by decide +kernel
theorem dX2_findWhomToWake_24 : decode cX2_findWhomToWake 24 = .ok (.getfield 18, 3) := by decide +kernel
theorem dX2_findWhomToWake_27 : decode cX2_findWhomToWake 27 = .ok (.aload_n 1, 1) := by decide +kernel
theorem dX2_findWhomToWake_28 : decode cX2_findWhomToWake 28 = .ok (.getfield 26, 3) := by decide +kernel
theorem dX2_findWhomToWake_31 : decode cX2_findWhomToWake 31 = .ok (.invokevirtual 31, 3) := by decide +kernel
theorem dX2_findWhomToWake_34 : decode cX2_findWhomToWake 34 = .ok (.iload_n 3, 1) := by decide +kernel
theorem dX2_findWhomToWake_35 : decode cX2_findWhomToWake 35 = .ok (.iconst (-1), 1) := by decide +kernel
theorem dX2_findWhomToWake_36 : decode cX2_findWhomToWake 36 = .ok (.if_icmp .eq 16, 3) := by decide +kernel
theorem dX2_findWhomToWake_39 : decode cX2_findWhomToWake 39 = .ok (.aload_n 0, 1) := by decide +kernel
theorem dX2_findWhomToWake_40 : decode cX2_findWhomToWake 40 = .ok (.getfield 18, 3) := by decide +kernel
theorem dX2_findWhomToWake_43 : decode cX2_findWhomToWake 43 = .ok (.getfield 45, 3) := by decide +kernel
theorem dX2_findWhomToWake_46 : decode cX2_findWhomToWake 46 = .ok (.iload_n 3, 1) := by decide +kernel
theorem dX2_findWhomToWake_47 : decode cX2_findWhomToWake 47 = .ok (.dup2, 1) := by decide +kernel
theorem dX2_findWhomToWake_48 : decode cX2_findWhomToWake 48 = .ok (.iaload, 1) := by decide +kernel
theorem dX2_findWhomToWake_49 : decode cX2_findWhomToWake 49 = .ok (.iconst 1, 1) := by decide +kernel
theorem dX2_findWhomToWake_50 : decode cX2_findWhomToWake 50 = .ok (.iadd, 1) := by decide +kernel
theorem dX2_findWhomToWake_51 : decode cX2_findWhomToWake 51 = .ok (.iastore, 1) := by decide +kernel
theorem dX2_findWhomToWake_52 : decode cX2_findWhomToWake 52 = .ok (.aload_n 0, 1) := by decide +kernel
theorem dX2_findWhomToWake_53 : decode cX2_findWhomToWake 53 = .ok (.getfield 18, 3) := by decide +kernel
theorem dX2_findWhomToWake_56 : decode cX2_findWhomToWake 56 = .ok (.invokevirtual 69, 3) := by decide +kernel
theorem dX2_findWhomToWake_59 : decode cX2_findWhomToWake 59 = .ok (.istore 4, 2) := by decide +kernel
theorem dX2_findWhomToWake_61 : decode cX2_findWhomToWake 61 = .ok (.aload_n 0, 1) := by decide +kernel
theorem dX2_findWhomToWake_62 : decode cX2_findWhomToWake 62 = .ok (.getfield 9, 3) := by decide +kernel
theorem dX2_findWhomToWake_65 : decode cX2_findWhomToWake 65 = .ok (.aload_n 0, 1) := by decide +kernel
theorem dX2_findWhomToWake_66 : decode cX2_findWhomToWake 66 = .ok (.getfield 18, 3) := by decide +kernel
theorem dX2_findWhomToWake_69 : decode cX2_findWhomToWake 69 = .ok (.aload_n 1, 1) := by decide +kernel
theorem dX2_findWhomToWake_70 : decode cX2_findWhomToWake 70 = .ok (.getfield 35, 3) := by decide +kernel
theorem dX2_findWhomToWake_73 : decode cX2_findWhomToWake 73 = .ok (.iload_n 2, 1) := by decide +kernel
theorem dX2_findWhomToWake_74 : decode cX2_findWhomToWake 74 = .ok (.invokevirtual 39, 3) := by decide +kernel
theorem dX2_findWhomToWake_77 : decode cX2_findWhomToWake 77 = .ok (.aload_n 0, 1) := by decide +kernel
theorem dX2_findWhomToWake_78 : decode cX2_findWhomToWake 78 = .ok (.getfield 18, 3) := by decide +kernel
theorem dX2_findWhomToWake_81 : decode cX2_findWhomToWake 81 = .ok (.invokevirtual 69, 3) := by decide +kernel
theorem dX2_findWhomToWake_84 : decode cX2_findWhomToWake 84 = .ok (.iload 4, 2) := by decide +kernel
theorem dX2_findWhomToWake_86 : decode cX2_findWhomToWake 86 = .ok (.iconst (-1), 1) := by decide +kernel
theorem dX2_findWhomToWake_87 : decode cX2_findWhomToWake 87 = .ok (.ixor, 1) := by decide +kernel
theorem dX2_findWhomToWake_88 : decode cX2_findWhomToWake 88 = .ok (.iand, 1) := by decide +kernel
theorem dX2_findWhomToWake_89 : decode cX2_findWhomToWake 89 = .ok (.invokestatic 73, 3) := by decide +kernel
theorem dX2_findWhomToWake_92 : decode cX2_findWhomToWake 92 = .ok (.istore 5, 2) := by decide +kernel
theorem dX2_findWhomToWake_94 : decode cX2_findWhomToWake 94 = .ok (.iload 5, 2) := by decide +kernel
theorem dX2_findWhomToWake_96 : decode cX2_findWhomToWake 96 = .ok (.aload_n 0, 1) := by decide +kernel
theorem dX2_findWhomToWake_97 : decode cX2_findWhomToWake 97 = .ok (.getfield 60, 3) := by decide +kernel
theorem dX2_findWhomToWake_100 : decode cX2_findWhomToWake 100 = .ok (.if_icmp .le 14, 3) := by decide +kernel
theorem dX2_findWhomToWake_103 : decode cX2_findWhomToWake 103 = .ok (.aload_n 0, 1) := by decide +kernel
theorem dX2_findWhomToWake_104 : decode cX2_findWhomToWake 104 = .ok (.iload_n 3, 1) := by decide +kernel
theorem dX2_findWhomToWake_105 : decode cX2_findWhomToWake 105 = .ok (.putfield 57, 3) := by decide +kernel
theorem dX2_findWhomToWake_108 : decode cX2_findWhomToWake 108 = .ok (.aload_n 0, 1) := by decide +kernel
theorem dX2_findWhomToWake_109 : decode cX2_findWhomToWake 109 = .ok (.iload 5, 2) := by decide +kernel
theorem dX2_findWhomToWake_111 : decode cX2_findWhomToWake 111 = .ok (.putfield 60, 3) := by decide +kernel
theorem dX2_findWhomToWake_114 : decode cX2_findWhomToWake 114 = .ok (.iinc 3 1, 3) := by decide +kernel
theorem dX2_findWhomToWake_117 : decode cX2_findWhomToWake 117 = .ok (.goto (-105), 3) := by decide +kernel
theorem dX2_findWhomToWake_120 : decode cX2_findWhomToWake 120 = .ok (.return_, 1) := by decide +kernel
theorem dX2_findRing_0 : decode cX2_findRing 0 = .ok (.aload_n 0, 1) := by decide +kernel
theorem dX2_findRing_1 : decode cX2_findRing 1 = .ok (.getfield 18, 3) := by decide +kernel
theorem dX2_findRing_4 : decode cX2_findRing 4 = .ok (.aload_n 1, 1) := by decide +kernel
theorem dX2_findRing_5 : decode cX2_findRing 5 = .ok (.getfield 26, 3) := by decide +kernel
theorem dX2_findRing_8 : decode cX2_findRing 8 = .ok (.invokevirtual 31, 3) := by decide +kernel
theorem dX2_findRing_11 : decode cX2_findRing 11 = .ok (.iconst 0, 1) := by decide +kernel
theorem dX2_findRing_12 : decode cX2_findRing 12 = .ok (.istore_n 2, 1) := by decide +kernel
theorem dX2_findRing_13 : decode cX2_findRing 13 = .ok (.iload_n 2, 1) := by decide +kernel
theorem dX2_findRing_14 : decode cX2_findRing 14 = .ok (.aload_n 0, 1) := by decide +kernel
theorem dX2_findRing_15 : decode cX2_findRing 15 = .ok (.getfield 22, 3) := by decide +kernel
theorem dX2_findRing_18 : decode cX2_findRing 18 = .ok (.arraylength, 1) := by decide +kernel
theorem dX2_findRing_19 : decode cX2_findRing 19 = .ok (.if_icmp .ge 38, 3) := by decide +kernel
theorem dX2_findRing_22 : decode cX2_findRing 22 = .ok (.aload_n 0, 1) := by decide +kernel
theorem dX2_findRing_23 : decode cX2_findRing 23 = .ok (.getfield 22, 3) := by decide +kernel
theorem dX2_findRing_26 : decode cX2_findRing 26 = .ok (.iload_n 2, 1) := by decide +kernel
theorem dX2_findRing_27 : decode cX2_findRing 27 = .ok (.aload_n 0, 1) := by decide +kernel
theorem dX2_findRing_28 : decode cX2_findRing 28 = .ok (.getfield 18, 3) := by decide +kernel
theorem dX2_findRing_31 : decode cX2_findRing 31 = .ok (.getfield 79, 3) := by decide +kernel
theorem dX2_findRing_34 : decode cX2_findRing 34 = .ok (.iastore, 1) := by decide +kernel
theorem dX2_findRing_35 : decode cX2_findRing 35 = .ok (.aload_n 0, 1) := by decide +kernel
theorem dX2_findRing_36 : decode cX2_findRing 36 = .ok (.getfield 9, 3) := by decide +kernel
theorem dX2_findRing_39 : decode cX2_findRing 39 = .ok (.aload_n 0, 1) := by decide +kernel
theorem dX2_findRing_40 : decode cX2_findRing 40 = .ok (.getfield 18, 3) := by decide +kernel
theorem dX2_findRing_43 : decode cX2_findRing 43 = .ok (.aload_n 1, 1) := by decide +kernel
theorem dX2_findRing_44 : decode cX2_findRing 44 = .ok (.getfield 35, 3) := by decide +kernel
theorem dX2_findRing_47 : decode cX2_findRing 47 = .ok (.iconst 1, 1) := by decide +kernel
theorem dX2_findRing_48 : decode cX2_findRing 48 = .ok (.invokevirtual 39, 3) := by decide +kernel
theorem dX2_findRing_51 : decode cX2_findRing 51 = .ok (.iinc 2 1, 3) := by decide +kernel
theorem dX2_findRing_54 : decode cX2_findRing 54 = .ok (.goto (-41), 3) := by decide +kernel
theorem dX2_findRing_57 : decode cX2_findRing 57 = .ok (.aload_n 0, 1) := by decide +kernel
theorem dX2_findRing_58 : decode cX2_findRing 58 = .ok (.bipush (-2), 2) := by decide +kernel
theorem dX2_findRing_60 : decode cX2_findRing 60 = .ok (.putfield 57, 3) := by decide +kernel
theorem dX2_findRing_63 : decode cX2_findRing 63 = .ok (.aload_n 0, 1) := by decide +kernel
theorem dX2_findRing_64 : decode cX2_findRing 64 = .ok (.bipush (-2), 2) := by decide +kernel
theorem dX2_findRing_66 : decode cX2_findRing 66 = .ok (.putfield 60, 3) := by decide +kernel
theorem dX2_findRing_69 : decode cX2_findRing 69 = .ok (.iconst 0, 1) := by decide +kernel
theorem dX2_findRing_70 : decode cX2_findRing 70 = .ok (.istore_n 2, 1) := by decide +kernel
theorem dX2_findRing_71 : decode cX2_findRing 71 = .ok (.iload_n 2, 1) := by decide +kernel
theorem dX2_findRing_72 : decode cX2_findRing 72 = .ok (.bipush 60, 2) := by decide +kernel
theorem dX2_findRing_74 : decode cX2_findRing 74 = .ok (.if_icmp .ge 55, 3) := by decide +kernel
theorem dX2_findRing_77 : decode cX2_findRing 77 = .ok (.iload_n 2, 1) := by decide +kernel
theorem dX2_findRing_78 : decode cX2_findRing 78 = .ok (.iconst 1, 1) := by decide +kernel
theorem dX2_findRing_79 : decode cX2_findRing 79 = .ok (.iadd, 1) := by decide +kernel
theorem dX2_findRing_80 : decode cX2_findRing 80 = .ok (.istore_n 3, 1) := by decide +kernel
theorem dX2_findRing_81 : decode cX2_findRing 81 = .ok (.iload_n 3, 1) := by decide +kernel
theorem dX2_findRing_82 : decode cX2_findRing 82 = .ok (.bipush 60, 2) := by decide +kernel
theorem dX2_findRing_84 : decode cX2_findRing 84 = .ok (.if_icmp .gt 39, 3) := by decide +kernel
theorem dX2_findRing_87 : decode cX2_findRing 87 = .ok (.aload_n 0, 1) := by decide +kernel
theorem dX2_findRing_88 : decode cX2_findRing 88 = .ok (.iload_n 2, 1) := by decide +kernel
theorem dX2_findRing_89 : decode cX2_findRing 89 = .ok (.iload_n 3, 1) := by decide +kernel
theorem dX2_findRing_90 : decode cX2_findRing 90 = .ok (.invokevirtual 82, 3) := by decide +kernel
theorem dX2_findRing_93 : decode cX2_findRing 93 = .ok (.ifCond .eq 24, 3) := by decide +kernel
theorem dX2_findRing_96 : decode cX2_findRing 96 = .ok (.aload_n 0, 1) := by decide +kernel
theorem dX2_findRing_97 : decode cX2_findRing 97 = .ok (.aload_n 1, 1) := by decide +kernel
theorem dX2_findRing_98 : decode cX2_findRing 98 = .ok (.getfield 26, 3) := by decide +kernel
theorem dX2_findRing_101 : decode cX2_findRing 101 = .ok (.getfield 48, 3) := by decide +kernel
theorem dX2_findRing_104 : decode cX2_findRing 104 = .ok (.iload_n 2, 1) := by decide +kernel
theorem dX2_findRing_105 : decode cX2_findRing 105 = .ok (.iadd, 1) := by decide +kernel
theorem dX2_findRing_106 : decode cX2_findRing 106 = .ok (.putfield 57, 3) := by decide +kernel
theorem dX2_findRing_109 : decode cX2_findRing 109 = .ok (.aload_n 0, 1) := by decide +kernel
theorem dX2_findRing_110 : decode cX2_findRing 110 = .ok (.iload_n 3, 1) := by decide +kernel
theorem dX2_findRing_111 : decode cX2_findRing 111 = .ok (.iload_n 2, 1) := by decide +kernel
theorem dX2_findRing_112 : decode cX2_findRing 112 = .ok (.isub, 1) := by decide +kernel
theorem dX2_findRing_113 : decode cX2_findRing 113 = .ok (.putfield 60, 3) := by decide +kernel
theorem dX2_findRing_116 : decode cX2_findRing 116 = .ok (.return_, 1) := by decide +kernel
theorem dX2_findRing_117 : decode cX2_findRing 117 = .ok (.iinc 3 1, 3) := by decide +kernel
theorem dX2_findRing_120 : decode cX2_findRing 120 = .ok (.goto (-39), 3) := by decide +kernel
theorem dX2_findRing_123 : decode cX2_findRing 123 = .ok (.iinc 2 1, 3) := by decide +kernel
theorem dX2_findRing_126 : decode cX2_findRing 126 = .ok (.goto (-55), 3) := by decide +kernel
theorem dX2_findRing_129 : decode cX2_findRing 129 = .ok (.return_, 1) := by decide +kernel
theorem dX2_isAlike_0 : decode cX2_isAlike 0 = .ok (.iconst 0, 1) := by decide +kernel
theorem dX2_isAlike_1 : decode cX2_isAlike 1 = .ok (.istore_n 3, 1) := by decide +kernel
theorem dX2_isAlike_2 : decode cX2_isAlike 2 = .ok (.iload_n 3, 1) := by decide +kernel
theorem dX2_isAlike_3 : decode cX2_isAlike 3 = .ok (.iconst 5, 1) := by decide +kernel
theorem dX2_isAlike_4 : decode cX2_isAlike 4 = .ok (.if_icmp .gt 41, 3) := by decide +kernel
theorem dX2_isAlike_7 : decode cX2_isAlike 7 = .ok (.iload_n 2, 1) := by decide +kernel
theorem dX2_isAlike_8 : decode cX2_isAlike 8 = .ok (.iload_n 3, 1) := by decide +kernel
theorem dX2_isAlike_9 : decode cX2_isAlike 9 = .ok (.iadd, 1) := by decide +kernel
theorem dX2_isAlike_10 : decode cX2_isAlike 10 = .ok (.aload_n 0, 1) := by decide +kernel
theorem dX2_isAlike_11 : decode cX2_isAlike 11 = .ok (.getfield 22, 3) := by decide +kernel
theorem dX2_isAlike_14 : decode cX2_isAlike 14 = .ok (.arraylength, 1) := by decide +kernel
theorem dX2_isAlike_15 : decode cX2_isAlike 15 = .ok (.if_icmp .ge 30, 3) := by decide +kernel
theorem dX2_isAlike_18 : decode cX2_isAlike 18 = .ok (.aload_n 0, 1) := by decide +kernel
theorem dX2_isAlike_19 : decode cX2_isAlike 19 = .ok (.getfield 22, 3) := by decide +kernel
theorem dX2_isAlike_22 : decode cX2_isAlike 22 = .ok (.iload_n 1, 1) := by decide +kernel
theorem dX2_isAlike_23 : decode cX2_isAlike 23 = .ok (.iload_n 3, 1) := by decide +kernel
theorem dX2_isAlike_24 : decode cX2_isAlike 24 = .ok (.iadd, 1) := by decide +kernel
theorem dX2_isAlike_25 : decode cX2_isAlike 25 = .ok (.iaload, 1) := by decide +kernel
theorem dX2_isAlike_26 : decode cX2_isAlike 26 = .ok (.aload_n 0, 1) := by decide +kernel
theorem dX2_isAlike_27 : decode cX2_isAlike 27 = .ok (.getfield 22, 3) := by decide +kernel
theorem dX2_isAlike_30 : decode cX2_isAlike 30 = .ok (.iload_n 2, 1) := by decide +kernel
theorem dX2_isAlike_31 : decode cX2_isAlike 31 = .ok (.iload_n 3, 1) := by decide +kernel
theorem dX2_isAlike_32 : decode cX2_isAlike 32 = .ok (.iadd, 1) := by decide +kernel
theorem dX2_isAlike_33 : decode cX2_isAlike 33 = .ok (.iaload, 1) := by decide +kernel
theorem dX2_isAlike_34 : decode cX2_isAlike 34 = .ok (.if_icmp .eq 5, 3) := by decide +kernel
theorem dX2_isAlike_37 : decode cX2_isAlike 37 = .ok (.iconst 0, 1) := by decide +kernel
theorem dX2_isAlike_38 : decode cX2_isAlike 38 = .ok (.ireturn, 1) := by decide +kernel
theorem dX2_isAlike_39 : decode cX2_isAlike 39 = .ok (.iinc 3 1, 3) := by decide +kernel
theorem dX2_isAlike_42 : decode cX2_isAlike 42 = .ok (.goto (-40), 3) := by decide +kernel
theorem dX2_isAlike_45 : decode cX2_isAlike 45 = .ok (.iconst 1, 1) := by decide +kernel
theorem dX2_isAlike_46 : decode cX2_isAlike 46 = .ok (.ireturn, 1) := by decide +kernel
theorem dX2_blow_0 : decode cX2_blow 0 = .ok (.aload_n 0, 1) := by decide +kernel
theorem dX2_blow_1 : decode cX2_blow 1 = .ok (.aload_n 1, 1) := by decide +kernel
theorem dX2_blow_2 : decode cX2_blow 2 = .ok (.getfield 86, 3) := by decide +kernel
theorem dX2_blow_5 : decode cX2_blow 5 = .ok (.i2l, 1) := by decide +kernel
theorem dX2_blow_6 : decode cX2_blow 6 = .ok (.putfield 89, 3) := by decide +kernel
theorem dX2_blow_9 : decode cX2_blow 9 = .ok (.aload_n 0, 1) := by decide +kernel
theorem dX2_blow_10 : decode cX2_blow 10 = .ok (.iconst 0, 1) := by decide +kernel
theorem dX2_blow_11 : decode cX2_blow 11 = .ok (.putfield 60, 3) := by decide +kernel
theorem dX2_blow_14 : decode cX2_blow 14 = .ok (.aload_n 0, 1) := by decide +kernel
theorem dX2_blow_15 : decode cX2_blow 15 = .ok (.iconst 0, 1) := by decide +kernel
theorem dX2_blow_16 : decode cX2_blow 16 = .ok (.putfield 93, 3) := by decide +kernel
theorem dX2_blow_19 : decode cX2_blow 19 = .ok (.aload_n 1, 1) := by decide +kernel
theorem dX2_blow_20 : decode cX2_blow 20 = .ok (.getfield 26, 3) := by decide +kernel
theorem dX2_blow_23 : decode cX2_blow 23 = .ok (.invokevirtual 96, 3) := by decide +kernel
theorem dX2_blow_26 : decode cX2_blow 26 = .ok (.istore 5, 2) := by decide +kernel
theorem dX2_blow_28 : decode cX2_blow 28 = .ok (.iconst 0, 1) := by decide +kernel
theorem dX2_blow_29 : decode cX2_blow 29 = .ok (.istore 6, 2) := by decide +kernel
theorem dX2_blow_31 : decode cX2_blow 31 = .ok (.iload 6, 2) := by decide +kernel
theorem dX2_blow_33 : decode cX2_blow 33 = .ok (.iload_n 2, 1) := by decide +kernel
theorem dX2_blow_34 : decode cX2_blow 34 = .ok (.if_icmp .ge 95, 3) := by decide +kernel
theorem dX2_blow_37 : decode cX2_blow 37 = .ok (.aload_n 0, 1) := by decide +kernel
theorem dX2_blow_38 : decode cX2_blow 38 = .ok (.getfield 18, 3) := by decide +kernel
theorem dX2_blow_41 : decode cX2_blow 41 = .ok (.aload_n 1, 1) := by decide +kernel
theorem dX2_blow_42 : decode cX2_blow 42 = .ok (.getfield 26, 3) := by decide +kernel
theorem dX2_blow_45 : decode cX2_blow 45 = .ok (.invokevirtual 31, 3) := by decide +kernel
theorem dX2_blow_48 : decode cX2_blow 48 = .ok (.iconst 0, 1) := by decide +kernel
theorem dX2_blow_49 : decode cX2_blow 49 = .ok (.istore 7, 2) := by decide +kernel
theorem dX2_blow_51 : decode cX2_blow 51 = .ok (.iload 7, 2) := by decide +kernel
theorem dX2_blow_53 : decode cX2_blow 53 = .ok (.iload_n 3, 1) := by decide +kernel
theorem dX2_blow_54 : decode cX2_blow 54 = .ok (.if_icmp .ge 31, 3) := by decide +kernel
theorem dX2_blow_57 : decode cX2_blow 57 = .ok (.aload_n 0, 1) := by decide +kernel
theorem dX2_blow_58 : decode cX2_blow 58 = .ok (.iload 4, 2) := by decide +kernel
theorem dX2_blow_60 : decode cX2_blow 60 = .ok (.invokevirtual 99, 3) := by decide +kernel
theorem dX2_blow_63 : decode cX2_blow 63 = .ok (.aload_n 0, 1) := by decide +kernel
theorem dX2_blow_64 : decode cX2_blow 64 = .ok (.getfield 9, 3) := by decide +kernel
theorem dX2_blow_67 : decode cX2_blow 67 = .ok (.aload_n 0, 1) := by decide +kernel
theorem dX2_blow_68 : decode cX2_blow 68 = .ok (.getfield 18, 3) := by decide +kernel
theorem dX2_blow_71 : decode cX2_blow 71 = .ok (.aload_n 1, 1) := by decide +kernel
theorem dX2_blow_72 : decode cX2_blow 72 = .ok (.getfield 35, 3) := by decide +kernel
theorem dX2_blow_75 : decode cX2_blow 75 = .ok (.iconst 1, 1) := by decide +kernel
theorem dX2_blow_76 : decode cX2_blow 76 = .ok (.invokevirtual 39, 3) := by decide +kernel
theorem dX2_blow_79 : decode cX2_blow 79 = .ok (.iinc 7 1, 3) := by decide +kernel
theorem dX2_blow_82 : decode cX2_blow 82 = .ok (.goto (-31), 3) := by decide +kernel
theorem dX2_blow_85 : decode cX2_blow 85 = .ok (.aload_n 0, 1) := by decide +kernel
theorem dX2_blow_86 : decode cX2_blow 86 = .ok (.dup, 1) := by decide +kernel
theorem dX2_blow_87 : decode cX2_blow 87 = .ok (.getfield 60, 3) := by decide +kernel
theorem dX2_blow_90 : decode cX2_blow 90 = .ok (.aload_n 0, 1) := by decide +kernel
theorem dX2_blow_91 : decode cX2_blow 91 = .ok (.getfield 18, 3) := by decide +kernel
theorem dX2_blow_94 : decode cX2_blow 94 = .ok (.invokevirtual 96, 3) := by decide +kernel
theorem dX2_blow_97 : decode cX2_blow 97 = .ok (.iload 5, 2) := by decide +kernel
theorem dX2_blow_99 : decode cX2_blow 99 = .ok (.isub, 1) := by decide +kernel
theorem dX2_blow_100 : decode cX2_blow 100 = .ok (.iadd, 1) := by decide +kernel
theorem dX2_blow_101 : decode cX2_blow 101 = .ok (.putfield 60, 3) := by decide +kernel
theorem dX2_blow_104 : decode cX2_blow 104 = .ok (.aload_n 0, 1) := by decide +kernel
theorem dX2_blow_105 : decode cX2_blow 105 = .ok (.dup, 1) := by decide +kernel
theorem dX2_blow_106 : decode cX2_blow 106 = .ok (.getfield 93, 3) := by decide +kernel
theorem dX2_blow_109 : decode cX2_blow 109 = .ok (.aload_n 0, 1) := by decide +kernel
theorem dX2_blow_110 : decode cX2_blow 110 = .ok (.getfield 18, 3) := by decide +kernel
theorem dX2_blow_113 : decode cX2_blow 113 = .ok (.getfield 103, 3) := by decide +kernel
theorem dX2_blow_116 : decode cX2_blow 116 = .ok (.invokestatic 73, 3) := by decide +kernel
theorem dX2_blow_119 : decode cX2_blow 119 = .ok (.iadd, 1) := by decide +kernel
theorem dX2_blow_120 : decode cX2_blow 120 = .ok (.putfield 93, 3) := by decide +kernel
theorem dX2_blow_123 : decode cX2_blow 123 = .ok (.iinc 6 1, 3) := by decide +kernel
theorem dX2_blow_126 : decode cX2_blow 126 = .ok (.goto (-95), 3) := by decide +kernel
theorem dX2_blow_129 : decode cX2_blow 129 = .ok (.return_, 1) := by decide +kernel
theorem dX2_drift_0 : decode cX2_drift 0 = .ok (.aload_n 0, 1) := by decide +kernel
theorem dX2_drift_1 : decode cX2_drift 1 = .ok (.invokevirtual 106, 3) := by decide +kernel
theorem dX2_drift_4 : decode cX2_drift 4 = .ok (.bipush 100, 2) := by decide +kernel
theorem dX2_drift_6 : decode cX2_drift 6 = .ok (.irem, 1) := by decide +kernel
theorem dX2_drift_7 : decode cX2_drift 7 = .ok (.iload_n 1, 1) := by decide +kernel
theorem dX2_drift_8 : decode cX2_drift 8 = .ok (.if_icmp .ge 37, 3) := by decide +kernel
theorem dX2_drift_11 : decode cX2_drift 11 = .ok (.aload_n 0, 1) := by decide +kernel
theorem dX2_drift_12 : decode cX2_drift 12 = .ok (.getfield 18, 3) := by decide +kernel
theorem dX2_drift_15 : decode cX2_drift 15 = .ok (.aload_n 0, 1) := by decide +kernel
theorem dX2_drift_16 : decode cX2_drift 16 = .ok (.getfield 18, 3) := by decide +kernel
theorem dX2_drift_19 : decode cX2_drift 19 = .ok (.getfield 79, 3) := by decide +kernel
theorem dX2_drift_22 : decode cX2_drift 22 = .ok (.aload_n 0, 1) := by decide +kernel
theorem dX2_drift_23 : decode cX2_drift 23 = .ok (.invokevirtual 106, 3) := by decide +kernel
theorem dX2_drift_26 : decode cX2_drift 26 = .ok (.iconst 4, 1) := by decide +kernel
theorem dX2_drift_27 : decode cX2_drift 27 = .ok (.irem, 1) := by decide +kernel
theorem dX2_drift_28 : decode cX2_drift 28 = .ok (.invokevirtual 109, 3) := by decide +kernel
theorem dX2_drift_31 : decode cX2_drift 31 = .ok (.istore_n 2, 1) := by decide +kernel
theorem dX2_drift_32 : decode cX2_drift 32 = .ok (.iload_n 2, 1) := by decide +kernel
theorem dX2_drift_33 : decode cX2_drift 33 = .ok (.iconst (-1), 1) := by decide +kernel
theorem dX2_drift_34 : decode cX2_drift 34 = .ok (.if_icmp .eq 11, 3) := by decide +kernel
theorem dX2_drift_37 : decode cX2_drift 37 = .ok (.aload_n 0, 1) := by decide +kernel
theorem dX2_drift_38 : decode cX2_drift 38 = .ok (.getfield 18, 3) := by decide +kernel
theorem dX2_drift_41 : decode cX2_drift 41 = .ok (.iload_n 2, 1) := by decide +kernel
theorem dX2_drift_42 : decode cX2_drift 42 = .ok (.putfield 79, 3) := by decide +kernel
theorem dX2_drift_45 : decode cX2_drift 45 = .ok (.return_, 1) := by decide +kernel
theorem dX2_nextDraw_0 : decode cX2_nextDraw 0 = .ok (.aload_n 0, 1) := by decide +kernel
theorem dX2_nextDraw_1 : decode cX2_nextDraw 1 = .ok (.aload_n 0, 1) := by decide +kernel
theorem dX2_nextDraw_2 : decode cX2_nextDraw 2 = .ok (.getfield 89, 3) := by decide +kernel
theorem dX2_nextDraw_5 : decode cX2_nextDraw 5 = .ok (.ldc2_w 113, 3) := by decide +kernel
theorem dX2_nextDraw_8 : decode cX2_nextDraw 8 = .ok (.lmul, 1) := by decide +kernel
theorem dX2_nextDraw_9 : decode cX2_nextDraw 9 = .ok (.ldc2_w 115, 3) := by decide +kernel
theorem dX2_nextDraw_12 : decode cX2_nextDraw 12 = .ok (.ladd, 1) := by decide +kernel
theorem dX2_nextDraw_13 : decode cX2_nextDraw 13 = .ok (.ldc2_w 117, 3) := by decide +kernel
theorem dX2_nextDraw_16 : decode cX2_nextDraw 16 = .ok (.lrem, 1) := by decide +kernel
theorem dX2_nextDraw_17 : decode cX2_nextDraw 17 = .ok (.putfield 89, 3) := by decide +kernel
theorem dX2_nextDraw_20 : decode cX2_nextDraw 20 = .ok (.aload_n 0, 1) := by decide +kernel
theorem dX2_nextDraw_21 : decode cX2_nextDraw 21 = .ok (.getfield 89, 3) := by decide +kernel
theorem dX2_nextDraw_24 : decode cX2_nextDraw 24 = .ok (.ldc2_w 119, 3) := by decide +kernel
theorem dX2_nextDraw_27 : decode cX2_nextDraw 27 = .ok (.ldiv, 1) := by decide +kernel
theorem dX2_nextDraw_28 : decode cX2_nextDraw 28 = .ok (.l2i, 1) := by decide +kernel
theorem dX2_nextDraw_29 : decode cX2_nextDraw 29 = .ok (.ireturn, 1) := by decide +kernel
theorem dX3_ofWord_0 : decode cX3_ofWord 0 = .ok (.aload_n 0, 1) := by decide +kernel
theorem dX3_ofWord_1 : decode cX3_ofWord 1 = .ok (.ldc 7, 2) := by decide +kernel
theorem dX3_ofWord_3 : decode cX3_ofWord 3 = .ok (.invokevirtual 9, 3) := by decide +kernel
theorem dX3_ofWord_6 : decode cX3_ofWord 6 = .ok (.ifCond .eq 5, 3) := by decide +kernel
theorem dX3_ofWord_9 : decode cX3_ofWord 9 = .ok (.iconst (-1), 1) := by decide +kernel
theorem dX3_ofWord_10 : decode cX3_ofWord 10 = .ok (.ireturn, 1) := by decide +kernel
theorem dX3_ofWord_11 : decode cX3_ofWord 11 = .ok (.aload_n 0, 1) := by decide +kernel
theorem dX3_ofWord_12 : decode cX3_ofWord 12 = .ok (.ldc 17, 2) := by decide +kernel
theorem dX3_ofWord_14 : decode cX3_ofWord 14 = .ok (.invokevirtual 9, 3) := by decide +kernel
theorem dX3_ofWord_17 : decode cX3_ofWord 17 = .ok (.ifCond .eq 6, 3) := by decide +kernel
theorem dX3_ofWord_20 : decode cX3_ofWord 20 = .ok (.bipush (-2), 2) := by decide +kernel
theorem dX3_ofWord_22 : decode cX3_ofWord 22 = .ok (.ireturn, 1) := by decide +kernel
theorem dX3_ofWord_23 : decode cX3_ofWord 23 = .ok (.aload_n 0, 1) := by decide +kernel
theorem dX3_ofWord_24 : decode cX3_ofWord 24 = .ok (.ldc 19, 2) := by decide +kernel
theorem dX3_ofWord_26 : decode cX3_ofWord 26 = .ok (.invokevirtual 9, 3) := by decide +kernel
theorem dX3_ofWord_29 : decode cX3_ofWord 29 = .ok (.ifCond .eq 6, 3) := by decide +kernel
theorem dX3_ofWord_32 : decode cX3_ofWord 32 = .ok (.bipush (-3), 2) := by decide +kernel
theorem dX3_ofWord_34 : decode cX3_ofWord 34 = .ok (.ireturn, 1) := by decide +kernel
theorem dX3_ofWord_35 : decode cX3_ofWord 35 = .ok (.aload_n 0, 1) := by decide +kernel
theorem dX3_ofWord_36 : decode cX3_ofWord 36 = .ok (.ldc 21, 2) := by decide +kernel
theorem dX3_ofWord_38 : decode cX3_ofWord 38 = .ok (.invokevirtual 9, 3) := by decide +kernel
theorem dX3_ofWord_41 : decode cX3_ofWord 41 = .ok (.ifCond .eq 6, 3) := by decide +kernel
theorem dX3_ofWord_44 : decode cX3_ofWord 44 = .ok (.bipush (-4), 2) := by decide +kernel
theorem dX3_ofWord_46 : decode cX3_ofWord 46 = .ok (.ireturn, 1) := by decide +kernel
theorem dX3_ofWord_47 : decode cX3_ofWord 47 = .ok (.aload_n 0, 1) := by decide +kernel
theorem dX3_ofWord_48 : decode cX3_ofWord 48 = .ok (.ldc 23, 2) := by decide +kernel
theorem dX3_ofWord_50 : decode cX3_ofWord 50 = .ok (.invokevirtual 9, 3) := by decide +kernel
theorem dX3_ofWord_53 : decode cX3_ofWord 53 = .ok (.ifCond .eq 6, 3) := by decide +kernel
theorem dX3_ofWord_56 : decode cX3_ofWord 56 = .ok (.bipush (-5), 2) := by decide +kernel
theorem dX3_ofWord_58 : decode cX3_ofWord 58 = .ok (.ireturn, 1) := by decide +kernel
theorem dX3_ofWord_59 : decode cX3_ofWord 59 = .ok (.aload_n 0, 1) := by decide +kernel
theorem dX3_ofWord_60 : decode cX3_ofWord 60 = .ok (.ldc 25, 2) := by decide +kernel
theorem dX3_ofWord_62 : decode cX3_ofWord 62 = .ok (.invokevirtual 9, 3) := by decide +kernel
theorem dX3_ofWord_65 : decode cX3_ofWord 65 = .ok (.ifCond .eq 6, 3) := by decide +kernel
theorem dX3_ofWord_68 : decode cX3_ofWord 68 = .ok (.bipush (-6), 2) := by decide +kernel
theorem dX3_ofWord_70 : decode cX3_ofWord 70 = .ok (.ireturn, 1) := by decide +kernel
theorem dX3_ofWord_71 : decode cX3_ofWord 71 = .ok (.aload_n 0, 1) := by decide +kernel
theorem dX3_ofWord_72 : decode cX3_ofWord 72 = .ok (.ldc 27, 2) := by decide +kernel
theorem dX3_ofWord_74 : decode cX3_ofWord 74 = .ok (.invokevirtual 9, 3) := by decide +kernel
theorem dX3_ofWord_77 : decode cX3_ofWord 77 = .ok (.ifCond .eq 6, 3) := by decide +kernel
theorem dX3_ofWord_80 : decode cX3_ofWord 80 = .ok (.bipush (-7), 2) := by decide +kernel
theorem dX3_ofWord_82 : decode cX3_ofWord 82 = .ok (.ireturn, 1) := by decide +kernel
theorem dX3_ofWord_83 : decode cX3_ofWord 83 = .ok (.aload_n 0, 1) := by decide +kernel
theorem dX3_ofWord_84 : decode cX3_ofWord 84 = .ok (.ldc 29, 2) := by decide +kernel
theorem dX3_ofWord_86 : decode cX3_ofWord 86 = .ok (.invokevirtual 9, 3) := by decide +kernel
theorem dX3_ofWord_89 : decode cX3_ofWord 89 = .ok (.ifCond .eq 6, 3) := by decide +kernel
theorem dX3_ofWord_92 : decode cX3_ofWord 92 = .ok (.bipush (-8), 2) := by decide +kernel
theorem dX3_ofWord_94 : decode cX3_ofWord 94 = .ok (.ireturn, 1) := by decide +kernel
theorem dX3_ofWord_95 : decode cX3_ofWord 95 = .ok (.aload_n 0, 1) := by decide +kernel
theorem dX3_ofWord_96 : decode cX3_ofWord 96 = .ok (.ldc 31, 2) := by decide +kernel
theorem dX3_ofWord_98 : decode cX3_ofWord 98 = .ok (.invokevirtual 9, 3) := by decide +kernel
theorem dX3_ofWord_101 : decode cX3_ofWord 101 = .ok (.ifCond .eq 6, 3) := by decide +kernel
theorem dX3_ofWord_104 : decode cX3_ofWord 104 = .ok (.bipush (-9), 2) := by decide +kernel
theorem dX3_ofWord_106 : decode cX3_ofWord 106 = .ok (.ireturn, 1) := by decide +kernel
theorem dX3_ofWord_107 : decode cX3_ofWord 107 = .ok (.aload_n 0, 1) := by decide +kernel
theorem dX3_ofWord_108 : decode cX3_ofWord 108 = .ok (.ldc 33, 2) := by decide +kernel
theorem dX3_ofWord_110 : decode cX3_ofWord 110 = .ok (.invokevirtual 9, 3) := by decide +kernel
theorem dX3_ofWord_113 : decode cX3_ofWord 113 = .ok (.ifCond .eq 6, 3) := by decide +kernel
theorem dX3_ofWord_116 : decode cX3_ofWord 116 = .ok (.bipush (-10), 2) := by decide +kernel
theorem dX3_ofWord_118 : decode cX3_ofWord 118 = .ok (.ireturn, 1) := by decide +kernel
theorem dX3_ofWord_119 : decode cX3_ofWord 119 = .ok (.aload_n 0, 1) := by decide +kernel
theorem dX3_ofWord_120 : decode cX3_ofWord 120 = .ok (.ldc 35, 2) := by decide +kernel
theorem dX3_ofWord_122 : decode cX3_ofWord 122 = .ok (.invokevirtual 9, 3) := by decide +kernel
theorem dX3_ofWord_125 : decode cX3_ofWord 125 = .ok (.ifCond .eq 8, 3) := by decide +kernel
theorem dX3_ofWord_128 : decode cX3_ofWord 128 = .ok (.bipush (-11), 2) := by decide +kernel
theorem dX3_ofWord_130 : decode cX3_ofWord 130 = .ok (.goto 4, 3) := by decide +kernel
theorem dX3_ofWord_133 : decode cX3_ofWord 133 = .ok (.iconst 0, 1) := by decide +kernel
theorem dX3_ofWord_134 : decode cX3_ofWord 134 = .ok (.ireturn, 1) := by decide +kernel
theorem dX3_ofMultiplying_0 : decode cX3_ofMultiplying 0 = .ok (.iload_n 0, 1) := by decide +kernel
theorem dX3_ofMultiplying_1 : decode cX3_ofMultiplying 1 = .ok (.lookupswitch 44 #[(37, 41), (42, 35), (47, 38)], 35) := by decide +kernel
theorem dX3_ofMultiplying_36 : decode cX3_ofMultiplying 36 = .ok (.bipush (-22), 2) := by decide +kernel
theorem dX3_ofMultiplying_38 : decode cX3_ofMultiplying 38 = .ok (.ireturn, 1) := by decide +kernel
theorem dX3_ofMultiplying_39 : decode cX3_ofMultiplying 39 = .ok (.bipush (-23), 2) := by decide +kernel
theorem dX3_ofMultiplying_41 : decode cX3_ofMultiplying 41 = .ok (.ireturn, 1) := by decide +kernel
theorem dX3_ofMultiplying_42 : decode cX3_ofMultiplying 42 = .ok (.bipush (-24), 2) := by decide +kernel
theorem dX3_ofMultiplying_44 : decode cX3_ofMultiplying 44 = .ok (.ireturn, 1) := by decide +kernel
theorem dX3_ofMultiplying_45 : decode cX3_ofMultiplying 45 = .ok (.iconst 0, 1) := by decide +kernel
theorem dX3_ofMultiplying_46 : decode cX3_ofMultiplying 46 = .ok (.ireturn, 1) := by decide +kernel
theorem dX3_ofAdding_0 : decode cX3_ofAdding 0 = .ok (.iload_n 0, 1) := by decide +kernel
theorem dX3_ofAdding_1 : decode cX3_ofAdding 1 = .ok (.lookupswitch 33 #[(43, 27), (45, 30)], 27) := by decide +kernel
theorem dX3_ofAdding_28 : decode cX3_ofAdding 28 = .ok (.bipush (-20), 2) := by decide +kernel
theorem dX3_ofAdding_30 : decode cX3_ofAdding 30 = .ok (.ireturn, 1) := by decide +kernel
theorem dX3_ofAdding_31 : decode cX3_ofAdding 31 = .ok (.bipush (-21), 2) := by decide +kernel
theorem dX3_ofAdding_33 : decode cX3_ofAdding 33 = .ok (.ireturn, 1) := by decide +kernel
theorem dX3_ofAdding_34 : decode cX3_ofAdding 34 = .ok (.iconst 0, 1) := by decide +kernel
theorem dX3_ofAdding_35 : decode cX3_ofAdding 35 = .ok (.ireturn, 1) := by decide +kernel
theorem dX3_ofSign_0 : decode cX3_ofSign 0 = .ok (.iload_n 0, 1) := by decide +kernel
theorem dX3_ofSign_1 : decode cX3_ofSign 1 = .ok (.tableswitch 36 60 62 #[27, 30, 33], 27) := by decide +kernel
theorem dX3_ofSign_28 : decode cX3_ofSign 28 = .ok (.bipush (-25), 2) := by decide +kernel
theorem dX3_ofSign_30 : decode cX3_ofSign 30 = .ok (.ireturn, 1) := by decide +kernel
theorem dX3_ofSign_31 : decode cX3_ofSign 31 = .ok (.bipush (-27), 2) := by decide +kernel
theorem dX3_ofSign_33 : decode cX3_ofSign 33 = .ok (.ireturn, 1) := by decide +kernel
theorem dX3_ofSign_34 : decode cX3_ofSign 34 = .ok (.bipush (-29), 2) := by decide +kernel
theorem dX3_ofSign_36 : decode cX3_ofSign 36 = .ok (.ireturn, 1) := by decide +kernel
theorem dX3_ofSign_37 : decode cX3_ofSign 37 = .ok (.iconst 0, 1) := by decide +kernel
theorem dX3_ofSign_38 : decode cX3_ofSign 38 = .ok (.ireturn, 1) := by decide +kernel
theorem dX4_init_0 : decode cX4_init 0 = .ok (.aload_n 0, 1) := by decide +kernel
theorem dX4_init_1 : decode cX4_init 1 = .ok (.invokespecial 3, 3) := by decide +kernel
theorem dX4_init_4 : decode cX4_init 4 = .ok (.aload_n 0, 1) := by decide +kernel
theorem dX4_init_5 : decode cX4_init 5 = .ok (.bipush 6, 2) := by decide +kernel
theorem dX4_init_7 : decode cX4_init 7 = .ok (.sipush 400, 3) := by decide +kernel
theorem dX4_init_10 : decode cX4_init 10 = .ok (.multianewarray 13 2, 4) := by decide +kernel
theorem dX4_init_14 : decode cX4_init 14 = .ok (.putfield 15, 3) := by decide +kernel
theorem dX4_init_17 : decode cX4_init 17 = .ok (.aload_n 0, 1) := by decide +kernel
theorem dX4_init_18 : decode cX4_init 18 = .ok (.bipush 6, 2) := by decide +kernel
theorem dX4_init_20 : decode cX4_init 20 = .ok (.newarray .int, 2) := by decide +kernel
theorem dX4_init_22 : decode cX4_init 22 = .ok (.putfield 18, 3) := by decide +kernel
theorem dX4_init_25 : decode cX4_init 25 = .ok (.aload_n 0, 1) := by decide +kernel
theorem dX4_init_26 : decode cX4_init 26 = .ok (.bipush 6, 2) := by decide +kernel
theorem dX4_init_28 : decode cX4_init 28 = .ok (.newarray .boolean, 2) := by decide +kernel
theorem dX4_init_30 : decode cX4_init 30 = .ok (.putfield 22, 3) := by decide +kernel
theorem dX4_init_33 : decode cX4_init 33 = .ok (.aload_n 0, 1) := by decide +kernel
theorem dX4_init_34 : decode cX4_init 34 = .ok (.bipush 60, 2) := by decide +kernel
theorem dX4_init_36 : decode cX4_init 36 = .ok (.newarray .long, 2) := by decide +kernel
theorem dX4_init_38 : decode cX4_init 38 = .ok (.putfield 26, 3) := by decide +kernel
theorem dX4_init_41 : decode cX4_init 41 = .ok (.return_, 1) := by decide +kernel
theorem dX4_isFull_0 : decode cX4_isFull 0 = .ok (.aload_n 0, 1) := by decide +kernel
theorem dX4_isFull_1 : decode cX4_isFull 1 = .ok (.getfield 30, 3) := by decide +kernel
theorem dX4_isFull_4 : decode cX4_isFull 4 = .ok (.bipush 6, 2) := by decide +kernel
theorem dX4_isFull_6 : decode cX4_isFull 6 = .ok (.if_icmp .lt 7, 3) := by decide +kernel
theorem dX4_isFull_9 : decode cX4_isFull 9 = .ok (.iconst 1, 1) := by decide +kernel
theorem dX4_isFull_10 : decode cX4_isFull 10 = .ok (.goto 4, 3) := by decide +kernel
theorem dX4_isFull_13 : decode cX4_isFull 13 = .ok (.iconst 0, 1) := by decide +kernel
theorem dX4_isFull_14 : decode cX4_isFull 14 = .ok (.ireturn, 1) := by decide +kernel
theorem dX4_has_0 : decode cX4_has 0 = .ok (.iload_n 1, 1) := by decide +kernel
theorem dX4_has_1 : decode cX4_has 1 = .ok (.ifCond .lt 15, 3) := by decide +kernel
theorem dX4_has_4 : decode cX4_has 4 = .ok (.iload_n 1, 1) := by decide +kernel
theorem dX4_has_5 : decode cX4_has 5 = .ok (.aload_n 0, 1) := by decide +kernel
theorem dX4_has_6 : decode cX4_has 6 = .ok (.getfield 30, 3) := by decide +kernel
theorem dX4_has_9 : decode cX4_has 9 = .ok (.if_icmp .ge 7, 3) := by decide +kernel
theorem dX4_has_12 : decode cX4_has 12 = .ok (.iconst 1, 1) := by decide +kernel
theorem dX4_has_13 : decode cX4_has 13 = .ok (.goto 4, 3) := by decide +kernel
theorem dX4_has_16 : decode cX4_has 16 = .ok (.iconst 0, 1) := by decide +kernel
theorem dX4_has_17 : decode cX4_has 17 = .ok (.ireturn, 1) := by decide +kernel
theorem dX4_add_0 : decode cX4_add 0 = .ok (.aload_n 0, 1) := by decide +kernel
theorem dX4_add_1 : decode cX4_add 1 = .ok (.invokevirtual 34, 3) := by decide +kernel
theorem dX4_add_4 : decode cX4_add 4 = .ok (.ifCond .ne 16, 3) := by decide +kernel
theorem dX4_add_7 : decode cX4_add 7 = .ok (.iload_n 2, 1) := by decide +kernel
theorem dX4_add_8 : decode cX4_add 8 = .ok (.aload_n 1, 1) := by decide +kernel
theorem dX4_add_9 : decode cX4_add 9 = .ok (.arraylength, 1) := by decide +kernel
theorem dX4_add_10 : decode cX4_add 10 = .ok (.if_icmp .gt 10, 3) := by decide +kernel
theorem dX4_add_13 : decode cX4_add 13 = .ok (.iload_n 2, 1) := by decide +kernel
theorem dX4_add_14 : decode cX4_add 14 = .ok (.sipush 400, 3) := by decide +kernel
theorem dX4_add_17 : decode cX4_add 17 = .ok (.if_icmp .le 5, 3) := by decide +kernel
theorem dX4_add_20 : decode cX4_add 20 = .ok (.iconst (-1), 1) := by decide +kernel
theorem dX4_add_21 : decode cX4_add 21 = .ok (.ireturn, 1) := by decide +kernel
theorem dX4_add_22 : decode cX4_add 22 = .ok (.aload_n 0, 1) := by decide +kernel
theorem dX4_add_23 : decode cX4_add 23 = .ok (.getfield 30, 3) := by decide +kernel
theorem dX4_add_26 : decode cX4_add 26 = .ok (.istore_n 3, 1) := by decide +kernel
theorem dX4_add_27 : decode cX4_add 27 = .ok (.aload_n 0, 1) := by decide +kernel
theorem dX4_add_28 : decode cX4_add 28 = .ok (.getfield 22, 3) := by decide +kernel
theorem dX4_add_31 : decode cX4_add 31 = .ok (.iload_n 3, 1) := by decide +kernel
theorem dX4_add_32 : decode cX4_add 32 = .ok (.iconst 0, 1) := by decide +kernel
theorem dX4_add_33 : decode cX4_add 33 = .ok (.bastore, 1) := by decide +kernel
theorem dX4_add_34 : decode cX4_add 34 = .ok (.iconst 0, 1) := by decide +kernel
theorem dX4_add_35 : decode cX4_add 35 = .ok (.istore 4, 2) := by decide +kernel
theorem dX4_add_37 : decode cX4_add 37 = .ok (.iload 4, 2) := by decide +kernel
theorem dX4_add_39 : decode cX4_add 39 = .ok (.iload_n 2, 1) := by decide +kernel
theorem dX4_add_40 : decode cX4_add 40 = .ok (.if_icmp .ge 38, 3) := by decide +kernel
theorem dX4_add_43 : decode cX4_add 43 = .ok (.aload_n 0, 1) := by decide +kernel
theorem dX4_add_44 : decode cX4_add 44 = .ok (.getfield 15, 3) := by decide +kernel
theorem dX4_add_47 : decode cX4_add 47 = .ok (.iload_n 3, 1) := by decide +kernel
theorem dX4_add_48 : decode cX4_add 48 = .ok (.aaload, 1) := by decide +kernel
theorem dX4_add_49 : decode cX4_add 49 = .ok (.iload 4, 2) := by decide +kernel
theorem dX4_add_51 : decode cX4_add 51 = .ok (.aload_n 1, 1) := by decide +kernel
theorem dX4_add_52 : decode cX4_add 52 = .ok (.iload 4, 2) := by decide +kernel
theorem dX4_add_54 : decode cX4_add 54 = .ok (.iaload, 1) := by decide +kernel
theorem dX4_add_55 : decode cX4_add 55 = .ok (.iastore, 1) := by decide +kernel
theorem dX4_add_56 : decode cX4_add 56 = .ok (.aload_n 1, 1) := by decide +kernel
theorem dX4_add_57 : decode cX4_add 57 = .ok (.iload 4, 2) := by decide +kernel
theorem dX4_add_59 : decode cX4_add 59 = .ok (.iaload, 1) := by decide +kernel
theorem dX4_add_60 : decode cX4_add 60 = .ok (.bipush (-7), 2) := by decide +kernel
theorem dX4_add_62 : decode cX4_add 62 = .ok (.if_icmp .ne 10, 3) := by decide +kernel
theorem dX4_add_65 : decode cX4_add 65 = .ok (.aload_n 0, 1) := by decide +kernel
theorem dX4_add_66 : decode cX4_add 66 = .ok (.getfield 22, 3) := by decide +kernel
theorem dX4_add_69 : decode cX4_add 69 = .ok (.iload_n 3, 1) := by decide +kernel
theorem dX4_add_70 : decode cX4_add 70 = .ok (.iconst 1, 1) := by decide +kernel
theorem dX4_add_71 : decode cX4_add 71 = .ok (.bastore, 1) := by decide +kernel
theorem dX4_add_72 : decode cX4_add 72 = .ok (.iinc 4 1, 3) := by decide +kernel
theorem dX4_add_75 : decode cX4_add 75 = .ok (.goto (-38), 3) := by decide +kernel
theorem dX4_add_78 : decode cX4_add 78 = .ok (.aload_n 0, 1) := by decide +kernel
theorem dX4_add_79 : decode cX4_add 79 = .ok (.getfield 18, 3) := by decide +kernel
theorem dX4_add_82 : decode cX4_add 82 = .ok (.iload_n 3, 1) := by decide +kernel
theorem dX4_add_83 : decode cX4_add 83 = .ok (.iload_n 2, 1) := by decide +kernel
theorem dX4_add_84 : decode cX4_add 84 = .ok (.iastore, 1) := by decide +kernel
theorem dX4_add_85 : decode cX4_add 85 = .ok (.aload_n 0, 1) := by decide +kernel
theorem dX4_add_86 : decode cX4_add 86 = .ok (.dup, 1) := by decide +kernel
theorem dX4_add_87 : decode cX4_add 87 = .ok (.getfield 30, 3) := by decide +kernel
theorem dX4_add_90 : decode cX4_add 90 = .ok (.iconst 1, 1) := by decide +kernel
theorem dX4_add_91 : decode cX4_add 91 = .ok (.iadd, 1) := by decide +kernel
theorem dX4_add_92 : decode cX4_add 92 = .ok (.putfield 30, 3) := by decide +kernel
theorem dX4_add_95 : decode cX4_add 95 = .ok (.iload_n 3, 1) := by decide +kernel
theorem dX4_add_96 : decode cX4_add 96 = .ok (.ireturn, 1) := by decide +kernel
theorem dX4_stride_0 : decode cX4_stride 0 = .ok (.iconst 0, 1) := by decide +kernel
theorem dX4_stride_1 : decode cX4_stride 1 = .ok (.istore 4, 2) := by decide +kernel
theorem dX4_stride_3 : decode cX4_stride 3 = .ok (.iload 4, 2) := by decide +kernel
theorem dX4_stride_5 : decode cX4_stride 5 = .ok (.iload_n 3, 1) := by decide +kernel
theorem dX4_stride_6 : decode cX4_stride 6 = .ok (.if_icmp .ge 80, 3) := by decide +kernel
theorem dX4_stride_9 : decode cX4_stride 9 = .ok (.aload_n 1, 1) := by decide +kernel
theorem dX4_stride_10 : decode cX4_stride 10 = .ok (.aload_n 1, 1) := by decide +kernel
theorem dX4_stride_11 : decode cX4_stride 11 = .ok (.getfield 40, 3) := by decide +kernel
theorem dX4_stride_14 : decode cX4_stride 14 = .ok (.invokevirtual 45, 3) := by decide +kernel
theorem dX4_stride_17 : decode cX4_stride 17 = .ok (.ifCond .eq 69, 3) := by decide +kernel
theorem dX4_stride_20 : decode cX4_stride 20 = .ok (.aload_n 0, 1) := by decide +kernel
theorem dX4_stride_21 : decode cX4_stride 21 = .ok (.iload_n 2, 1) := by decide +kernel
theorem dX4_stride_22 : decode cX4_stride 22 = .ok (.invokevirtual 49, 3) := by decide +kernel
theorem dX4_stride_25 : decode cX4_stride 25 = .ok (.ifCond .eq 16, 3) := by decide +kernel
theorem dX4_stride_28 : decode cX4_stride 28 = .ok (.aload_n 1, 1) := by decide +kernel
theorem dX4_stride_29 : decode cX4_stride 29 = .ok (.aload_n 0, 1) := by decide +kernel
theorem dX4_stride_30 : decode cX4_stride 30 = .ok (.aload_n 1, 1) := by decide +kernel
theorem dX4_stride_31 : decode cX4_stride 31 = .ok (.iload_n 2, 1) := by decide +kernel
theorem dX4_stride_32 : decode cX4_stride 32 = .ok (.invokevirtual 52, 3) := by decide +kernel
theorem dX4_stride_35 : decode cX4_stride 35 = .ok (.putfield 40, 3) := by decide +kernel
theorem dX4_stride_38 : decode cX4_stride 38 = .ok (.goto 15, 3) := by decide +kernel
theorem dX4_stride_41 : decode cX4_stride 41 = .ok (.aload_n 1, 1) := by decide +kernel
theorem dX4_stride_42 : decode cX4_stride 42 = .ok (.aload_n 1, 1) := by decide +kernel
theorem dX4_stride_43 : decode cX4_stride 43 = .ok (.aload_n 1, 1) := by decide +kernel
theorem dX4_stride_44 : decode cX4_stride 44 = .ok (.invokevirtual 56, 3) := by decide +kernel
theorem dX4_stride_47 : decode cX4_stride 47 = .ok (.invokevirtual 60, 3) := by decide +kernel
theorem dX4_stride_50 : decode cX4_stride 50 = .ok (.putfield 40, 3) := by decide +kernel
theorem dX4_stride_53 : decode cX4_stride 53 = .ok (.aload_n 1, 1) := by decide +kernel
theorem dX4_stride_54 : decode cX4_stride 54 = .ok (.getfield 64, 3) := by decide +kernel
theorem dX4_stride_57 : decode cX4_stride 57 = .ok (.aload_n 1, 1) := by decide +kernel
theorem dX4_stride_58 : decode cX4_stride 58 = .ok (.getfield 40, 3) := by decide +kernel
theorem dX4_stride_61 : decode cX4_stride 61 = .ok (.dup2, 1) := by decide +kernel
theorem dX4_stride_62 : decode cX4_stride 62 = .ok (.iaload, 1) := by decide +kernel
theorem dX4_stride_63 : decode cX4_stride 63 = .ok (.iconst 1, 1) := by decide +kernel
theorem dX4_stride_64 : decode cX4_stride 64 = .ok (.iadd, 1) := by decide +kernel
theorem dX4_stride_65 : decode cX4_stride 65 = .ok (.iastore, 1) := by decide +kernel
theorem dX4_stride_66 : decode cX4_stride 66 = .ok (.aload_n 1, 1) := by decide +kernel
theorem dX4_stride_67 : decode cX4_stride 67 = .ok (.invokevirtual 67, 3) := by decide +kernel
theorem dX4_stride_70 : decode cX4_stride 70 = .ok (.aload_n 1, 1) := by decide +kernel
theorem dX4_stride_71 : decode cX4_stride 71 = .ok (.dup, 1) := by decide +kernel
theorem dX4_stride_72 : decode cX4_stride 72 = .ok (.getfield 70, 3) := by decide +kernel
theorem dX4_stride_75 : decode cX4_stride 75 = .ok (.iconst 1, 1) := by decide +kernel
theorem dX4_stride_76 : decode cX4_stride 76 = .ok (.iadd, 1) := by decide +kernel
theorem dX4_stride_77 : decode cX4_stride 77 = .ok (.putfield 70, 3) := by decide +kernel
theorem dX4_stride_80 : decode cX4_stride 80 = .ok (.iinc 4 1, 3) := by decide +kernel
theorem dX4_stride_83 : decode cX4_stride 83 = .ok (.goto (-80), 3) := by decide +kernel
theorem dX4_stride_86 : decode cX4_stride 86 = .ok (.return_, 1) := by decide +kernel
theorem dX4_favourite_0 : decode cX4_favourite 0 = .ok (.aload_n 1, 1) := by decide +kernel
theorem dX4_favourite_1 : decode cX4_favourite 1 = .ok (.invokevirtual 56, 3) := by decide +kernel
theorem dX4_favourite_4 : decode cX4_favourite 4 = .ok (.lstore_n 3, 1) := by decide +kernel
theorem dX4_favourite_5 : decode cX4_favourite 5 = .ok (.aload_n 1, 1) := by decide +kernel
theorem dX4_favourite_6 : decode cX4_favourite 6 = .ok (.getfield 40, 3) := by decide +kernel
theorem dX4_favourite_9 : decode cX4_favourite 9 = .ok (.istore 5, 2) := by decide +kernel
theorem dX4_favourite_11 : decode cX4_favourite 11 = .ok (.lconst 0, 1) := by decide +kernel
theorem dX4_favourite_12 : decode cX4_favourite 12 = .ok (.lstore 6, 2) := by decide +kernel
theorem dX4_favourite_14 : decode cX4_favourite 14 = .ok (.iconst 0, 1) := by decide +kernel
theorem dX4_favourite_15 : decode cX4_favourite 15 = .ok (.istore 8, 2) := by decide +kernel
theorem dX4_favourite_17 : decode cX4_favourite 17 = .ok (.iload 8, 2) := by decide +kernel
theorem dX4_favourite_19 : decode cX4_favourite 19 = .ok (.getstatic 73, 3) := by decide +kernel
theorem dX4_favourite_22 : decode cX4_favourite 22 = .ok (.arraylength, 1) := by decide +kernel
theorem dX4_favourite_23 : decode cX4_favourite 23 = .ok (.if_icmp .ge 99, 3) := by decide +kernel
theorem dX4_favourite_26 : decode cX4_favourite 26 = .ok (.aload_n 1, 1) := by decide +kernel
theorem dX4_favourite_27 : decode cX4_favourite 27 = .ok (.aload_n 1, 1) := by decide +kernel
theorem dX4_favourite_28 : decode cX4_favourite 28 = .ok (.getfield 40, 3) := by decide +kernel
theorem dX4_favourite_31 : decode cX4_favourite 31 = .ok (.getstatic 73, 3) := by decide +kernel
theorem dX4_favourite_34 : decode cX4_favourite 34 = .ok (.iload 8, 2) := by decide +kernel
theorem dX4_favourite_36 : decode cX4_favourite 36 = .ok (.iaload, 1) := by decide +kernel
theorem dX4_favourite_37 : decode cX4_favourite 37 = .ok (.invokevirtual 76, 3) := by decide +kernel
theorem dX4_favourite_40 : decode cX4_favourite 40 = .ok (.istore 9, 2) := by decide +kernel
theorem dX4_favourite_42 : decode cX4_favourite 42 = .ok (.iload 9, 2) := by decide +kernel
theorem dX4_favourite_44 : decode cX4_favourite 44 = .ok (.iconst (-1), 1) := by decide +kernel
theorem dX4_favourite_45 : decode cX4_favourite 45 = .ok (.if_icmp .ne 6, 3) := by decide +kernel
theorem dX4_favourite_48 : decode cX4_favourite 48 = .ok (.goto 68, 3) := by decide +kernel
theorem dX4_favourite_51 : decode cX4_favourite 51 = .ok (.aload_n 0, 1) := by decide +kernel
theorem dX4_favourite_52 : decode cX4_favourite 52 = .ok (.getfield 22, 3) := by decide +kernel
theorem dX4_favourite_55 : decode cX4_favourite 55 = .ok (.iload_n 2, 1) := by decide +kernel
theorem dX4_favourite_56 : decode cX4_favourite 56 = .ok (.baload, 1) := by decide +kernel
theorem dX4_favourite_57 : decode cX4_favourite 57 = .ok (.ifCond .eq 13, 3) := by decide +kernel
theorem dX4_favourite_60 : decode cX4_favourite 60 = .ok (.aload_n 1, 1) := by decide +kernel
theorem dX4_favourite_61 : decode cX4_favourite 61 = .ok (.iload 9, 2) := by decide +kernel
theorem dX4_favourite_63 : decode cX4_favourite 63 = .ok (.lload_n 3, 1) := by decide +kernel
theorem dX4_favourite_64 : decode cX4_favourite 64 = .ok (.invokevirtual 80, 3) := by decide +kernel
theorem dX4_favourite_67 : decode cX4_favourite 67 = .ok (.goto 4, 3) := by decide +kernel
theorem dX4_favourite_70 : decode cX4_favourite 70 = .ok (.iconst (-1), 1) := by decide +kernel
theorem dX4_favourite_71 : decode cX4_favourite 71 = .ok (.istore 10, 2) := by decide +kernel
theorem dX4_favourite_73 : decode cX4_favourite 73 = .ok (.aload_n 0, 1) := by decide +kernel
theorem dX4_favourite_74 : decode cX4_favourite 74 = .ok (.iload 10, 2) := by decide +kernel
theorem dX4_favourite_76 : decode cX4_favourite 76 = .ok (.iconst (-1), 1) := by decide +kernel
theorem dX4_favourite_77 : decode cX4_favourite 77 = .ok (.if_icmp .ne 8, 3) := by decide +kernel
theorem dX4_favourite_80 : decode cX4_favourite 80 = .ok (.bipush 99, 2) := by decide +kernel
theorem dX4_favourite_82 : decode cX4_favourite 82 = .ok (.goto 5, 3) := by decide +kernel
theorem dX4_favourite_85 : decode cX4_favourite 85 = .ok (.iload 10, 2) := by decide +kernel
theorem dX4_favourite_87 : decode cX4_favourite 87 = .ok (.putfield 84, 3) := by decide +kernel
theorem dX4_favourite_90 : decode cX4_favourite 90 = .ok (.aload_n 0, 1) := by decide +kernel
theorem dX4_favourite_91 : decode cX4_favourite 91 = .ok (.iload_n 2, 1) := by decide +kernel
theorem dX4_favourite_92 : decode cX4_favourite 92 = .ok (.aload_n 1, 1) := by decide +kernel
theorem dX4_favourite_93 : decode cX4_favourite 93 = .ok (.iload 9, 2) := by decide +kernel
theorem dX4_favourite_95 : decode cX4_favourite 95 = .ok (.invokevirtual 87, 3) := by decide +kernel
theorem dX4_favourite_98 : decode cX4_favourite 98 = .ok (.lstore 11, 2) := by decide +kernel
theorem dX4_favourite_100 : decode cX4_favourite 100 = .ok (.lload 11, 2) := by decide +kernel
theorem dX4_favourite_102 : decode cX4_favourite 102 = .ok (.lload 6, 2) := by decide +kernel
theorem dX4_favourite_104 : decode cX4_favourite 104 = .ok (.lcmp, 1) := by decide +kernel
theorem dX4_favourite_105 : decode cX4_favourite 105 = .ok (.ifCond .le 11, 3) := by decide +kernel
theorem dX4_favourite_108 : decode cX4_favourite 108 = .ok (.lload 11, 2) := by decide +kernel
theorem dX4_favourite_110 : decode cX4_favourite 110 = .ok (.lstore 6, 2) := by decide +kernel
theorem dX4_favourite_112 : decode cX4_favourite 112 = .ok (.iload 9, 2) := by decide +kernel
theorem dX4_favourite_114 : decode cX4_favourite 114 = .ok (.istore 5, 2) := by decide +kernel
theorem dX4_favourite_116 : decode cX4_favourite 116 = .ok (.iinc 8 1, 3) := by decide +kernel
theorem dX4_favourite_119 : decode cX4_favourite 119 = .ok (.goto (-102), 3) := by decide +kernel
theorem dX4_favourite_122 : decode cX4_favourite 122 = .ok (.iload 5, 2) := by decide +kernel
theorem dX4_favourite_124 : decode cX4_favourite 124 = .ok (.ireturn, 1) := by decide +kernel
theorem dX4_worthOf_0 : decode cX4_worthOf 0 = .ok (.aload_n 0, 1) := by decide +kernel
theorem dX4_worthOf_1 : decode cX4_worthOf 1 = .ok (.iconst 0, 1) := by decide +kernel
theorem dX4_worthOf_2 : decode cX4_worthOf 2 = .ok (.putfield 91, 3) := by decide +kernel
theorem dX4_worthOf_5 : decode cX4_worthOf 5 = .ok (.iconst 0, 1) := by decide +kernel
theorem dX4_worthOf_6 : decode cX4_worthOf 6 = .ok (.istore 4, 2) := by decide +kernel
theorem dX4_worthOf_8 : decode cX4_worthOf 8 = .ok (.iload 4, 2) := by decide +kernel
theorem dX4_worthOf_10 : decode cX4_worthOf 10 = .ok (.aload_n 0, 1) := by decide +kernel
theorem dX4_worthOf_11 : decode cX4_worthOf 11 = .ok (.getfield 18, 3) := by decide +kernel
theorem dX4_worthOf_14 : decode cX4_worthOf 14 = .ok (.iload_n 1, 1) := by decide +kernel
theorem dX4_worthOf_15 : decode cX4_worthOf 15 = .ok (.iaload, 1) := by decide +kernel
theorem dX4_worthOf_16 : decode cX4_worthOf 16 = .ok (.if_icmp .ge 154, 3) := by decide +kernel
theorem dX4_worthOf_19 : decode cX4_worthOf 19 = .ok (.aload_n 0, 1) := by decide +kernel
theorem dX4_worthOf_20 : decode cX4_worthOf 20 = .ok (.getfield 15, 3) := by decide +kernel
theorem dX4_worthOf_23 : decode cX4_worthOf 23 = .ok (.iload_n 1, 1) := by decide +kernel
theorem dX4_worthOf_24 : decode cX4_worthOf 24 = .ok (.aaload, 1) := by decide +kernel
theorem dX4_worthOf_25 : decode cX4_worthOf 25 = .ok (.iload 4, 2) := by decide +kernel
theorem dX4_worthOf_27 : decode cX4_worthOf 27 = .ok (.iaload, 1) := by decide +kernel
theorem dX4_worthOf_28 : decode cX4_worthOf 28 = .ok (.istore 5, 2) := by decide +kernel
theorem dX4_worthOf_30 : decode cX4_worthOf 30 = .ok (.iload 5, 2) := by decide +kernel
theorem dX4_worthOf_32 : decode cX4_worthOf 32 = .ok (.bipush (-12), 2) := by decide +kernel
theorem dX4_worthOf_34 : decode cX4_worthOf 34 = .ok (.if_icmp .lt 29, 3) := by decide +kernel
theorem dX4_worthOf_37 : decode cX4_worthOf 37 = .ok (.aload_n 0, 1) := by decide +kernel
theorem dX4_worthOf_38 : decode cX4_worthOf 38 = .ok (.iload 5, 2) := by decide +kernel
theorem dX4_worthOf_40 : decode cX4_worthOf 40 = .ok (.ifCond .lt 9, 3) := by decide +kernel
theorem dX4_worthOf_43 : decode cX4_worthOf 43 = .ok (.iload 5, 2) := by decide +kernel
theorem dX4_worthOf_45 : decode cX4_worthOf 45 = .ok (.i2l, 1) := by decide +kernel
theorem dX4_worthOf_46 : decode cX4_worthOf 46 = .ok (.goto 11, 3) := by decide +kernel
theorem dX4_worthOf_49 : decode cX4_worthOf 49 = .ok (.aload_n 0, 1) := by decide +kernel
theorem dX4_worthOf_50 : decode cX4_worthOf 50 = .ok (.iload 5, 2) := by decide +kernel
theorem dX4_worthOf_52 : decode cX4_worthOf 52 = .ok (.aload_n 2, 1) := by decide +kernel
theorem dX4_worthOf_53 : decode cX4_worthOf 53 = .ok (.iload_n 3, 1) := by decide +kernel
theorem dX4_worthOf_54 : decode cX4_worthOf 54 = .ok (.invokevirtual 94, 3) := by decide +kernel
theorem dX4_worthOf_57 : decode cX4_worthOf 57 = .ok (.invokevirtual 97, 3) := by decide +kernel
theorem dX4_worthOf_60 : decode cX4_worthOf 60 = .ok (.goto 104, 3) := by decide +kernel
theorem dX4_worthOf_63 : decode cX4_worthOf 63 = .ok (.iload 5, 2) := by decide +kernel
theorem dX4_worthOf_65 : decode cX4_worthOf 65 = .ok (.bipush (-40), 2) := by decide +kernel
theorem dX4_worthOf_67 : decode cX4_worthOf 67 = .ok (.if_icmp .ne 8, 3) := by decide +kernel
theorem dX4_worthOf_70 : decode cX4_worthOf 70 = .ok (.aload_n 0, 1) := by decide +kernel
theorem dX4_worthOf_71 : decode cX4_worthOf 71 = .ok (.invokevirtual 101, 3) := by decide +kernel
theorem dX4_worthOf_74 : decode cX4_worthOf 74 = .ok (.lreturn, 1) := by decide +kernel
theorem dX4_worthOf_75 : decode cX4_worthOf 75 = .ok (.iload 5, 2) := by decide +kernel
theorem dX4_worthOf_77 : decode cX4_worthOf 77 = .ok (.bipush (-41), 2) := by decide +kernel
theorem dX4_worthOf_79 : decode cX4_worthOf 79 = .ok (.if_icmp .ne 36, 3) := by decide +kernel
theorem dX4_worthOf_82 : decode cX4_worthOf 82 = .ok (.aload_n 0, 1) := by decide +kernel
theorem dX4_worthOf_83 : decode cX4_worthOf 83 = .ok (.invokevirtual 101, 3) := by decide +kernel
theorem dX4_worthOf_86 : decode cX4_worthOf 86 = .ok (.lconst 0, 1) := by decide +kernel
theorem dX4_worthOf_87 : decode cX4_worthOf 87 = .ok (.lcmp, 1) := by decide +kernel
theorem dX4_worthOf_88 : decode cX4_worthOf 88 = .ok (.ifCond .eq 7, 3) := by decide +kernel
theorem dX4_worthOf_91 : decode cX4_worthOf 91 = .ok (.iconst 1, 1) := by decide +kernel
theorem dX4_worthOf_92 : decode cX4_worthOf 92 = .ok (.goto 4, 3) := by decide +kernel
theorem dX4_worthOf_95 : decode cX4_worthOf 95 = .ok (.iconst 0, 1) := by decide +kernel
theorem dX4_worthOf_96 : decode cX4_worthOf 96 = .ok (.istore 6, 2) := by decide +kernel
theorem dX4_worthOf_98 : decode cX4_worthOf 98 = .ok (.aload_n 0, 1) := by decide +kernel
theorem dX4_worthOf_99 : decode cX4_worthOf 99 = .ok (.invokevirtual 101, 3) := by decide +kernel
theorem dX4_worthOf_102 : decode cX4_worthOf 102 = .ok (.lstore 7, 2) := by decide +kernel
theorem dX4_worthOf_104 : decode cX4_worthOf 104 = .ok (.iload 6, 2) := by decide +kernel
theorem dX4_worthOf_106 : decode cX4_worthOf 106 = .ok (.ifCond .eq 6, 3) := by decide +kernel
theorem dX4_worthOf_109 : decode cX4_worthOf 109 = .ok (.lload 7, 2) := by decide +kernel
theorem dX4_worthOf_111 : decode cX4_worthOf 111 = .ok (.lreturn, 1) := by decide +kernel
theorem dX4_worthOf_112 : decode cX4_worthOf 112 = .ok (.goto 52, 3) := by decide +kernel
theorem dX4_worthOf_115 : decode cX4_worthOf 115 = .ok (.iload 5, 2) := by decide +kernel
theorem dX4_worthOf_117 : decode cX4_worthOf 117 = .ok (.bipush (-36), 2) := by decide +kernel
theorem dX4_worthOf_119 : decode cX4_worthOf 119 = .ok (.if_icmp .ne 24, 3) := by decide +kernel
theorem dX4_worthOf_122 : decode cX4_worthOf 122 = .ok (.aload_n 0, 1) := by decide +kernel
theorem dX4_worthOf_123 : decode cX4_worthOf 123 = .ok (.aload_n 0, 1) := by decide +kernel
theorem dX4_worthOf_124 : decode cX4_worthOf 124 = .ok (.invokevirtual 101, 3) := by decide +kernel
theorem dX4_worthOf_127 : decode cX4_worthOf 127 = .ok (.lconst 0, 1) := by decide +kernel
theorem dX4_worthOf_128 : decode cX4_worthOf 128 = .ok (.lcmp, 1) := by decide +kernel
theorem dX4_worthOf_129 : decode cX4_worthOf 129 = .ok (.ifCond .ne 7, 3) := by decide +kernel
theorem dX4_worthOf_132 : decode cX4_worthOf 132 = .ok (.lconst 1, 1) := by decide +kernel
theorem dX4_worthOf_133 : decode cX4_worthOf 133 = .ok (.goto 4, 3) := by decide +kernel
theorem dX4_worthOf_136 : decode cX4_worthOf 136 = .ok (.lconst 0, 1) := by decide +kernel
theorem dX4_worthOf_137 : decode cX4_worthOf 137 = .ok (.invokevirtual 97, 3) := by decide +kernel
theorem dX4_worthOf_140 : decode cX4_worthOf 140 = .ok (.goto 24, 3) := by decide +kernel
theorem dX4_worthOf_143 : decode cX4_worthOf 143 = .ok (.aload_n 0, 1) := by decide +kernel
theorem dX4_worthOf_144 : decode cX4_worthOf 144 = .ok (.invokevirtual 101, 3) := by decide +kernel
theorem dX4_worthOf_147 : decode cX4_worthOf 147 = .ok (.lstore 6, 2) := by decide +kernel
theorem dX4_worthOf_149 : decode cX4_worthOf 149 = .ok (.aload_n 0, 1) := by decide +kernel
theorem dX4_worthOf_150 : decode cX4_worthOf 150 = .ok (.iload 5, 2) := by decide +kernel
theorem dX4_worthOf_152 : decode cX4_worthOf 152 = .ok (.aload_n 0, 1) := by decide +kernel
theorem dX4_worthOf_153 : decode cX4_worthOf 153 = .ok (.invokevirtual 101, 3) := by decide +kernel
theorem dX4_worthOf_156 : decode cX4_worthOf 156 = .ok (.lload 6, 2) := by decide +kernel
theorem dX4_worthOf_158 : decode cX4_worthOf 158 = .ok (.invokestatic 104, 3) := by decide +kernel
theorem dX4_worthOf_161 : decode cX4_worthOf 161 = .ok (.invokevirtual 97, 3) := by decide +kernel
theorem dX4_worthOf_164 : decode cX4_worthOf 164 = .ok (.iinc 4 1, 3) := by decide +kernel
theorem dX4_worthOf_167 : decode cX4_worthOf 167 = .ok (.goto (-159), 3) := by decide +kernel
theorem dX4_worthOf_170 : decode cX4_worthOf 170 = .ok (.lconst 0, 1) := by decide +kernel
theorem dX4_worthOf_171 : decode cX4_worthOf 171 = .ok (.lreturn, 1) := by decide +kernel
theorem dX4_valueOf_0 : decode cX4_valueOf 0 = .ok (.iload_n 1, 1) := by decide +kernel
theorem dX4_valueOf_1 : decode cX4_valueOf 1 = .ok (.tableswitch 145 (-11) (-1) #[139, 133, 124, 107, 101, 93, 86, 76, 69, 62, 59], 59) := by decide +kernel
theorem dX4_valueOf_60 : decode cX4_valueOf 60 = .ok (.iload_n 3, 1) := by decide +kernel
theorem dX4_valueOf_61 : decode cX4_valueOf 61 = .ok (.i2l, 1) := by decide +kernel
theorem dX4_valueOf_62 : decode cX4_valueOf 62 = .ok (.lreturn, 1) := by decide +kernel
theorem dX4_valueOf_63 : decode cX4_valueOf 63 = .ok (.aload_n 2, 1) := by decide +kernel
theorem dX4_valueOf_64 : decode cX4_valueOf 64 = .ok (.iload_n 3, 1) := by decide +kernel
theorem dX4_valueOf_65 : decode cX4_valueOf 65 = .ok (.invokevirtual 108, 3) := by decide +kernel
theorem dX4_valueOf_68 : decode cX4_valueOf 68 = .ok (.i2l, 1) := by decide +kernel
theorem dX4_valueOf_69 : decode cX4_valueOf 69 = .ok (.lreturn, 1) := by decide +kernel
theorem dX4_valueOf_70 : decode cX4_valueOf 70 = .ok (.aload_n 2, 1) := by decide +kernel
theorem dX4_valueOf_71 : decode cX4_valueOf 71 = .ok (.iload_n 3, 1) := by decide +kernel
theorem dX4_valueOf_72 : decode cX4_valueOf 72 = .ok (.invokevirtual 112, 3) := by decide +kernel
theorem dX4_valueOf_75 : decode cX4_valueOf 75 = .ok (.i2l, 1) := by decide +kernel
theorem dX4_valueOf_76 : decode cX4_valueOf 76 = .ok (.lreturn, 1) := by decide +kernel
theorem dX4_valueOf_77 : decode cX4_valueOf 77 = .ok (.aload_n 2, 1) := by decide +kernel
theorem dX4_valueOf_78 : decode cX4_valueOf 78 = .ok (.iload_n 3, 1) := by decide +kernel
theorem dX4_valueOf_79 : decode cX4_valueOf 79 = .ok (.invokevirtual 115, 3) := by decide +kernel
theorem dX4_valueOf_82 : decode cX4_valueOf 82 = .ok (.invokestatic 118, 3) := by decide +kernel
theorem dX4_valueOf_85 : decode cX4_valueOf 85 = .ok (.i2l, 1) := by decide +kernel
theorem dX4_valueOf_86 : decode cX4_valueOf 86 = .ok (.lreturn, 1) := by decide +kernel
theorem dX4_valueOf_87 : decode cX4_valueOf 87 = .ok (.aload_n 2, 1) := by decide +kernel
theorem dX4_valueOf_88 : decode cX4_valueOf 88 = .ok (.iload_n 3, 1) := by decide +kernel
theorem dX4_valueOf_89 : decode cX4_valueOf 89 = .ok (.invokevirtual 123, 3) := by decide +kernel
theorem dX4_valueOf_92 : decode cX4_valueOf 92 = .ok (.i2l, 1) := by decide +kernel
theorem dX4_valueOf_93 : decode cX4_valueOf 93 = .ok (.lreturn, 1) := by decide +kernel
theorem dX4_valueOf_94 : decode cX4_valueOf 94 = .ok (.aload_n 2, 1) := by decide +kernel
theorem dX4_valueOf_95 : decode cX4_valueOf 95 = .ok (.getfield 64, 3) := by decide +kernel
theorem dX4_valueOf_98 : decode cX4_valueOf 98 = .ok (.iload_n 3, 1) := by decide +kernel
theorem dX4_valueOf_99 : decode cX4_valueOf 99 = .ok (.iaload, 1) := by decide +kernel
theorem dX4_valueOf_100 : decode cX4_valueOf 100 = .ok (.i2l, 1) := by decide +kernel
theorem dX4_valueOf_101 : decode cX4_valueOf 101 = .ok (.lreturn, 1) := by decide +kernel
theorem dX4_valueOf_102 : decode cX4_valueOf 102 = .ok (.aload_n 0, 1) := by decide +kernel
theorem dX4_valueOf_103 : decode cX4_valueOf 103 = .ok (.getfield 84, 3) := by decide +kernel
theorem dX4_valueOf_106 : decode cX4_valueOf 106 = .ok (.i2l, 1) := by decide +kernel
theorem dX4_valueOf_107 : decode cX4_valueOf 107 = .ok (.lreturn, 1) := by decide +kernel
theorem dX4_valueOf_108 : decode cX4_valueOf 108 = .ok (.aload_n 2, 1) := by decide +kernel
theorem dX4_valueOf_109 : decode cX4_valueOf 109 = .ok (.lconst 1, 1) := by decide +kernel
theorem dX4_valueOf_110 : decode cX4_valueOf 110 = .ok (.iload_n 3, 1) := by decide +kernel
theorem dX4_valueOf_111 : decode cX4_valueOf 111 = .ok (.lshl, 1) := by decide +kernel
theorem dX4_valueOf_112 : decode cX4_valueOf 112 = .ok (.invokevirtual 126, 3) := by decide +kernel
theorem dX4_valueOf_115 : decode cX4_valueOf 115 = .ok (.aload_n 2, 1) := by decide +kernel
theorem dX4_valueOf_116 : decode cX4_valueOf 116 = .ok (.getfield 130, 3) := by decide +kernel
theorem dX4_valueOf_119 : decode cX4_valueOf 119 = .ok (.land, 1) := by decide +kernel
theorem dX4_valueOf_120 : decode cX4_valueOf 120 = .ok (.invokestatic 134, 3) := by decide +kernel
theorem dX4_valueOf_123 : decode cX4_valueOf 123 = .ok (.i2l, 1) := by decide +kernel
theorem dX4_valueOf_124 : decode cX4_valueOf 124 = .ok (.lreturn, 1) := by decide +kernel
theorem dX4_valueOf_125 : decode cX4_valueOf 125 = .ok (.aload_n 2, 1) := by decide +kernel
theorem dX4_valueOf_126 : decode cX4_valueOf 126 = .ok (.getfield 138, 3) := by decide +kernel
theorem dX4_valueOf_129 : decode cX4_valueOf 129 = .ok (.invokestatic 118, 3) := by decide +kernel
theorem dX4_valueOf_132 : decode cX4_valueOf 132 = .ok (.i2l, 1) := by decide +kernel
theorem dX4_valueOf_133 : decode cX4_valueOf 133 = .ok (.lreturn, 1) := by decide +kernel
theorem dX4_valueOf_134 : decode cX4_valueOf 134 = .ok (.aload_n 2, 1) := by decide +kernel
theorem dX4_valueOf_135 : decode cX4_valueOf 135 = .ok (.invokevirtual 141, 3) := by decide +kernel
theorem dX4_valueOf_138 : decode cX4_valueOf 138 = .ok (.i2l, 1) := by decide +kernel
theorem dX4_valueOf_139 : decode cX4_valueOf 139 = .ok (.lreturn, 1) := by decide +kernel
theorem dX4_valueOf_140 : decode cX4_valueOf 140 = .ok (.aload_n 2, 1) := by decide +kernel
theorem dX4_valueOf_141 : decode cX4_valueOf 141 = .ok (.getfield 70, 3) := by decide +kernel
theorem dX4_valueOf_144 : decode cX4_valueOf 144 = .ok (.i2l, 1) := by decide +kernel
theorem dX4_valueOf_145 : decode cX4_valueOf 145 = .ok (.lreturn, 1) := by decide +kernel
theorem dX4_valueOf_146 : decode cX4_valueOf 146 = .ok (.lconst 0, 1) := by decide +kernel
theorem dX4_valueOf_147 : decode cX4_valueOf 147 = .ok (.lreturn, 1) := by decide +kernel
theorem dX4_joined_0 : decode cX4_joined 0 = .ok (.iload_n 0, 1) := by decide +kernel
theorem dX4_joined_1 : decode cX4_joined 1 = .ok (.tableswitch 187 (-35) (-20) #[179, 183, 187, 187, 187, 187, 167, 155, 143, 131, 119, 105, 91, 87, 83, 79], 79) := by decide +kernel
theorem dX4_joined_80 : decode cX4_joined 80 = .ok (.lload_n 1, 1) := by decide +kernel
theorem dX4_joined_81 : decode cX4_joined 81 = .ok (.lload_n 3, 1) := by decide +kernel
theorem dX4_joined_82 : decode cX4_joined 82 = .ok (.ladd, 1) := by decide +kernel
theorem dX4_joined_83 : decode cX4_joined 83 = .ok (.lreturn, 1) := by decide +kernel
theorem dX4_joined_84 : decode cX4_joined 84 = .ok (.lload_n 1, 1) := by decide +kernel
theorem dX4_joined_85 : decode cX4_joined 85 = .ok (.lload_n 3, 1) := by decide +kernel
theorem dX4_joined_86 : decode cX4_joined 86 = .ok (.lsub, 1) := by decide +kernel
theorem dX4_joined_87 : decode cX4_joined 87 = .ok (.lreturn, 1) := by decide +kernel
theorem dX4_joined_88 : decode cX4_joined 88 = .ok (.lload_n 1, 1) := by decide +kernel
theorem dX4_joined_89 : decode cX4_joined 89 = .ok (.lload_n 3, 1) := by decide +kernel
theorem dX4_joined_90 : decode cX4_joined 90 = .ok (.lmul, 1) := by decide +kernel
theorem dX4_joined_91 : decode cX4_joined 91 = .ok (.lreturn, 1) := by decide +kernel
theorem dX4_joined_92 : decode cX4_joined 92 = .ok (.lload_n 3, 1) := by decide +kernel
theorem dX4_joined_93 : decode cX4_joined 93 = .ok (.lconst 0, 1) := by decide +kernel
theorem dX4_joined_94 : decode cX4_joined 94 = .ok (.lcmp, 1) := by decide +kernel
theorem dX4_joined_95 : decode cX4_joined 95 = .ok (.ifCond .ne 7, 3) := by decide +kernel
theorem dX4_joined_98 : decode cX4_joined 98 = .ok (.lconst 0, 1) := by decide +kernel
theorem dX4_joined_99 : decode cX4_joined 99 = .ok (.goto 6, 3) := by decide +kernel
theorem dX4_joined_102 : decode cX4_joined 102 = .ok (.lload_n 1, 1) := by decide +kernel
theorem dX4_joined_103 : decode cX4_joined 103 = .ok (.lload_n 3, 1) := by decide +kernel
theorem dX4_joined_104 : decode cX4_joined 104 = .ok (.ldiv, 1) := by decide +kernel
theorem dX4_joined_105 : decode cX4_joined 105 = .ok (.lreturn, 1) := by decide +kernel
theorem dX4_joined_106 : decode cX4_joined 106 = .ok (.lload_n 3, 1) := by decide +kernel
theorem dX4_joined_107 : decode cX4_joined 107 = .ok (.lconst 0, 1) := by decide +kernel
theorem dX4_joined_108 : decode cX4_joined 108 = .ok (.lcmp, 1) := by decide +kernel
theorem dX4_joined_109 : decode cX4_joined 109 = .ok (.ifCond .ne 7, 3) := by decide +kernel
theorem dX4_joined_112 : decode cX4_joined 112 = .ok (.lconst 0, 1) := by decide +kernel
theorem dX4_joined_113 : decode cX4_joined 113 = .ok (.goto 6, 3) := by decide +kernel
theorem dX4_joined_116 : decode cX4_joined 116 = .ok (.lload_n 1, 1) := by decide +kernel
theorem dX4_joined_117 : decode cX4_joined 117 = .ok (.lload_n 3, 1) := by decide +kernel
theorem dX4_joined_118 : decode cX4_joined 118 = .ok (.lrem, 1) := by decide +kernel
theorem dX4_joined_119 : decode cX4_joined 119 = .ok (.lreturn, 1) := by decide +kernel
theorem dX4_joined_120 : decode cX4_joined 120 = .ok (.lload_n 1, 1) := by decide +kernel
theorem dX4_joined_121 : decode cX4_joined 121 = .ok (.lload_n 3, 1) := by decide +kernel
theorem dX4_joined_122 : decode cX4_joined 122 = .ok (.lcmp, 1) := by decide +kernel
theorem dX4_joined_123 : decode cX4_joined 123 = .ok (.ifCond .ge 7, 3) := by decide +kernel
theorem dX4_joined_126 : decode cX4_joined 126 = .ok (.lconst 1, 1) := by decide +kernel
theorem dX4_joined_127 : decode cX4_joined 127 = .ok (.goto 4, 3) := by decide +kernel
theorem dX4_joined_130 : decode cX4_joined 130 = .ok (.lconst 0, 1) := by decide +kernel
theorem dX4_joined_131 : decode cX4_joined 131 = .ok (.lreturn, 1) := by decide +kernel
theorem dX4_joined_132 : decode cX4_joined 132 = .ok (.lload_n 1, 1) := by decide +kernel
theorem dX4_joined_133 : decode cX4_joined 133 = .ok (.lload_n 3, 1) := by decide +kernel
theorem dX4_joined_134 : decode cX4_joined 134 = .ok (.lcmp, 1) := by decide +kernel
theorem dX4_joined_135 : decode cX4_joined 135 = .ok (.ifCond .gt 7, 3) := by decide +kernel
theorem dX4_joined_138 : decode cX4_joined 138 = .ok (.lconst 1, 1) := by decide +kernel
theorem dX4_joined_139 : decode cX4_joined 139 = .ok (.goto 4, 3) := by decide +kernel
theorem dX4_joined_142 : decode cX4_joined 142 = .ok (.lconst 0, 1) := by decide +kernel
theorem dX4_joined_143 : decode cX4_joined 143 = .ok (.lreturn, 1) := by decide +kernel
theorem dX4_joined_144 : decode cX4_joined 144 = .ok (.lload_n 1, 1) := by decide +kernel
theorem dX4_joined_145 : decode cX4_joined 145 = .ok (.lload_n 3, 1) := by decide +kernel
theorem dX4_joined_146 : decode cX4_joined 146 = .ok (.lcmp, 1) := by decide +kernel
theorem dX4_joined_147 : decode cX4_joined 147 = .ok (.ifCond .ne 7, 3) := by decide +kernel
theorem dX4_joined_150 : decode cX4_joined 150 = .ok (.lconst 1, 1) := by decide +kernel
theorem dX4_joined_151 : decode cX4_joined 151 = .ok (.goto 4, 3) := by decide +kernel
theorem dX4_joined_154 : decode cX4_joined 154 = .ok (.lconst 0, 1) := by decide +kernel
theorem dX4_joined_155 : decode cX4_joined 155 = .ok (.lreturn, 1) := by decide +kernel
theorem dX4_joined_156 : decode cX4_joined 156 = .ok (.lload_n 1, 1) := by decide +kernel
theorem dX4_joined_157 : decode cX4_joined 157 = .ok (.lload_n 3, 1) := by decide +kernel
theorem dX4_joined_158 : decode cX4_joined 158 = .ok (.lcmp, 1) := by decide +kernel
theorem dX4_joined_159 : decode cX4_joined 159 = .ok (.ifCond .lt 7, 3) := by decide +kernel
theorem dX4_joined_162 : decode cX4_joined 162 = .ok (.lconst 1, 1) := by decide +kernel
theorem dX4_joined_163 : decode cX4_joined 163 = .ok (.goto 4, 3) := by decide +kernel
theorem dX4_joined_166 : decode cX4_joined 166 = .ok (.lconst 0, 1) := by decide +kernel
theorem dX4_joined_167 : decode cX4_joined 167 = .ok (.lreturn, 1) := by decide +kernel
theorem dX4_joined_168 : decode cX4_joined 168 = .ok (.lload_n 1, 1) := by decide +kernel
theorem dX4_joined_169 : decode cX4_joined 169 = .ok (.lload_n 3, 1) := by decide +kernel
theorem dX4_joined_170 : decode cX4_joined 170 = .ok (.lcmp, 1) := by decide +kernel
theorem dX4_joined_171 : decode cX4_joined 171 = .ok (.ifCond .le 7, 3) := by decide +kernel
theorem dX4_joined_174 : decode cX4_joined 174 = .ok (.lconst 1, 1) := by decide +kernel
theorem dX4_joined_175 : decode cX4_joined 175 = .ok (.goto 4, 3) := by decide +kernel
theorem dX4_joined_178 : decode cX4_joined 178 = .ok (.lconst 0, 1) := by decide +kernel
theorem dX4_joined_179 : decode cX4_joined 179 = .ok (.lreturn, 1) := by decide +kernel
theorem dX4_joined_180 : decode cX4_joined 180 = .ok (.lload_n 1, 1) := by decide +kernel
theorem dX4_joined_181 : decode cX4_joined 181 = .ok (.lload_n 3, 1) := by decide +kernel
theorem dX4_joined_182 : decode cX4_joined 182 = .ok (.land, 1) := by decide +kernel
theorem dX4_joined_183 : decode cX4_joined 183 = .ok (.lreturn, 1) := by decide +kernel
theorem dX4_joined_184 : decode cX4_joined 184 = .ok (.lload_n 1, 1) := by decide +kernel
theorem dX4_joined_185 : decode cX4_joined 185 = .ok (.lload_n 3, 1) := by decide +kernel
theorem dX4_joined_186 : decode cX4_joined 186 = .ok (.lor, 1) := by decide +kernel
theorem dX4_joined_187 : decode cX4_joined 187 = .ok (.lreturn, 1) := by decide +kernel
theorem dX4_joined_188 : decode cX4_joined 188 = .ok (.lconst 0, 1) := by decide +kernel
theorem dX4_joined_189 : decode cX4_joined 189 = .ok (.lreturn, 1) := by decide +kernel
theorem dX4_push_0 : decode cX4_push 0 = .ok (.aload_n 0, 1) := by decide +kernel
theorem dX4_push_1 : decode cX4_push 1 = .ok (.getfield 91, 3) := by decide +kernel
theorem dX4_push_4 : decode cX4_push 4 = .ok (.aload_n 0, 1) := by decide +kernel
theorem dX4_push_5 : decode cX4_push 5 = .ok (.getfield 26, 3) := by decide +kernel
theorem dX4_push_8 : decode cX4_push 8 = .ok (.arraylength, 1) := by decide +kernel
theorem dX4_push_9 : decode cX4_push 9 = .ok (.if_icmp .ge 23, 3) := by decide +kernel
theorem dX4_push_12 : decode cX4_push 12 = .ok (.aload_n 0, 1) := by decide +kernel
theorem dX4_push_13 : decode cX4_push 13 = .ok (.getfield 26, 3) := by decide +kernel
theorem dX4_push_16 : decode cX4_push 16 = .ok (.aload_n 0, 1) := by decide +kernel
theorem dX4_push_17 : decode cX4_push 17 = .ok (.getfield 91, 3) := by decide +kernel
theorem dX4_push_20 : decode cX4_push 20 = .ok (.lload_n 1, 1) := by decide +kernel
theorem dX4_push_21 : decode cX4_push 21 = .ok (.lastore, 1) := by decide +kernel
theorem dX4_push_22 : decode cX4_push 22 = .ok (.aload_n 0, 1) := by decide +kernel
theorem dX4_push_23 : decode cX4_push 23 = .ok (.dup, 1) := by decide +kernel
theorem dX4_push_24 : decode cX4_push 24 = .ok (.getfield 91, 3) := by decide +kernel
theorem dX4_push_27 : decode cX4_push 27 = .ok (.iconst 1, 1) := by decide +kernel
theorem dX4_push_28 : decode cX4_push 28 = .ok (.iadd, 1) := by decide +kernel
theorem dX4_push_29 : decode cX4_push 29 = .ok (.putfield 91, 3) := by decide +kernel
theorem dX4_push_32 : decode cX4_push 32 = .ok (.return_, 1) := by decide +kernel
theorem dX4_pop_0 : decode cX4_pop 0 = .ok (.aload_n 0, 1) := by decide +kernel
theorem dX4_pop_1 : decode cX4_pop 1 = .ok (.getfield 91, 3) := by decide +kernel
theorem dX4_pop_4 : decode cX4_pop 4 = .ok (.ifCond .gt 5, 3) := by decide +kernel
theorem dX4_pop_7 : decode cX4_pop 7 = .ok (.lconst 0, 1) := by decide +kernel
theorem dX4_pop_8 : decode cX4_pop 8 = .ok (.lreturn, 1) := by decide +kernel
theorem dX4_pop_9 : decode cX4_pop 9 = .ok (.aload_n 0, 1) := by decide +kernel
theorem dX4_pop_10 : decode cX4_pop 10 = .ok (.dup, 1) := by decide +kernel
theorem dX4_pop_11 : decode cX4_pop 11 = .ok (.getfield 91, 3) := by decide +kernel
theorem dX4_pop_14 : decode cX4_pop 14 = .ok (.iconst 1, 1) := by decide +kernel
theorem dX4_pop_15 : decode cX4_pop 15 = .ok (.isub, 1) := by decide +kernel
theorem dX4_pop_16 : decode cX4_pop 16 = .ok (.putfield 91, 3) := by decide +kernel
theorem dX4_pop_19 : decode cX4_pop 19 = .ok (.aload_n 0, 1) := by decide +kernel
theorem dX4_pop_20 : decode cX4_pop 20 = .ok (.getfield 26, 3) := by decide +kernel
theorem dX4_pop_23 : decode cX4_pop 23 = .ok (.aload_n 0, 1) := by decide +kernel
theorem dX4_pop_24 : decode cX4_pop 24 = .ok (.getfield 91, 3) := by decide +kernel
theorem dX4_pop_27 : decode cX4_pop 27 = .ok (.laload, 1) := by decide +kernel
theorem dX4_pop_28 : decode cX4_pop 28 = .ok (.lreturn, 1) := by decide +kernel
theorem dX5_init_0 : decode cX5_init 0 = .ok (.aload_n 0, 1) := by decide +kernel
theorem dX5_init_1 : decode cX5_init 1 = .ok (.invokespecial 3, 3) := by decide +kernel
theorem dX5_init_4 : decode cX5_init 4 = .ok (.aload_n 0, 1) := by decide +kernel
theorem dX5_init_5 : decode cX5_init 5 = .ok (.aload_n 1, 1) := by decide +kernel
theorem dX5_init_6 : decode cX5_init 6 = .ok (.putfield 9, 3) := by decide +kernel
theorem dX5_init_9 : decode cX5_init 9 = .ok (.aload_n 0, 1) := by decide +kernel
theorem dX5_init_10 : decode cX5_init 10 = .ok (.sipush 400, 3) := by decide +kernel
theorem dX5_init_13 : decode cX5_init 13 = .ok (.newarray .int, 2) := by decide +kernel
theorem dX5_init_15 : decode cX5_init 15 = .ok (.putfield 15, 3) := by decide +kernel
theorem dX5_init_18 : decode cX5_init 18 = .ok (.aload_n 0, 1) := by decide +kernel
theorem dX5_init_19 : decode cX5_init 19 = .ok (.bipush 33, 2) := by decide +kernel
theorem dX5_init_21 : decode cX5_init 21 = .ok (.newarray .int, 2) := by decide +kernel
theorem dX5_init_23 : decode cX5_init 23 = .ok (.putfield 19, 3) := by decide +kernel
theorem dX5_init_26 : decode cX5_init 26 = .ok (.return_, 1) := by decide +kernel
theorem dX5_read_0 : decode cX5_read 0 = .ok (.aload_n 0, 1) := by decide +kernel
theorem dX5_read_1 : decode cX5_read 1 = .ok (.iconst 0, 1) := by decide +kernel
theorem dX5_read_2 : decode cX5_read 2 = .ok (.putfield 22, 3) := by decide +kernel
theorem dX5_read_5 : decode cX5_read 5 = .ok (.aload_n 0, 1) := by decide +kernel
theorem dX5_read_6 : decode cX5_read 6 = .ok (.iconst 0, 1) := by decide +kernel
theorem dX5_read_7 : decode cX5_read 7 = .ok (.putfield 26, 3) := by decide +kernel
theorem dX5_read_10 : decode cX5_read 10 = .ok (.aload_n 0, 1) := by decide +kernel
theorem dX5_read_11 : decode cX5_read 11 = .ok (.getfield 9, 3) := by decide +kernel
theorem dX5_read_14 : decode cX5_read 14 = .ok (.invokevirtual 29, 3) := by decide +kernel
theorem dX5_read_17 : decode cX5_read 17 = .ok (.iconst 1, 1) := by decide +kernel
theorem dX5_read_18 : decode cX5_read 18 = .ok (.istore_n 1, 1) := by decide +kernel
theorem dX5_read_19 : decode cX5_read 19 = .ok (.iload_n 1, 1) := by decide +kernel
theorem dX5_read_20 : decode cX5_read 20 = .ok (.bipush 13, 2) := by decide +kernel
theorem dX5_read_22 : decode cX5_read 22 = .ok (.if_icmp .gt 127, 3) := by decide +kernel
theorem dX5_read_25 : decode cX5_read 25 = .ok (.aload_n 0, 1) := by decide +kernel
theorem dX5_read_26 : decode cX5_read 26 = .ok (.getfield 9, 3) := by decide +kernel
theorem dX5_read_29 : decode cX5_read 29 = .ok (.invokevirtual 32, 3) := by decide +kernel
theorem dX5_read_32 : decode cX5_read 32 = .ok (.aload_n 0, 1) := by decide +kernel
theorem dX5_read_33 : decode cX5_read 33 = .ok (.getfield 9, 3) := by decide +kernel
theorem dX5_read_36 : decode cX5_read 36 = .ok (.ldc 35, 2) := by decide +kernel
theorem dX5_read_38 : decode cX5_read 38 = .ok (.invokevirtual 37, 3) := by decide +kernel
theorem dX5_read_41 : decode cX5_read 41 = .ok (.ifCond .ne 21, 3) := by decide +kernel
theorem dX5_read_44 : decode cX5_read 44 = .ok (.aload_n 0, 1) := by decide +kernel
theorem dX5_read_45 : decode cX5_read 45 = .ok (.getfield 9, 3) := by decide +kernel
theorem dX5_read_48 : decode cX5_read 48 = .ok (.aload_n 0, 1) := by decide +kernel
theorem dX5_read_49 : decode cX5_read 49 = .ok (.getfield 9, 3) := by decide +kernel
theorem dX5_read_52 : decode cX5_read 52 = .ok (.getfield 41, 3) := by decide +kernel
theorem dX5_read_55 : decode cX5_read 55 = .ok (.iconst 0, 1) := by decide +kernel
theorem dX5_read_56 : decode cX5_read 56 = .ok (.invokevirtual 44, 3) := by decide +kernel
theorem dX5_read_59 : decode cX5_read 59 = .ok (.goto 24, 3) := by decide +kernel
theorem dX5_read_62 : decode cX5_read 62 = .ok (.iload_n 1, 1) := by decide +kernel
theorem dX5_read_63 : decode cX5_read 63 = .ok (.bipush 12, 2) := by decide +kernel
theorem dX5_read_65 : decode cX5_read 65 = .ok (.if_icmp .le 18, 3) := by decide +kernel
theorem dX5_read_68 : decode cX5_read 68 = .ok (.aload_n 0, 1) := by decide +kernel
theorem dX5_read_69 : decode cX5_read 69 = .ok (.getfield 9, 3) := by decide +kernel
theorem dX5_read_72 : decode cX5_read 72 = .ok (.aload_n 0, 1) := by decide +kernel
theorem dX5_read_73 : decode cX5_read 73 = .ok (.getfield 9, 3) := by decide +kernel
theorem dX5_read_76 : decode cX5_read 76 = .ok (.getfield 41, 3) := by decide +kernel
theorem dX5_read_79 : decode cX5_read 79 = .ok (.iconst 4, 1) := by decide +kernel
theorem dX5_read_80 : decode cX5_read 80 = .ok (.invokevirtual 44, 3) := by decide +kernel
theorem dX5_read_83 : decode cX5_read 83 = .ok (.aload_n 0, 1) := by decide +kernel
theorem dX5_read_84 : decode cX5_read 84 = .ok (.invokevirtual 48, 3) := by decide +kernel
theorem dX5_read_87 : decode cX5_read 87 = .ok (.aload_n 0, 1) := by decide +kernel
theorem dX5_read_88 : decode cX5_read 88 = .ok (.getfield 9, 3) := by decide +kernel
theorem dX5_read_91 : decode cX5_read 91 = .ok (.invokevirtual 32, 3) := by decide +kernel
theorem dX5_read_94 : decode cX5_read 94 = .ok (.aload_n 0, 1) := by decide +kernel
theorem dX5_read_95 : decode cX5_read 95 = .ok (.getfield 9, 3) := by decide +kernel
theorem dX5_read_98 : decode cX5_read 98 = .ok (.ldc 51, 2) := by decide +kernel
theorem dX5_read_100 : decode cX5_read 100 = .ok (.invokevirtual 37, 3) := by decide +kernel
theorem dX5_read_103 : decode cX5_read 103 = .ok (.ifCond .eq 16, 3) := by decide +kernel
theorem dX5_read_106 : decode cX5_read 106 = .ok (.aload_n 0, 1) := by decide +kernel
theorem dX5_read_107 : decode cX5_read 107 = .ok (.invokevirtual 53, 3) := by decide +kernel
theorem dX5_read_110 : decode cX5_read 110 = .ok (.aload_n 0, 1) := by decide +kernel
theorem dX5_read_111 : decode cX5_read 111 = .ok (.bipush (-41), 2) := by decide +kernel
theorem dX5_read_113 : decode cX5_read 113 = .ok (.invokevirtual 58, 3) := by decide +kernel
theorem dX5_read_116 : decode cX5_read 116 = .ok (.goto 16, 3) := by decide +kernel
theorem dX5_read_119 : decode cX5_read 119 = .ok (.aload_n 0, 1) := by decide +kernel
theorem dX5_read_120 : decode cX5_read 120 = .ok (.getfield 9, 3) := by decide +kernel
theorem dX5_read_123 : decode cX5_read 123 = .ok (.invokevirtual 62, 3) := by decide +kernel
theorem dX5_read_126 : decode cX5_read 126 = .ok (.aload_n 0, 1) := by decide +kernel
theorem dX5_read_127 : decode cX5_read 127 = .ok (.bipush (-40), 2) := by decide +kernel
theorem dX5_read_129 : decode cX5_read 129 = .ok (.invokevirtual 58, 3) := by decide +kernel
theorem dX5_read_132 : decode cX5_read 132 = .ok (.aload_n 0, 1) := by decide +kernel
theorem dX5_read_133 : decode cX5_read 133 = .ok (.getfield 9, 3) := by decide +kernel
theorem dX5_read_136 : decode cX5_read 136 = .ok (.invokevirtual 65, 3) := by decide +kernel
theorem dX5_read_139 : decode cX5_read 139 = .ok (.ifCond .ne 4, 3) := by decide +kernel
theorem dX5_read_142 : decode cX5_read 142 = .ok (.return_, 1) := by decide +kernel
theorem dX5_read_143 : decode cX5_read 143 = .ok (.iinc 1 1, 3) := by decide +kernel
theorem dX5_read_146 : decode cX5_read 146 = .ok (.goto (-127), 3) := by decide +kernel
theorem dX5_read_149 : decode cX5_read 149 = .ok (.return_, 1) := by decide +kernel
theorem dX5_readTest_0 : decode cX5_readTest 0 = .ok (.aload_n 0, 1) := by decide +kernel
theorem dX5_readTest_1 : decode cX5_readTest 1 = .ok (.iconst 0, 1) := by decide +kernel
theorem dX5_readTest_2 : decode cX5_readTest 2 = .ok (.putfield 69, 3) := by decide +kernel
theorem dX5_readTest_5 : decode cX5_readTest 5 = .ok (.aload_n 0, 1) := by decide +kernel
theorem dX5_readTest_6 : decode cX5_readTest 6 = .ok (.iconst 0, 1) := by decide +kernel
theorem dX5_readTest_7 : decode cX5_readTest 7 = .ok (.putfield 72, 3) := by decide +kernel
theorem dX5_readTest_10 : decode cX5_readTest 10 = .ok (.aload_n 0, 1) := by decide +kernel
theorem dX5_readTest_11 : decode cX5_readTest 11 = .ok (.iconst 0, 1) := by decide +kernel
theorem dX5_readTest_12 : decode cX5_readTest 12 = .ok (.putfield 75, 3) := by decide +kernel
theorem dX5_readTest_15 : decode cX5_readTest 15 = .ok (.iconst 1, 1) := by decide +kernel
theorem dX5_readTest_16 : decode cX5_readTest 16 = .ok (.istore_n 1, 1) := by decide +kernel
theorem dX5_readTest_17 : decode cX5_readTest 17 = .ok (.iconst 0, 1) := by decide +kernel
theorem dX5_readTest_18 : decode cX5_readTest 18 = .ok (.istore_n 2, 1) := by decide +kernel
theorem dX5_readTest_19 : decode cX5_readTest 19 = .ok (.iload_n 1, 1) := by decide +kernel
theorem dX5_readTest_20 : decode cX5_readTest 20 = .ok (.ifCond .eq 61, 3) := by decide +kernel
theorem dX5_readTest_23 : decode cX5_readTest 23 = .ok (.iload_n 2, 1) := by decide +kernel
theorem dX5_readTest_24 : decode cX5_readTest 24 = .ok (.sipush 400, 3) := by decide +kernel
theorem dX5_readTest_27 : decode cX5_readTest 27 = .ok (.if_icmp .ge 54, 3) := by decide +kernel
theorem dX5_readTest_30 : decode cX5_readTest 30 = .ok (.aload_n 0, 1) := by decide +kernel
theorem dX5_readTest_31 : decode cX5_readTest 31 = .ok (.invokevirtual 78, 3) := by decide +kernel
theorem dX5_readTest_34 : decode cX5_readTest 34 = .ok (.aload_n 0, 1) := by decide +kernel
theorem dX5_readTest_35 : decode cX5_readTest 35 = .ok (.invokevirtual 48, 3) := by decide +kernel
theorem dX5_readTest_38 : decode cX5_readTest 38 = .ok (.aload_n 0, 1) := by decide +kernel
theorem dX5_readTest_39 : decode cX5_readTest 39 = .ok (.invokevirtual 81, 3) := by decide +kernel
theorem dX5_readTest_42 : decode cX5_readTest 42 = .ok (.istore_n 3, 1) := by decide +kernel
theorem dX5_readTest_43 : decode cX5_readTest 43 = .ok (.aload_n 0, 1) := by decide +kernel
theorem dX5_readTest_44 : decode cX5_readTest 44 = .ok (.invokevirtual 48, 3) := by decide +kernel
theorem dX5_readTest_47 : decode cX5_readTest 47 = .ok (.aload_n 0, 1) := by decide +kernel
theorem dX5_readTest_48 : decode cX5_readTest 48 = .ok (.iload_n 3, 1) := by decide +kernel
theorem dX5_readTest_49 : decode cX5_readTest 49 = .ok (.invokevirtual 58, 3) := by decide +kernel
theorem dX5_readTest_52 : decode cX5_readTest 52 = .ok (.aload_n 0, 1) := by decide +kernel
theorem dX5_readTest_53 : decode cX5_readTest 53 = .ok (.getfield 9, 3) := by decide +kernel
theorem dX5_readTest_56 : decode cX5_readTest 56 = .ok (.getfield 85, 3) := by decide +kernel
theorem dX5_readTest_59 : decode cX5_readTest 59 = .ok (.ifCond .ne 14, 3) := by decide +kernel
theorem dX5_readTest_62 : decode cX5_readTest 62 = .ok (.aload_n 0, 1) := by decide +kernel
theorem dX5_readTest_63 : decode cX5_readTest 63 = .ok (.invokevirtual 88, 3) := by decide +kernel
theorem dX5_readTest_66 : decode cX5_readTest 66 = .ok (.ifCond .eq 7, 3) := by decide +kernel
theorem dX5_readTest_69 : decode cX5_readTest 69 = .ok (.iconst 1, 1) := by decide +kernel
theorem dX5_readTest_70 : decode cX5_readTest 70 = .ok (.goto 4, 3) := by decide +kernel
theorem dX5_readTest_73 : decode cX5_readTest 73 = .ok (.iconst 0, 1) := by decide +kernel
theorem dX5_readTest_74 : decode cX5_readTest 74 = .ok (.istore_n 1, 1) := by decide +kernel
theorem dX5_readTest_75 : decode cX5_readTest 75 = .ok (.iinc 2 1, 3) := by decide +kernel
theorem dX5_readTest_78 : decode cX5_readTest 78 = .ok (.goto (-59), 3) := by decide +kernel
theorem dX5_readTest_81 : decode cX5_readTest 81 = .ok (.return_, 1) := by decide +kernel
theorem dX5_openFact_0 : decode cX5_openFact 0 = .ok (.iconst 0, 1) := by decide +kernel
theorem dX5_openFact_1 : decode cX5_openFact 1 = .ok (.istore_n 1, 1) := by decide +kernel
theorem dX5_openFact_2 : decode cX5_openFact 2 = .ok (.iload_n 1, 1) := by decide +kernel
theorem dX5_openFact_3 : decode cX5_openFact 3 = .ok (.bipush 10, 2) := by decide +kernel
theorem dX5_openFact_5 : decode cX5_openFact 5 = .ok (.if_icmp .gt 59, 3) := by decide +kernel
theorem dX5_openFact_8 : decode cX5_openFact 8 = .ok (.aload_n 0, 1) := by decide +kernel
theorem dX5_openFact_9 : decode cX5_openFact 9 = .ok (.invokevirtual 91, 3) := by decide +kernel
theorem dX5_openFact_12 : decode cX5_openFact 12 = .ok (.istore_n 2, 1) := by decide +kernel
theorem dX5_openFact_13 : decode cX5_openFact 13 = .ok (.iload_n 2, 1) := by decide +kernel
theorem dX5_openFact_14 : decode cX5_openFact 14 = .ok (.ifCond .ne 4, 3) := by decide +kernel
theorem dX5_openFact_17 : decode cX5_openFact 17 = .ok (.return_, 1) := by decide +kernel
theorem dX5_openFact_18 : decode cX5_openFact 18 = .ok (.aload_n 0, 1) := by decide +kernel
theorem dX5_openFact_19 : decode cX5_openFact 19 = .ok (.getfield 72, 3) := by decide +kernel
theorem dX5_openFact_22 : decode cX5_openFact 22 = .ok (.bipush 10, 2) := by decide +kernel
theorem dX5_openFact_24 : decode cX5_openFact 24 = .ok (.if_icmp .lt 19, 3) := by decide +kernel
theorem dX5_openFact_27 : decode cX5_openFact 27 = .ok (.aload_n 0, 1) := by decide +kernel
theorem dX5_openFact_28 : decode cX5_openFact 28 = .ok (.getfield 9, 3) := by decide +kernel
theorem dX5_openFact_31 : decode cX5_openFact 31 = .ok (.aload_n 0, 1) := by decide +kernel
theorem dX5_openFact_32 : decode cX5_openFact 32 = .ok (.getfield 9, 3) := by decide +kernel
theorem dX5_openFact_35 : decode cX5_openFact 35 = .ok (.getfield 41, 3) := by decide +kernel
theorem dX5_openFact_38 : decode cX5_openFact 38 = .ok (.iconst 2, 1) := by decide +kernel
theorem dX5_openFact_39 : decode cX5_openFact 39 = .ok (.invokevirtual 44, 3) := by decide +kernel
theorem dX5_openFact_42 : decode cX5_openFact 42 = .ok (.return_, 1) := by decide +kernel
theorem dX5_openFact_43 : decode cX5_openFact 43 = .ok (.aload_n 0, 1) := by decide +kernel
theorem dX5_openFact_44 : decode cX5_openFact 44 = .ok (.dup, 1) := by decide +kernel
theorem dX5_openFact_45 : decode cX5_openFact 45 = .ok (.getfield 72, 3) := by decide +kernel
theorem dX5_openFact_48 : decode cX5_openFact 48 = .ok (.iconst 1, 1) := by decide +kernel
theorem dX5_openFact_49 : decode cX5_openFact 49 = .ok (.iadd, 1) := by decide +kernel
theorem dX5_openFact_50 : decode cX5_openFact 50 = .ok (.putfield 72, 3) := by decide +kernel
theorem dX5_openFact_53 : decode cX5_openFact 53 = .ok (.aload_n 0, 1) := by decide +kernel
theorem dX5_openFact_54 : decode cX5_openFact 54 = .ok (.iload_n 2, 1) := by decide +kernel
theorem dX5_openFact_55 : decode cX5_openFact 55 = .ok (.invokevirtual 94, 3) := by decide +kernel
theorem dX5_openFact_58 : decode cX5_openFact 58 = .ok (.iinc 1 1, 3) := by decide +kernel
theorem dX5_openFact_61 : decode cX5_openFact 61 = .ok (.goto (-59), 3) := by decide +kernel
theorem dX5_openFact_64 : decode cX5_openFact 64 = .ok (.return_, 1) := by decide +kernel
theorem dX5_takeOpening_0 : decode cX5_takeOpening 0 = .ok (.aload_n 0, 1) := by decide +kernel
