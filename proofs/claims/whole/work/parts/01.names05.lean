theorem dX12_isTentHere_64 : decode cX12_isTentHere 64 = .ok (.aload_n 0, 1) := by decide +kernel
theorem dX12_isTentHere_65 : decode cX12_isTentHere 65 = .ok (.getfield 26, 3) := by decide +kernel
theorem dX12_isTentHere_68 : decode cX12_isTentHere 68 = .ok (.iconst 2, 1) := by decide +kernel
theorem dX12_isTentHere_69 : decode cX12_isTentHere 69 = .ok (.dup2, 1) := by decide +kernel
theorem dX12_isTentHere_70 : decode cX12_isTentHere 70 = .ok (.iaload, 1) := by decide +kernel
theorem dX12_isTentHere_71 : decode cX12_isTentHere 71 = .ok (.iconst 1, 1) := by decide +kernel
theorem dX12_isTentHere_72 : decode cX12_isTentHere 72 = .ok (.iadd, 1) := by decide +kernel
theorem dX12_isTentHere_73 : decode cX12_isTentHere 73 = .ok (.iastore, 1) := by decide +kernel
theorem dX12_isTentHere_74 : decode cX12_isTentHere 74 = .ok (.iconst 1, 1) := by decide +kernel
theorem dX12_isTentHere_75 : decode cX12_isTentHere 75 = .ok (.ireturn, 1) := by decide +kernel
theorem dX12_isBushHere_0 : decode cX12_isBushHere 0 = .ok (.aload_n 0, 1) := by decide +kernel
theorem dX12_isBushHere_1 : decode cX12_isBushHere 1 = .ok (.invokevirtual 123, 3) := by decide +kernel
theorem dX12_isBushHere_4 : decode cX12_isBushHere 4 = .ok (.aload_n 0, 1) := by decide +kernel
theorem dX12_isBushHere_5 : decode cX12_isBushHere 5 = .ok (.iconst 0, 1) := by decide +kernel
theorem dX12_isBushHere_6 : decode cX12_isBushHere 6 = .ok (.aload_n 0, 1) := by decide +kernel
theorem dX12_isBushHere_7 : decode cX12_isBushHere 7 = .ok (.invokevirtual 238, 3) := by decide +kernel
theorem dX12_isBushHere_10 : decode cX12_isBushHere 10 = .ok (.invokevirtual 183, 3) := by decide +kernel
theorem dX12_isBushHere_13 : decode cX12_isBushHere 13 = .ok (.ifCond .ne 5, 3) := by decide +kernel
theorem dX12_isBushHere_16 : decode cX12_isBushHere 16 = .ok (.iconst 0, 1) := by decide +kernel
theorem dX12_isBushHere_17 : decode cX12_isBushHere 17 = .ok (.ireturn, 1) := by decide +kernel
theorem dX12_isBushHere_18 : decode cX12_isBushHere 18 = .ok (.aload_n 0, 1) := by decide +kernel
theorem dX12_isBushHere_19 : decode cX12_isBushHere 19 = .ok (.getfield 26, 3) := by decide +kernel
theorem dX12_isBushHere_22 : decode cX12_isBushHere 22 = .ok (.bipush 122, 2) := by decide +kernel
theorem dX12_isBushHere_24 : decode cX12_isBushHere 24 = .ok (.aload_n 0, 1) := by decide +kernel
theorem dX12_isBushHere_25 : decode cX12_isBushHere 25 = .ok (.getfield 133, 3) := by decide +kernel
theorem dX12_isBushHere_28 : decode cX12_isBushHere 28 = .ok (.iadd, 1) := by decide +kernel
theorem dX12_isBushHere_29 : decode cX12_isBushHere 29 = .ok (.iconst 1, 1) := by decide +kernel
theorem dX12_isBushHere_30 : decode cX12_isBushHere 30 = .ok (.iastore, 1) := by decide +kernel
theorem dX12_isBushHere_31 : decode cX12_isBushHere 31 = .ok (.iconst 1, 1) := by decide +kernel
theorem dX12_isBushHere_32 : decode cX12_isBushHere 32 = .ok (.ireturn, 1) := by decide +kernel
theorem dX12_campLineHere_0 : decode cX12_campLineHere 0 = .ok (.aload_n 0, 1) := by decide +kernel
theorem dX12_campLineHere_1 : decode cX12_campLineHere 1 = .ok (.ldc2_w 241, 3) := by decide +kernel
theorem dX12_campLineHere_4 : decode cX12_campLineHere 4 = .ok (.invokevirtual 119, 3) := by decide +kernel
theorem dX12_campLineHere_7 : decode cX12_campLineHere 7 = .ok (.ifCond .eq 9, 3) := by decide +kernel
theorem dX12_campLineHere_10 : decode cX12_campLineHere 10 = .ok (.aload_n 0, 1) := by decide +kernel
theorem dX12_campLineHere_11 : decode cX12_campLineHere 11 = .ok (.iload_n 1, 1) := by decide +kernel
theorem dX12_campLineHere_12 : decode cX12_campLineHere 12 = .ok (.invokevirtual 243, 3) := by decide +kernel
theorem dX12_campLineHere_15 : decode cX12_campLineHere 15 = .ok (.ireturn, 1) := by decide +kernel
theorem dX12_campLineHere_16 : decode cX12_campLineHere 16 = .ok (.aload_n 0, 1) := by decide +kernel
theorem dX12_campLineHere_17 : decode cX12_campLineHere 17 = .ok (.getfield 26, 3) := by decide +kernel
theorem dX12_campLineHere_20 : decode cX12_campLineHere 20 = .ok (.iconst 0, 1) := by decide +kernel
theorem dX12_campLineHere_21 : decode cX12_campLineHere 21 = .ok (.iaload, 1) := by decide +kernel
theorem dX12_campLineHere_22 : decode cX12_campLineHere 22 = .ok (.ifCond .ne 10, 3) := by decide +kernel
theorem dX12_campLineHere_25 : decode cX12_campLineHere 25 = .ok (.aload_n 0, 1) := by decide +kernel
theorem dX12_campLineHere_26 : decode cX12_campLineHere 26 = .ok (.iconst 4, 1) := by decide +kernel
theorem dX12_campLineHere_27 : decode cX12_campLineHere 27 = .ok (.iload_n 1, 1) := by decide +kernel
theorem dX12_campLineHere_28 : decode cX12_campLineHere 28 = .ok (.invokevirtual 129, 3) := by decide +kernel
theorem dX12_campLineHere_31 : decode cX12_campLineHere 31 = .ok (.ireturn, 1) := by decide +kernel
theorem dX12_campLineHere_32 : decode cX12_campLineHere 32 = .ok (.aload_n 0, 1) := by decide +kernel
theorem dX12_campLineHere_33 : decode cX12_campLineHere 33 = .ok (.ldc2_w 246, 3) := by decide +kernel
theorem dX12_campLineHere_36 : decode cX12_campLineHere 36 = .ok (.invokevirtual 119, 3) := by decide +kernel
theorem dX12_campLineHere_39 : decode cX12_campLineHere 39 = .ok (.ifCond .eq 11, 3) := by decide +kernel
theorem dX12_campLineHere_42 : decode cX12_campLineHere 42 = .ok (.aload_n 0, 1) := by decide +kernel
theorem dX12_campLineHere_43 : decode cX12_campLineHere 43 = .ok (.iload_n 1, 1) := by decide +kernel
theorem dX12_campLineHere_44 : decode cX12_campLineHere 44 = .ok (.invokevirtual 248, 3) := by decide +kernel
theorem dX12_campLineHere_47 : decode cX12_campLineHere 47 = .ok (.goto 7, 3) := by decide +kernel
theorem dX12_campLineHere_50 : decode cX12_campLineHere 50 = .ok (.aload_n 0, 1) := by decide +kernel
theorem dX12_campLineHere_51 : decode cX12_campLineHere 51 = .ok (.invokevirtual 251, 3) := by decide +kernel
theorem dX12_campLineHere_54 : decode cX12_campLineHere 54 = .ok (.ireturn, 1) := by decide +kernel
theorem dX12_isCampWord_0 : decode cX12_isCampWord 0 = .ok (.aload_n 0, 1) := by decide +kernel
theorem dX12_isCampWord_1 : decode cX12_isCampWord 1 = .ok (.ldc2_w 241, 3) := by decide +kernel
theorem dX12_isCampWord_4 : decode cX12_isCampWord 4 = .ok (.invokevirtual 119, 3) := by decide +kernel
theorem dX12_isCampWord_7 : decode cX12_isCampWord 7 = .ok (.ifCond .ne 23, 3) := by decide +kernel
theorem dX12_isCampWord_10 : decode cX12_isCampWord 10 = .ok (.aload_n 0, 1) := by decide +kernel
theorem dX12_isCampWord_11 : decode cX12_isCampWord 11 = .ok (.ldc2_w 246, 3) := by decide +kernel
theorem dX12_isCampWord_14 : decode cX12_isCampWord 14 = .ok (.invokevirtual 119, 3) := by decide +kernel
theorem dX12_isCampWord_17 : decode cX12_isCampWord 17 = .ok (.ifCond .ne 13, 3) := by decide +kernel
theorem dX12_isCampWord_20 : decode cX12_isCampWord 20 = .ok (.aload_n 0, 1) := by decide +kernel
theorem dX12_isCampWord_21 : decode cX12_isCampWord 21 = .ok (.ldc2_w 254, 3) := by decide +kernel
theorem dX12_isCampWord_24 : decode cX12_isCampWord 24 = .ok (.invokevirtual 119, 3) := by decide +kernel
theorem dX12_isCampWord_27 : decode cX12_isCampWord 27 = .ok (.ifCond .eq 7, 3) := by decide +kernel
theorem dX12_isCampWord_30 : decode cX12_isCampWord 30 = .ok (.iconst 1, 1) := by decide +kernel
theorem dX12_isCampWord_31 : decode cX12_isCampWord 31 = .ok (.goto 4, 3) := by decide +kernel
theorem dX12_isCampWord_34 : decode cX12_isCampWord 34 = .ok (.iconst 0, 1) := by decide +kernel
theorem dX12_isCampWord_35 : decode cX12_isCampWord 35 = .ok (.ireturn, 1) := by decide +kernel
theorem dX12_clauseHere_0 : decode cX12_clauseHere 0 = .ok (.aload_n 0, 1) := by decide +kernel
theorem dX12_clauseHere_1 : decode cX12_clauseHere 1 = .ok (.invokevirtual 111, 3) := by decide +kernel
theorem dX12_clauseHere_4 : decode cX12_clauseHere 4 = .ok (.pop, 1) := by decide +kernel
theorem dX12_clauseHere_5 : decode cX12_clauseHere 5 = .ok (.aload_n 0, 1) := by decide +kernel
theorem dX12_clauseHere_6 : decode cX12_clauseHere 6 = .ok (.getfield 108, 3) := by decide +kernel
theorem dX12_clauseHere_9 : decode cX12_clauseHere 9 = .ok (.istore_n 1, 1) := by decide +kernel
theorem dX12_clauseHere_10 : decode cX12_clauseHere 10 = .ok (.aload_n 0, 1) := by decide +kernel
theorem dX12_clauseHere_11 : decode cX12_clauseHere 11 = .ok (.getfield 162, 3) := by decide +kernel
theorem dX12_clauseHere_14 : decode cX12_clauseHere 14 = .ok (.bipush 6, 2) := by decide +kernel
theorem dX12_clauseHere_16 : decode cX12_clauseHere 16 = .ok (.if_icmp .ne 7, 3) := by decide +kernel
theorem dX12_clauseHere_19 : decode cX12_clauseHere 19 = .ok (.iconst 1, 1) := by decide +kernel
theorem dX12_clauseHere_20 : decode cX12_clauseHere 20 = .ok (.goto 4, 3) := by decide +kernel
theorem dX12_clauseHere_23 : decode cX12_clauseHere 23 = .ok (.iconst 0, 1) := by decide +kernel
theorem dX12_clauseHere_24 : decode cX12_clauseHere 24 = .ok (.istore_n 2, 1) := by decide +kernel
theorem dX12_clauseHere_25 : decode cX12_clauseHere 25 = .ok (.iload_n 2, 1) := by decide +kernel
theorem dX12_clauseHere_26 : decode cX12_clauseHere 26 = .ok (.ifCond .eq 13, 3) := by decide +kernel
theorem dX12_clauseHere_29 : decode cX12_clauseHere 29 = .ok (.aload_n 0, 1) := by decide +kernel
theorem dX12_clauseHere_30 : decode cX12_clauseHere 30 = .ok (.invokevirtual 256, 3) := by decide +kernel
theorem dX12_clauseHere_33 : decode cX12_clauseHere 33 = .ok (.ifCond .ne 23, 3) := by decide +kernel
theorem dX12_clauseHere_36 : decode cX12_clauseHere 36 = .ok (.goto 13, 3) := by decide +kernel
theorem dX12_clauseHere_39 : decode cX12_clauseHere 39 = .ok (.aload_n 0, 1) := by decide +kernel
theorem dX12_clauseHere_40 : decode cX12_clauseHere 40 = .ok (.ldc2_w 259, 3) := by decide +kernel
theorem dX12_clauseHere_43 : decode cX12_clauseHere 43 = .ok (.invokevirtual 119, 3) := by decide +kernel
theorem dX12_clauseHere_46 : decode cX12_clauseHere 46 = .ok (.ifCond .ne 10, 3) := by decide +kernel
theorem dX12_clauseHere_49 : decode cX12_clauseHere 49 = .ok (.aload_n 0, 1) := by decide +kernel
theorem dX12_clauseHere_50 : decode cX12_clauseHere 50 = .ok (.iconst 0, 1) := by decide +kernel
theorem dX12_clauseHere_51 : decode cX12_clauseHere 51 = .ok (.iload_n 1, 1) := by decide +kernel
theorem dX12_clauseHere_52 : decode cX12_clauseHere 52 = .ok (.invokevirtual 129, 3) := by decide +kernel
theorem dX12_clauseHere_55 : decode cX12_clauseHere 55 = .ok (.ireturn, 1) := by decide +kernel
theorem dX12_clauseHere_56 : decode cX12_clauseHere 56 = .ok (.aload_n 0, 1) := by decide +kernel
theorem dX12_clauseHere_57 : decode cX12_clauseHere 57 = .ok (.getfield 261, 3) := by decide +kernel
theorem dX12_clauseHere_60 : decode cX12_clauseHere 60 = .ok (.iload_n 2, 1) := by decide +kernel
theorem dX12_clauseHere_61 : decode cX12_clauseHere 61 = .ok (.ifCond .eq 8, 3) := by decide +kernel
theorem dX12_clauseHere_64 : decode cX12_clauseHere 64 = .ok (.bipush 40, 2) := by decide +kernel
theorem dX12_clauseHere_66 : decode cX12_clauseHere 66 = .ok (.goto 5, 3) := by decide +kernel
theorem dX12_clauseHere_69 : decode cX12_clauseHere 69 = .ok (.bipush 12, 2) := by decide +kernel
theorem dX12_clauseHere_71 : decode cX12_clauseHere 71 = .ok (.if_icmp .ne 10, 3) := by decide +kernel
theorem dX12_clauseHere_74 : decode cX12_clauseHere 74 = .ok (.aload_n 0, 1) := by decide +kernel
theorem dX12_clauseHere_75 : decode cX12_clauseHere 75 = .ok (.iconst 4, 1) := by decide +kernel
theorem dX12_clauseHere_76 : decode cX12_clauseHere 76 = .ok (.iload_n 1, 1) := by decide +kernel
theorem dX12_clauseHere_77 : decode cX12_clauseHere 77 = .ok (.invokevirtual 129, 3) := by decide +kernel
theorem dX12_clauseHere_80 : decode cX12_clauseHere 80 = .ok (.ireturn, 1) := by decide +kernel
theorem dX12_clauseHere_81 : decode cX12_clauseHere 81 = .ok (.aload_n 0, 1) := by decide +kernel
theorem dX12_clauseHere_82 : decode cX12_clauseHere 82 = .ok (.dup, 1) := by decide +kernel
theorem dX12_clauseHere_83 : decode cX12_clauseHere 83 = .ok (.getfield 261, 3) := by decide +kernel
theorem dX12_clauseHere_86 : decode cX12_clauseHere 86 = .ok (.iconst 1, 1) := by decide +kernel
theorem dX12_clauseHere_87 : decode cX12_clauseHere 87 = .ok (.iadd, 1) := by decide +kernel
theorem dX12_clauseHere_88 : decode cX12_clauseHere 88 = .ok (.putfield 261, 3) := by decide +kernel
theorem dX12_clauseHere_91 : decode cX12_clauseHere 91 = .ok (.iload_n 2, 1) := by decide +kernel
theorem dX12_clauseHere_92 : decode cX12_clauseHere 92 = .ok (.ifCond .eq 11, 3) := by decide +kernel
theorem dX12_clauseHere_95 : decode cX12_clauseHere 95 = .ok (.aload_n 0, 1) := by decide +kernel
theorem dX12_clauseHere_96 : decode cX12_clauseHere 96 = .ok (.iload_n 1, 1) := by decide +kernel
theorem dX12_clauseHere_97 : decode cX12_clauseHere 97 = .ok (.invokevirtual 264, 3) := by decide +kernel
theorem dX12_clauseHere_100 : decode cX12_clauseHere 100 = .ok (.goto 7, 3) := by decide +kernel
theorem dX12_clauseHere_103 : decode cX12_clauseHere 103 = .ok (.aload_n 0, 1) := by decide +kernel
theorem dX12_clauseHere_104 : decode cX12_clauseHere 104 = .ok (.invokevirtual 267, 3) := by decide +kernel
theorem dX12_clauseHere_107 : decode cX12_clauseHere 107 = .ok (.ireturn, 1) := by decide +kernel
theorem dX12_readsAll_0 : decode cX12_readsAll 0 = .ok (.aload_n 0, 1) := by decide +kernel
theorem dX12_readsAll_1 : decode cX12_readsAll 1 = .ok (.getfield 17, 3) := by decide +kernel
theorem dX12_readsAll_4 : decode cX12_readsAll 4 = .ok (.aload_n 0, 1) := by decide +kernel
theorem dX12_readsAll_5 : decode cX12_readsAll 5 = .ok (.getfield 162, 3) := by decide +kernel
theorem dX12_readsAll_8 : decode cX12_readsAll 8 = .ok (.iconst 0, 1) := by decide +kernel
theorem dX12_readsAll_9 : decode cX12_readsAll 9 = .ok (.iastore, 1) := by decide +kernel
theorem dX12_readsAll_10 : decode cX12_readsAll 10 = .ok (.aload_n 0, 1) := by decide +kernel
theorem dX12_readsAll_11 : decode cX12_readsAll 11 = .ok (.iconst 0, 1) := by decide +kernel
theorem dX12_readsAll_12 : decode cX12_readsAll 12 = .ok (.putfield 261, 3) := by decide +kernel
theorem dX12_readsAll_15 : decode cX12_readsAll 15 = .ok (.aload_n 0, 1) := by decide +kernel
theorem dX12_readsAll_16 : decode cX12_readsAll 16 = .ok (.iconst 0, 1) := by decide +kernel
theorem dX12_readsAll_17 : decode cX12_readsAll 17 = .ok (.putfield 108, 3) := by decide +kernel
theorem dX12_readsAll_20 : decode cX12_readsAll 20 = .ok (.aload_n 0, 1) := by decide +kernel
theorem dX12_readsAll_21 : decode cX12_readsAll 21 = .ok (.iconst 0, 1) := by decide +kernel
theorem dX12_readsAll_22 : decode cX12_readsAll 22 = .ok (.putfield 105, 3) := by decide +kernel
theorem dX12_readsAll_25 : decode cX12_readsAll 25 = .ok (.aload_n 0, 1) := by decide +kernel
theorem dX12_readsAll_26 : decode cX12_readsAll 26 = .ok (.iconst 0, 1) := by decide +kernel
theorem dX12_readsAll_27 : decode cX12_readsAll 27 = .ok (.putfield 165, 3) := by decide +kernel
theorem dX12_readsAll_30 : decode cX12_readsAll 30 = .ok (.aload_n 0, 1) := by decide +kernel
theorem dX12_readsAll_31 : decode cX12_readsAll 31 = .ok (.invokevirtual 270, 3) := by decide +kernel
theorem dX12_readsAll_34 : decode cX12_readsAll 34 = .ok (.istore_n 1, 1) := by decide +kernel
theorem dX12_readsAll_35 : decode cX12_readsAll 35 = .ok (.iload_n 1, 1) := by decide +kernel
theorem dX12_readsAll_36 : decode cX12_readsAll 36 = .ok (.ifCond .eq 30, 3) := by decide +kernel
theorem dX12_readsAll_39 : decode cX12_readsAll 39 = .ok (.aload_n 0, 1) := by decide +kernel
theorem dX12_readsAll_40 : decode cX12_readsAll 40 = .ok (.invokevirtual 111, 3) := by decide +kernel
theorem dX12_readsAll_43 : decode cX12_readsAll 43 = .ok (.bipush 59, 2) := by decide +kernel
theorem dX12_readsAll_45 : decode cX12_readsAll 45 = .ok (.if_icmp .ne 21, 3) := by decide +kernel
theorem dX12_readsAll_48 : decode cX12_readsAll 48 = .ok (.aload_n 0, 1) := by decide +kernel
theorem dX12_readsAll_49 : decode cX12_readsAll 49 = .ok (.dup, 1) := by decide +kernel
theorem dX12_readsAll_50 : decode cX12_readsAll 50 = .ok (.getfield 108, 3) := by decide +kernel
theorem dX12_readsAll_53 : decode cX12_readsAll 53 = .ok (.iconst 1, 1) := by decide +kernel
theorem dX12_readsAll_54 : decode cX12_readsAll 54 = .ok (.iadd, 1) := by decide +kernel
theorem dX12_readsAll_55 : decode cX12_readsAll 55 = .ok (.putfield 108, 3) := by decide +kernel
theorem dX12_readsAll_58 : decode cX12_readsAll 58 = .ok (.aload_n 0, 1) := by decide +kernel
theorem dX12_readsAll_59 : decode cX12_readsAll 59 = .ok (.invokevirtual 270, 3) := by decide +kernel
theorem dX12_readsAll_62 : decode cX12_readsAll 62 = .ok (.istore_n 1, 1) := by decide +kernel
theorem dX12_readsAll_63 : decode cX12_readsAll 63 = .ok (.goto (-28), 3) := by decide +kernel
theorem dX12_readsAll_66 : decode cX12_readsAll 66 = .ok (.iload_n 1, 1) := by decide +kernel
theorem dX12_readsAll_67 : decode cX12_readsAll 67 = .ok (.ifCond .eq 21, 3) := by decide +kernel
theorem dX12_readsAll_70 : decode cX12_readsAll 70 = .ok (.aload_n 0, 1) := by decide +kernel
theorem dX12_readsAll_71 : decode cX12_readsAll 71 = .ok (.invokevirtual 111, 3) := by decide +kernel
theorem dX12_readsAll_74 : decode cX12_readsAll 74 = .ok (.iconst (-1), 1) := by decide +kernel
theorem dX12_readsAll_75 : decode cX12_readsAll 75 = .ok (.if_icmp .eq 13, 3) := by decide +kernel
theorem dX12_readsAll_78 : decode cX12_readsAll 78 = .ok (.aload_n 0, 1) := by decide +kernel
theorem dX12_readsAll_79 : decode cX12_readsAll 79 = .ok (.iconst 0, 1) := by decide +kernel
theorem dX12_readsAll_80 : decode cX12_readsAll 80 = .ok (.aload_n 0, 1) := by decide +kernel
theorem dX12_readsAll_81 : decode cX12_readsAll 81 = .ok (.getfield 108, 3) := by decide +kernel
theorem dX12_readsAll_84 : decode cX12_readsAll 84 = .ok (.invokevirtual 129, 3) := by decide +kernel
theorem dX12_readsAll_87 : decode cX12_readsAll 87 = .ok (.pop, 1) := by decide +kernel
theorem dX12_readsAll_88 : decode cX12_readsAll 88 = .ok (.aload_n 0, 1) := by decide +kernel
theorem dX12_readsAll_89 : decode cX12_readsAll 89 = .ok (.iconst 0, 1) := by decide +kernel
theorem dX12_readsAll_90 : decode cX12_readsAll 90 = .ok (.putfield 98, 3) := by decide +kernel
theorem dX12_readsAll_93 : decode cX12_readsAll 93 = .ok (.aload_n 0, 1) := by decide +kernel
theorem dX12_readsAll_94 : decode cX12_readsAll 94 = .ok (.getfield 105, 3) := by decide +kernel
theorem dX12_readsAll_97 : decode cX12_readsAll 97 = .ok (.ifCond .ne 7, 3) := by decide +kernel
theorem dX12_readsAll_100 : decode cX12_readsAll 100 = .ok (.iconst 1, 1) := by decide +kernel
theorem dX12_readsAll_101 : decode cX12_readsAll 101 = .ok (.goto 4, 3) := by decide +kernel
theorem dX12_readsAll_104 : decode cX12_readsAll 104 = .ok (.iconst 0, 1) := by decide +kernel
theorem dX12_readsAll_105 : decode cX12_readsAll 105 = .ok (.ireturn, 1) := by decide +kernel
theorem dX12_rule_0 : decode cX12_rule 0 = .ok (.aload_n 0, 1) := by decide +kernel
theorem dX12_rule_1 : decode cX12_rule 1 = .ok (.getfield 273, 3) := by decide +kernel
theorem dX12_rule_4 : decode cX12_rule 4 = .ok (.bipush 6, 2) := by decide +kernel
theorem dX12_rule_6 : decode cX12_rule 6 = .ok (.if_icmp .ne 5, 3) := by decide +kernel
theorem dX12_rule_9 : decode cX12_rule 9 = .ok (.iconst (-1), 1) := by decide +kernel
theorem dX12_rule_10 : decode cX12_rule 10 = .ok (.ireturn, 1) := by decide +kernel
theorem dX12_rule_11 : decode cX12_rule 11 = .ok (.aload_n 0, 1) := by decide +kernel
theorem dX12_rule_12 : decode cX12_rule 12 = .ok (.aload_n 0, 1) := by decide +kernel
theorem dX12_rule_13 : decode cX12_rule 13 = .ok (.getfield 273, 3) := by decide +kernel
theorem dX12_rule_16 : decode cX12_rule 16 = .ok (.putfield 162, 3) := by decide +kernel
theorem dX12_rule_19 : decode cX12_rule 19 = .ok (.aload_n 0, 1) := by decide +kernel
theorem dX12_rule_20 : decode cX12_rule 20 = .ok (.getfield 23, 3) := by decide +kernel
theorem dX12_rule_23 : decode cX12_rule 23 = .ok (.aload_n 0, 1) := by decide +kernel
theorem dX12_rule_24 : decode cX12_rule 24 = .ok (.getfield 162, 3) := by decide +kernel
theorem dX12_rule_27 : decode cX12_rule 27 = .ok (.iconst 0, 1) := by decide +kernel
theorem dX12_rule_28 : decode cX12_rule 28 = .ok (.iastore, 1) := by decide +kernel
theorem dX12_rule_29 : decode cX12_rule 29 = .ok (.aload_n 0, 1) := by decide +kernel
theorem dX12_rule_30 : decode cX12_rule 30 = .ok (.invokevirtual 276, 3) := by decide +kernel
theorem dX12_rule_33 : decode cX12_rule 33 = .ok (.ifCond .ne 11, 3) := by decide +kernel
theorem dX12_rule_36 : decode cX12_rule 36 = .ok (.bipush (-2), 2) := by decide +kernel
theorem dX12_rule_38 : decode cX12_rule 38 = .ok (.aload_n 0, 1) := by decide +kernel
theorem dX12_rule_39 : decode cX12_rule 39 = .ok (.getfield 105, 3) := by decide +kernel
theorem dX12_rule_42 : decode cX12_rule 42 = .ok (.isub, 1) := by decide +kernel
theorem dX12_rule_43 : decode cX12_rule 43 = .ok (.ireturn, 1) := by decide +kernel
theorem dX12_rule_44 : decode cX12_rule 44 = .ok (.aload_n 0, 1) := by decide +kernel
theorem dX12_rule_45 : decode cX12_rule 45 = .ok (.dup, 1) := by decide +kernel
theorem dX12_rule_46 : decode cX12_rule 46 = .ok (.getfield 273, 3) := by decide +kernel
theorem dX12_rule_49 : decode cX12_rule 49 = .ok (.iconst 1, 1) := by decide +kernel
theorem dX12_rule_50 : decode cX12_rule 50 = .ok (.iadd, 1) := by decide +kernel
theorem dX12_rule_51 : decode cX12_rule 51 = .ok (.putfield 273, 3) := by decide +kernel
theorem dX12_rule_54 : decode cX12_rule 54 = .ok (.aload_n 0, 1) := by decide +kernel
theorem dX12_rule_55 : decode cX12_rule 55 = .ok (.getfield 273, 3) := by decide +kernel
theorem dX12_rule_58 : decode cX12_rule 58 = .ok (.iconst 1, 1) := by decide +kernel
theorem dX12_rule_59 : decode cX12_rule 59 = .ok (.isub, 1) := by decide +kernel
theorem dX12_rule_60 : decode cX12_rule 60 = .ok (.ireturn, 1) := by decide +kernel
theorem dX12_camp_0 : decode cX12_camp 0 = .ok (.aload_n 0, 1) := by decide +kernel
theorem dX12_camp_1 : decode cX12_camp 1 = .ok (.bipush 6, 2) := by decide +kernel
theorem dX12_camp_3 : decode cX12_camp 3 = .ok (.putfield 162, 3) := by decide +kernel
theorem dX12_camp_6 : decode cX12_camp 6 = .ok (.iconst 0, 1) := by decide +kernel
theorem dX12_camp_7 : decode cX12_camp 7 = .ok (.istore_n 1, 1) := by decide +kernel
theorem dX12_camp_8 : decode cX12_camp 8 = .ok (.iload_n 1, 1) := by decide +kernel
theorem dX12_camp_9 : decode cX12_camp 9 = .ok (.sipush 158, 3) := by decide +kernel
theorem dX12_camp_12 : decode cX12_camp 12 = .ok (.if_icmp .ge 16, 3) := by decide +kernel
theorem dX12_camp_15 : decode cX12_camp 15 = .ok (.aload_n 0, 1) := by decide +kernel
theorem dX12_camp_16 : decode cX12_camp 16 = .ok (.getfield 26, 3) := by decide +kernel
theorem dX12_camp_19 : decode cX12_camp 19 = .ok (.iload_n 1, 1) := by decide +kernel
theorem dX12_camp_20 : decode cX12_camp 20 = .ok (.iconst 0, 1) := by decide +kernel
theorem dX12_camp_21 : decode cX12_camp 21 = .ok (.iastore, 1) := by decide +kernel
theorem dX12_camp_22 : decode cX12_camp 22 = .ok (.iinc 1 1, 3) := by decide +kernel
theorem dX12_camp_25 : decode cX12_camp 25 = .ok (.goto (-17), 3) := by decide +kernel
theorem dX12_camp_28 : decode cX12_camp 28 = .ok (.aload_n 0, 1) := by decide +kernel
theorem dX12_camp_29 : decode cX12_camp 29 = .ok (.invokevirtual 276, 3) := by decide +kernel
theorem dX12_camp_32 : decode cX12_camp 32 = .ok (.ifCond .ne 11, 3) := by decide +kernel
theorem dX12_camp_35 : decode cX12_camp 35 = .ok (.bipush (-2), 2) := by decide +kernel
theorem dX12_camp_37 : decode cX12_camp 37 = .ok (.aload_n 0, 1) := by decide +kernel
theorem dX12_camp_38 : decode cX12_camp 38 = .ok (.getfield 105, 3) := by decide +kernel
theorem dX12_camp_41 : decode cX12_camp 41 = .ok (.isub, 1) := by decide +kernel
theorem dX12_camp_42 : decode cX12_camp 42 = .ok (.ireturn, 1) := by decide +kernel
theorem dX12_camp_43 : decode cX12_camp 43 = .ok (.iconst 0, 1) := by decide +kernel
theorem dX12_camp_44 : decode cX12_camp 44 = .ok (.istore_n 1, 1) := by decide +kernel
theorem dX12_camp_45 : decode cX12_camp 45 = .ok (.iload_n 1, 1) := by decide +kernel
theorem dX12_camp_46 : decode cX12_camp 46 = .ok (.sipush 179, 3) := by decide +kernel
theorem dX12_camp_49 : decode cX12_camp 49 = .ok (.if_icmp .ge 32, 3) := by decide +kernel
theorem dX12_camp_52 : decode cX12_camp 52 = .ok (.aload_n 0, 1) := by decide +kernel
theorem dX12_camp_53 : decode cX12_camp 53 = .ok (.getfield 39, 3) := by decide +kernel
theorem dX12_camp_56 : decode cX12_camp 56 = .ok (.iload_n 1, 1) := by decide +kernel
theorem dX12_camp_57 : decode cX12_camp 57 = .ok (.iload_n 1, 1) := by decide +kernel
theorem dX12_camp_58 : decode cX12_camp 58 = .ok (.sipush 158, 3) := by decide +kernel
theorem dX12_camp_61 : decode cX12_camp 61 = .ok (.if_icmp .ge 12, 3) := by decide +kernel
theorem dX12_camp_64 : decode cX12_camp 64 = .ok (.aload_n 0, 1) := by decide +kernel
theorem dX12_camp_65 : decode cX12_camp 65 = .ok (.getfield 26, 3) := by decide +kernel
theorem dX12_camp_68 : decode cX12_camp 68 = .ok (.iload_n 1, 1) := by decide +kernel
theorem dX12_camp_69 : decode cX12_camp 69 = .ok (.iaload, 1) := by decide +kernel
theorem dX12_camp_70 : decode cX12_camp 70 = .ok (.goto 4, 3) := by decide +kernel
theorem dX12_camp_73 : decode cX12_camp 73 = .ok (.iconst 0, 1) := by decide +kernel
theorem dX12_camp_74 : decode cX12_camp 74 = .ok (.iastore, 1) := by decide +kernel
theorem dX12_camp_75 : decode cX12_camp 75 = .ok (.iinc 1 1, 3) := by decide +kernel
theorem dX12_camp_78 : decode cX12_camp 78 = .ok (.goto (-33), 3) := by decide +kernel
theorem dX12_camp_81 : decode cX12_camp 81 = .ok (.aload_n 0, 1) := by decide +kernel
theorem dX12_camp_82 : decode cX12_camp 82 = .ok (.invokevirtual 279, 3) := by decide +kernel
theorem dX12_camp_85 : decode cX12_camp 85 = .ok (.aload_n 0, 1) := by decide +kernel
theorem dX12_camp_86 : decode cX12_camp 86 = .ok (.iconst 0, 1) := by decide +kernel
theorem dX12_camp_87 : decode cX12_camp 87 = .ok (.putfield 282, 3) := by decide +kernel
theorem dX12_camp_90 : decode cX12_camp 90 = .ok (.aload_n 0, 1) := by decide +kernel
theorem dX12_camp_91 : decode cX12_camp 91 = .ok (.getfield 39, 3) := by decide +kernel
theorem dX12_camp_94 : decode cX12_camp 94 = .ok (.iconst 2, 1) := by decide +kernel
theorem dX12_camp_95 : decode cX12_camp 95 = .ok (.iaload, 1) := by decide +kernel
theorem dX12_camp_96 : decode cX12_camp 96 = .ok (.ireturn, 1) := by decide +kernel
theorem dX12_isRule_0 : decode cX12_isRule 0 = .ok (.iload_n 1, 1) := by decide +kernel
theorem dX12_isRule_1 : decode cX12_isRule 1 = .ok (.ifCond .lt 15, 3) := by decide +kernel
theorem dX12_isRule_4 : decode cX12_isRule 4 = .ok (.iload_n 1, 1) := by decide +kernel
theorem dX12_isRule_5 : decode cX12_isRule 5 = .ok (.aload_n 0, 1) := by decide +kernel
theorem dX12_isRule_6 : decode cX12_isRule 6 = .ok (.getfield 273, 3) := by decide +kernel
theorem dX12_isRule_9 : decode cX12_isRule 9 = .ok (.if_icmp .ge 7, 3) := by decide +kernel
theorem dX12_isRule_12 : decode cX12_isRule 12 = .ok (.iconst 1, 1) := by decide +kernel
theorem dX12_isRule_13 : decode cX12_isRule 13 = .ok (.goto 4, 3) := by decide +kernel
theorem dX12_isRule_16 : decode cX12_isRule 16 = .ok (.iconst 0, 1) := by decide +kernel
theorem dX12_isRule_17 : decode cX12_isRule 17 = .ok (.ireturn, 1) := by decide +kernel
theorem dX12_push_0 : decode cX12_push 0 = .ok (.aload_n 0, 1) := by decide +kernel
theorem dX12_push_1 : decode cX12_push 1 = .ok (.getfield 32, 3) := by decide +kernel
theorem dX12_push_4 : decode cX12_push 4 = .ok (.aload_n 0, 1) := by decide +kernel
theorem dX12_push_5 : decode cX12_push 5 = .ok (.getfield 285, 3) := by decide +kernel
theorem dX12_push_8 : decode cX12_push 8 = .ok (.lload_n 1, 1) := by decide +kernel
theorem dX12_push_9 : decode cX12_push 9 = .ok (.lastore, 1) := by decide +kernel
theorem dX12_push_10 : decode cX12_push 10 = .ok (.aload_n 0, 1) := by decide +kernel
theorem dX12_push_11 : decode cX12_push 11 = .ok (.dup, 1) := by decide +kernel
theorem dX12_push_12 : decode cX12_push 12 = .ok (.getfield 285, 3) := by decide +kernel
theorem dX12_push_15 : decode cX12_push 15 = .ok (.iconst 1, 1) := by decide +kernel
theorem dX12_push_16 : decode cX12_push 16 = .ok (.iadd, 1) := by decide +kernel
theorem dX12_push_17 : decode cX12_push 17 = .ok (.putfield 285, 3) := by decide +kernel
theorem dX12_push_20 : decode cX12_push 20 = .ok (.return_, 1) := by decide +kernel
theorem dX12_pop_0 : decode cX12_pop 0 = .ok (.aload_n 0, 1) := by decide +kernel
theorem dX12_pop_1 : decode cX12_pop 1 = .ok (.dup, 1) := by decide +kernel
theorem dX12_pop_2 : decode cX12_pop 2 = .ok (.getfield 285, 3) := by decide +kernel
theorem dX12_pop_5 : decode cX12_pop 5 = .ok (.iconst 1, 1) := by decide +kernel
theorem dX12_pop_6 : decode cX12_pop 6 = .ok (.isub, 1) := by decide +kernel
theorem dX12_pop_7 : decode cX12_pop 7 = .ok (.putfield 285, 3) := by decide +kernel
theorem dX12_pop_10 : decode cX12_pop 10 = .ok (.aload_n 0, 1) := by decide +kernel
theorem dX12_pop_11 : decode cX12_pop 11 = .ok (.getfield 32, 3) := by decide +kernel
theorem dX12_pop_14 : decode cX12_pop 14 = .ok (.aload_n 0, 1) := by decide +kernel
theorem dX12_pop_15 : decode cX12_pop 15 = .ok (.getfield 285, 3) := by decide +kernel
theorem dX12_pop_18 : decode cX12_pop 18 = .ok (.laload, 1) := by decide +kernel
theorem dX12_pop_19 : decode cX12_pop 19 = .ok (.lreturn, 1) := by decide +kernel
theorem dX12_one_0 : decode cX12_one 0 = .ok (.iload_n 0, 1) := by decide +kernel
theorem dX12_one_1 : decode cX12_one 1 = .ok (.tableswitch 171 2 14 #[67, 71, 75, 79, 107, 119, 131, 143, 155, 171, 167, 171, 93], 67) := by decide +kernel
theorem dX12_one_68 : decode cX12_one 68 = .ok (.lload_n 1, 1) := by decide +kernel
theorem dX12_one_69 : decode cX12_one 69 = .ok (.lload_n 3, 1) := by decide +kernel
theorem dX12_one_70 : decode cX12_one 70 = .ok (.ladd, 1) := by decide +kernel
theorem dX12_one_71 : decode cX12_one 71 = .ok (.lreturn, 1) := by decide +kernel
theorem dX12_one_72 : decode cX12_one 72 = .ok (.lload_n 1, 1) := by decide +kernel
theorem dX12_one_73 : decode cX12_one 73 = .ok (.lload_n 3, 1) := by decide +kernel
theorem dX12_one_74 : decode cX12_one 74 = .ok (.lsub, 1) := by decide +kernel
theorem dX12_one_75 : decode cX12_one 75 = .ok (.lreturn, 1) := by decide +kernel
theorem dX12_one_76 : decode cX12_one 76 = .ok (.lload_n 1, 1) := by decide +kernel
theorem dX12_one_77 : decode cX12_one 77 = .ok (.lload_n 3, 1) := by decide +kernel
theorem dX12_one_78 : decode cX12_one 78 = .ok (.lmul, 1) := by decide +kernel
theorem dX12_one_79 : decode cX12_one 79 = .ok (.lreturn, 1) := by decide +kernel
theorem dX12_one_80 : decode cX12_one 80 = .ok (.lload_n 3, 1) := by decide +kernel
theorem dX12_one_81 : decode cX12_one 81 = .ok (.lconst 0, 1) := by decide +kernel
theorem dX12_one_82 : decode cX12_one 82 = .ok (.lcmp, 1) := by decide +kernel
theorem dX12_one_83 : decode cX12_one 83 = .ok (.ifCond .ne 7, 3) := by decide +kernel
theorem dX12_one_86 : decode cX12_one 86 = .ok (.lconst 0, 1) := by decide +kernel
theorem dX12_one_87 : decode cX12_one 87 = .ok (.goto 6, 3) := by decide +kernel
theorem dX12_one_90 : decode cX12_one 90 = .ok (.lload_n 1, 1) := by decide +kernel
theorem dX12_one_91 : decode cX12_one 91 = .ok (.lload_n 3, 1) := by decide +kernel
theorem dX12_one_92 : decode cX12_one 92 = .ok (.ldiv, 1) := by decide +kernel
theorem dX12_one_93 : decode cX12_one 93 = .ok (.lreturn, 1) := by decide +kernel
theorem dX12_one_94 : decode cX12_one 94 = .ok (.lload_n 3, 1) := by decide +kernel
theorem dX12_one_95 : decode cX12_one 95 = .ok (.lconst 0, 1) := by decide +kernel
theorem dX12_one_96 : decode cX12_one 96 = .ok (.lcmp, 1) := by decide +kernel
theorem dX12_one_97 : decode cX12_one 97 = .ok (.ifCond .ne 7, 3) := by decide +kernel
theorem dX12_one_100 : decode cX12_one 100 = .ok (.lconst 0, 1) := by decide +kernel
theorem dX12_one_101 : decode cX12_one 101 = .ok (.goto 6, 3) := by decide +kernel
theorem dX12_one_104 : decode cX12_one 104 = .ok (.lload_n 1, 1) := by decide +kernel
theorem dX12_one_105 : decode cX12_one 105 = .ok (.lload_n 3, 1) := by decide +kernel
theorem dX12_one_106 : decode cX12_one 106 = .ok (.lrem, 1) := by decide +kernel
theorem dX12_one_107 : decode cX12_one 107 = .ok (.lreturn, 1) := by decide +kernel
theorem dX12_one_108 : decode cX12_one 108 = .ok (.lload_n 1, 1) := by decide +kernel
theorem dX12_one_109 : decode cX12_one 109 = .ok (.lload_n 3, 1) := by decide +kernel
theorem dX12_one_110 : decode cX12_one 110 = .ok (.lcmp, 1) := by decide +kernel
theorem dX12_one_111 : decode cX12_one 111 = .ok (.ifCond .ge 7, 3) := by decide +kernel
theorem dX12_one_114 : decode cX12_one 114 = .ok (.lconst 1, 1) := by decide +kernel
theorem dX12_one_115 : decode cX12_one 115 = .ok (.goto 4, 3) := by decide +kernel
theorem dX12_one_118 : decode cX12_one 118 = .ok (.lconst 0, 1) := by decide +kernel
theorem dX12_one_119 : decode cX12_one 119 = .ok (.lreturn, 1) := by decide +kernel
theorem dX12_one_120 : decode cX12_one 120 = .ok (.lload_n 1, 1) := by decide +kernel
theorem dX12_one_121 : decode cX12_one 121 = .ok (.lload_n 3, 1) := by decide +kernel
theorem dX12_one_122 : decode cX12_one 122 = .ok (.lcmp, 1) := by decide +kernel
theorem dX12_one_123 : decode cX12_one 123 = .ok (.ifCond .gt 7, 3) := by decide +kernel
theorem dX12_one_126 : decode cX12_one 126 = .ok (.lconst 1, 1) := by decide +kernel
theorem dX12_one_127 : decode cX12_one 127 = .ok (.goto 4, 3) := by decide +kernel
theorem dX12_one_130 : decode cX12_one 130 = .ok (.lconst 0, 1) := by decide +kernel
theorem dX12_one_131 : decode cX12_one 131 = .ok (.lreturn, 1) := by decide +kernel
theorem dX12_one_132 : decode cX12_one 132 = .ok (.lload_n 1, 1) := by decide +kernel
theorem dX12_one_133 : decode cX12_one 133 = .ok (.lload_n 3, 1) := by decide +kernel
theorem dX12_one_134 : decode cX12_one 134 = .ok (.lcmp, 1) := by decide +kernel
theorem dX12_one_135 : decode cX12_one 135 = .ok (.ifCond .ne 7, 3) := by decide +kernel
theorem dX12_one_138 : decode cX12_one 138 = .ok (.lconst 1, 1) := by decide +kernel
theorem dX12_one_139 : decode cX12_one 139 = .ok (.goto 4, 3) := by decide +kernel
theorem dX12_one_142 : decode cX12_one 142 = .ok (.lconst 0, 1) := by decide +kernel
theorem dX12_one_143 : decode cX12_one 143 = .ok (.lreturn, 1) := by decide +kernel
theorem dX12_one_144 : decode cX12_one 144 = .ok (.lload_n 1, 1) := by decide +kernel
theorem dX12_one_145 : decode cX12_one 145 = .ok (.lload_n 3, 1) := by decide +kernel
theorem dX12_one_146 : decode cX12_one 146 = .ok (.lcmp, 1) := by decide +kernel
theorem dX12_one_147 : decode cX12_one 147 = .ok (.ifCond .lt 7, 3) := by decide +kernel
theorem dX12_one_150 : decode cX12_one 150 = .ok (.lconst 1, 1) := by decide +kernel
theorem dX12_one_151 : decode cX12_one 151 = .ok (.goto 4, 3) := by decide +kernel
theorem dX12_one_154 : decode cX12_one 154 = .ok (.lconst 0, 1) := by decide +kernel
theorem dX12_one_155 : decode cX12_one 155 = .ok (.lreturn, 1) := by decide +kernel
theorem dX12_one_156 : decode cX12_one 156 = .ok (.lload_n 1, 1) := by decide +kernel
theorem dX12_one_157 : decode cX12_one 157 = .ok (.lload_n 3, 1) := by decide +kernel
theorem dX12_one_158 : decode cX12_one 158 = .ok (.lcmp, 1) := by decide +kernel
theorem dX12_one_159 : decode cX12_one 159 = .ok (.ifCond .le 7, 3) := by decide +kernel
theorem dX12_one_162 : decode cX12_one 162 = .ok (.lconst 1, 1) := by decide +kernel
theorem dX12_one_163 : decode cX12_one 163 = .ok (.goto 4, 3) := by decide +kernel
theorem dX12_one_166 : decode cX12_one 166 = .ok (.lconst 0, 1) := by decide +kernel
theorem dX12_one_167 : decode cX12_one 167 = .ok (.lreturn, 1) := by decide +kernel
theorem dX12_one_168 : decode cX12_one 168 = .ok (.lload_n 1, 1) := by decide +kernel
theorem dX12_one_169 : decode cX12_one 169 = .ok (.lload_n 3, 1) := by decide +kernel
theorem dX12_one_170 : decode cX12_one 170 = .ok (.land, 1) := by decide +kernel
theorem dX12_one_171 : decode cX12_one 171 = .ok (.lreturn, 1) := by decide +kernel
theorem dX12_one_172 : decode cX12_one 172 = .ok (.lload_n 1, 1) := by decide +kernel
theorem dX12_one_173 : decode cX12_one 173 = .ok (.lload_n 3, 1) := by decide +kernel
theorem dX12_one_174 : decode cX12_one 174 = .ok (.lor, 1) := by decide +kernel
theorem dX12_one_175 : decode cX12_one 175 = .ok (.lreturn, 1) := by decide +kernel
theorem dX12_reckons_0 : decode cX12_reckons 0 = .ok (.aload_n 0, 1) := by decide +kernel
theorem dX12_reckons_1 : decode cX12_reckons 1 = .ok (.iconst 0, 1) := by decide +kernel
theorem dX12_reckons_2 : decode cX12_reckons 2 = .ok (.putfield 285, 3) := by decide +kernel
theorem dX12_reckons_5 : decode cX12_reckons 5 = .ok (.iload_n 2, 1) := by decide +kernel
theorem dX12_reckons_6 : decode cX12_reckons 6 = .ok (.istore 4, 2) := by decide +kernel
theorem dX12_reckons_8 : decode cX12_reckons 8 = .ok (.iload 4, 2) := by decide +kernel
theorem dX12_reckons_10 : decode cX12_reckons 10 = .ok (.iload_n 3, 1) := by decide +kernel
theorem dX12_reckons_11 : decode cX12_reckons 11 = .ok (.if_icmp .ge 124, 3) := by decide +kernel
theorem dX12_reckons_14 : decode cX12_reckons 14 = .ok (.aload_n 0, 1) := by decide +kernel
theorem dX12_reckons_15 : decode cX12_reckons 15 = .ok (.getfield 13, 3) := by decide +kernel
theorem dX12_reckons_18 : decode cX12_reckons 18 = .ok (.sipush 400, 3) := by decide +kernel
theorem dX12_reckons_21 : decode cX12_reckons 21 = .ok (.iload_n 1, 1) := by decide +kernel
theorem dX12_reckons_22 : decode cX12_reckons 22 = .ok (.imul, 1) := by decide +kernel
theorem dX12_reckons_23 : decode cX12_reckons 23 = .ok (.iload 4, 2) := by decide +kernel
theorem dX12_reckons_25 : decode cX12_reckons 25 = .ok (.iadd, 1) := by decide +kernel
theorem dX12_reckons_26 : decode cX12_reckons 26 = .ok (.iaload, 1) := by decide +kernel
theorem dX12_reckons_27 : decode cX12_reckons 27 = .ok (.bipush 15, 2) := by decide +kernel
theorem dX12_reckons_29 : decode cX12_reckons 29 = .ok (.iand, 1) := by decide +kernel
theorem dX12_reckons_30 : decode cX12_reckons 30 = .ok (.istore 5, 2) := by decide +kernel
theorem dX12_reckons_32 : decode cX12_reckons 32 = .ok (.aload_n 0, 1) := by decide +kernel
theorem dX12_reckons_33 : decode cX12_reckons 33 = .ok (.getfield 13, 3) := by decide +kernel
theorem dX12_reckons_36 : decode cX12_reckons 36 = .ok (.sipush 400, 3) := by decide +kernel
theorem dX12_reckons_39 : decode cX12_reckons 39 = .ok (.iload_n 1, 1) := by decide +kernel
theorem dX12_reckons_40 : decode cX12_reckons 40 = .ok (.imul, 1) := by decide +kernel
theorem dX12_reckons_41 : decode cX12_reckons 41 = .ok (.iload 4, 2) := by decide +kernel
theorem dX12_reckons_43 : decode cX12_reckons 43 = .ok (.iadd, 1) := by decide +kernel
theorem dX12_reckons_44 : decode cX12_reckons 44 = .ok (.iaload, 1) := by decide +kernel
theorem dX12_reckons_45 : decode cX12_reckons 45 = .ok (.iconst 4, 1) := by decide +kernel
theorem dX12_reckons_46 : decode cX12_reckons 46 = .ok (.ishr, 1) := by decide +kernel
theorem dX12_reckons_47 : decode cX12_reckons 47 = .ok (.istore 6, 2) := by decide +kernel
theorem dX12_reckons_49 : decode cX12_reckons 49 = .ok (.iload 5, 2) := by decide +kernel
theorem dX12_reckons_51 : decode cX12_reckons 51 = .ok (.ifCond .ne 13, 3) := by decide +kernel
theorem dX12_reckons_54 : decode cX12_reckons 54 = .ok (.aload_n 0, 1) := by decide +kernel
theorem dX12_reckons_55 : decode cX12_reckons 55 = .ok (.iload 6, 2) := by decide +kernel
theorem dX12_reckons_57 : decode cX12_reckons 57 = .ok (.i2l, 1) := by decide +kernel
theorem dX12_reckons_58 : decode cX12_reckons 58 = .ok (.invokevirtual 288, 3) := by decide +kernel
theorem dX12_reckons_61 : decode cX12_reckons 61 = .ok (.goto 68, 3) := by decide +kernel
theorem dX12_reckons_64 : decode cX12_reckons 64 = .ok (.iload 5, 2) := by decide +kernel
theorem dX12_reckons_66 : decode cX12_reckons 66 = .ok (.iconst 1, 1) := by decide +kernel
theorem dX12_reckons_67 : decode cX12_reckons 67 = .ok (.if_icmp .ne 17, 3) := by decide +kernel
theorem dX12_reckons_70 : decode cX12_reckons 70 = .ok (.aload_n 0, 1) := by decide +kernel
theorem dX12_reckons_71 : decode cX12_reckons 71 = .ok (.aload_n 0, 1) := by decide +kernel
theorem dX12_reckons_72 : decode cX12_reckons 72 = .ok (.getfield 36, 3) := by decide +kernel
theorem dX12_reckons_75 : decode cX12_reckons 75 = .ok (.iload 6, 2) := by decide +kernel
theorem dX12_reckons_77 : decode cX12_reckons 77 = .ok (.laload, 1) := by decide +kernel
theorem dX12_reckons_78 : decode cX12_reckons 78 = .ok (.invokevirtual 288, 3) := by decide +kernel
theorem dX12_reckons_81 : decode cX12_reckons 81 = .ok (.goto 48, 3) := by decide +kernel
theorem dX12_reckons_84 : decode cX12_reckons 84 = .ok (.iload 5, 2) := by decide +kernel
theorem dX12_reckons_86 : decode cX12_reckons 86 = .ok (.bipush 11, 2) := by decide +kernel
theorem dX12_reckons_88 : decode cX12_reckons 88 = .ok (.if_icmp .ne 16, 3) := by decide +kernel
theorem dX12_reckons_91 : decode cX12_reckons 91 = .ok (.aload_n 0, 1) := by decide +kernel
theorem dX12_reckons_92 : decode cX12_reckons 92 = .ok (.lconst 1, 1) := by decide +kernel
theorem dX12_reckons_93 : decode cX12_reckons 93 = .ok (.aload_n 0, 1) := by decide +kernel
theorem dX12_reckons_94 : decode cX12_reckons 94 = .ok (.invokevirtual 292, 3) := by decide +kernel
theorem dX12_reckons_97 : decode cX12_reckons 97 = .ok (.lsub, 1) := by decide +kernel
theorem dX12_reckons_98 : decode cX12_reckons 98 = .ok (.invokevirtual 288, 3) := by decide +kernel
theorem dX12_reckons_101 : decode cX12_reckons 101 = .ok (.goto 28, 3) := by decide +kernel
theorem dX12_reckons_104 : decode cX12_reckons 104 = .ok (.aload_n 0, 1) := by decide +kernel
theorem dX12_reckons_105 : decode cX12_reckons 105 = .ok (.invokevirtual 292, 3) := by decide +kernel
theorem dX12_reckons_108 : decode cX12_reckons 108 = .ok (.lstore 7, 2) := by decide +kernel
theorem dX12_reckons_110 : decode cX12_reckons 110 = .ok (.aload_n 0, 1) := by decide +kernel
theorem dX12_reckons_111 : decode cX12_reckons 111 = .ok (.invokevirtual 292, 3) := by decide +kernel
theorem dX12_reckons_114 : decode cX12_reckons 114 = .ok (.lstore 9, 2) := by decide +kernel
theorem dX12_reckons_116 : decode cX12_reckons 116 = .ok (.aload_n 0, 1) := by decide +kernel
theorem dX12_reckons_117 : decode cX12_reckons 117 = .ok (.iload 5, 2) := by decide +kernel
theorem dX12_reckons_119 : decode cX12_reckons 119 = .ok (.lload 9, 2) := by decide +kernel
theorem dX12_reckons_121 : decode cX12_reckons 121 = .ok (.lload 7, 2) := by decide +kernel
theorem dX12_reckons_123 : decode cX12_reckons 123 = .ok (.invokestatic 296, 3) := by decide +kernel
theorem dX12_reckons_126 : decode cX12_reckons 126 = .ok (.invokevirtual 288, 3) := by decide +kernel
theorem dX12_reckons_129 : decode cX12_reckons 129 = .ok (.iinc 4 1, 3) := by decide +kernel
theorem dX12_reckons_132 : decode cX12_reckons 132 = .ok (.goto (-124), 3) := by decide +kernel
theorem dX12_reckons_135 : decode cX12_reckons 135 = .ok (.aload_n 0, 1) := by decide +kernel
theorem dX12_reckons_136 : decode cX12_reckons 136 = .ok (.invokevirtual 292, 3) := by decide +kernel
theorem dX12_reckons_139 : decode cX12_reckons 139 = .ok (.lreturn, 1) := by decide +kernel
theorem dX12_isCamp_0 : decode cX12_isCamp 0 = .ok (.aload_n 0, 1) := by decide +kernel
theorem dX12_isCamp_1 : decode cX12_isCamp 1 = .ok (.getfield 39, 3) := by decide +kernel
theorem dX12_isCamp_4 : decode cX12_isCamp 4 = .ok (.iconst 0, 1) := by decide +kernel
theorem dX12_isCamp_5 : decode cX12_isCamp 5 = .ok (.iaload, 1) := by decide +kernel
theorem dX12_isCamp_6 : decode cX12_isCamp 6 = .ok (.iconst 1, 1) := by decide +kernel
theorem dX12_isCamp_7 : decode cX12_isCamp 7 = .ok (.if_icmp .ne 7, 3) := by decide +kernel
theorem dX12_isCamp_10 : decode cX12_isCamp 10 = .ok (.iconst 1, 1) := by decide +kernel
theorem dX12_isCamp_11 : decode cX12_isCamp 11 = .ok (.goto 4, 3) := by decide +kernel
theorem dX12_isCamp_14 : decode cX12_isCamp 14 = .ok (.iconst 0, 1) := by decide +kernel
theorem dX12_isCamp_15 : decode cX12_isCamp 15 = .ok (.ireturn, 1) := by decide +kernel
theorem dX12_cells_0 : decode cX12_cells 0 = .ok (.aload_n 0, 1) := by decide +kernel
theorem dX12_cells_1 : decode cX12_cells 1 = .ok (.getfield 39, 3) := by decide +kernel
theorem dX12_cells_4 : decode cX12_cells 4 = .ok (.iconst 1, 1) := by decide +kernel
theorem dX12_cells_5 : decode cX12_cells 5 = .ok (.iaload, 1) := by decide +kernel
theorem dX12_cells_6 : decode cX12_cells 6 = .ok (.aload_n 0, 1) := by decide +kernel
theorem dX12_cells_7 : decode cX12_cells 7 = .ok (.getfield 39, 3) := by decide +kernel
theorem dX12_cells_10 : decode cX12_cells 10 = .ok (.iconst 1, 1) := by decide +kernel
theorem dX12_cells_11 : decode cX12_cells 11 = .ok (.iaload, 1) := by decide +kernel
theorem dX12_cells_12 : decode cX12_cells 12 = .ok (.imul, 1) := by decide +kernel
theorem dX12_cells_13 : decode cX12_cells 13 = .ok (.ireturn, 1) := by decide +kernel
theorem dX12_isCell_0 : decode cX12_isCell 0 = .ok (.iload_n 1, 1) := by decide +kernel
theorem dX12_isCell_1 : decode cX12_isCell 1 = .ok (.ifCond .lt 15, 3) := by decide +kernel
theorem dX12_isCell_4 : decode cX12_isCell 4 = .ok (.iload_n 1, 1) := by decide +kernel
theorem dX12_isCell_5 : decode cX12_isCell 5 = .ok (.aload_n 0, 1) := by decide +kernel
theorem dX12_isCell_6 : decode cX12_isCell 6 = .ok (.invokevirtual 300, 3) := by decide +kernel
theorem dX12_isCell_9 : decode cX12_isCell 9 = .ok (.if_icmp .ge 7, 3) := by decide +kernel
theorem dX12_isCell_12 : decode cX12_isCell 12 = .ok (.iconst 1, 1) := by decide +kernel
theorem dX12_isCell_13 : decode cX12_isCell 13 = .ok (.goto 4, 3) := by decide +kernel
theorem dX12_isCell_16 : decode cX12_isCell 16 = .ok (.iconst 0, 1) := by decide +kernel
theorem dX12_isCell_17 : decode cX12_isCell 17 = .ok (.ireturn, 1) := by decide +kernel
theorem dX12_isTent_0 : decode cX12_isTent 0 = .ok (.iload_n 1, 1) := by decide +kernel
theorem dX12_isTent_1 : decode cX12_isTent 1 = .ok (.ifCond .lt 17, 3) := by decide +kernel
theorem dX12_isTent_4 : decode cX12_isTent 4 = .ok (.iload_n 1, 1) := by decide +kernel
theorem dX12_isTent_5 : decode cX12_isTent 5 = .ok (.aload_n 0, 1) := by decide +kernel
theorem dX12_isTent_6 : decode cX12_isTent 6 = .ok (.getfield 39, 3) := by decide +kernel
theorem dX12_isTent_9 : decode cX12_isTent 9 = .ok (.iconst 2, 1) := by decide +kernel
theorem dX12_isTent_10 : decode cX12_isTent 10 = .ok (.iaload, 1) := by decide +kernel
theorem dX12_isTent_11 : decode cX12_isTent 11 = .ok (.if_icmp .ge 7, 3) := by decide +kernel
theorem dX12_isTent_14 : decode cX12_isTent 14 = .ok (.iconst 1, 1) := by decide +kernel
theorem dX12_isTent_15 : decode cX12_isTent 15 = .ok (.goto 4, 3) := by decide +kernel
theorem dX12_isTent_18 : decode cX12_isTent 18 = .ok (.iconst 0, 1) := by decide +kernel
theorem dX12_isTent_19 : decode cX12_isTent 19 = .ok (.ireturn, 1) := by decide +kernel
theorem dX12_cellOf_0 : decode cX12_cellOf 0 = .ok (.aload_n 0, 1) := by decide +kernel
theorem dX12_cellOf_1 : decode cX12_cellOf 1 = .ok (.getfield 39, 3) := by decide +kernel
theorem dX12_cellOf_4 : decode cX12_cellOf 4 = .ok (.bipush 13, 2) := by decide +kernel
theorem dX12_cellOf_6 : decode cX12_cellOf 6 = .ok (.iconst 4, 1) := by decide +kernel
theorem dX12_cellOf_7 : decode cX12_cellOf 7 = .ok (.iload_n 1, 1) := by decide +kernel
theorem dX12_cellOf_8 : decode cX12_cellOf 8 = .ok (.imul, 1) := by decide +kernel
theorem dX12_cellOf_9 : decode cX12_cellOf 9 = .ok (.iadd, 1) := by decide +kernel
theorem dX12_cellOf_10 : decode cX12_cellOf 10 = .ok (.iaload, 1) := by decide +kernel
theorem dX12_cellOf_11 : decode cX12_cellOf 11 = .ok (.ireturn, 1) := by decide +kernel
theorem dX12_nerveOf_0 : decode cX12_nerveOf 0 = .ok (.aload_n 0, 1) := by decide +kernel
theorem dX12_nerveOf_1 : decode cX12_nerveOf 1 = .ok (.getfield 39, 3) := by decide +kernel
theorem dX12_nerveOf_4 : decode cX12_nerveOf 4 = .ok (.bipush 13, 2) := by decide +kernel
theorem dX12_nerveOf_6 : decode cX12_nerveOf 6 = .ok (.iconst 4, 1) := by decide +kernel
theorem dX12_nerveOf_7 : decode cX12_nerveOf 7 = .ok (.iload_n 1, 1) := by decide +kernel
theorem dX12_nerveOf_8 : decode cX12_nerveOf 8 = .ok (.imul, 1) := by decide +kernel
theorem dX12_nerveOf_9 : decode cX12_nerveOf 9 = .ok (.iadd, 1) := by decide +kernel
theorem dX12_nerveOf_10 : decode cX12_nerveOf 10 = .ok (.iconst 1, 1) := by decide +kernel
theorem dX12_nerveOf_11 : decode cX12_nerveOf 11 = .ok (.iadd, 1) := by decide +kernel
theorem dX12_nerveOf_12 : decode cX12_nerveOf 12 = .ok (.iaload, 1) := by decide +kernel
theorem dX12_nerveOf_13 : decode cX12_nerveOf 13 = .ok (.ireturn, 1) := by decide +kernel
theorem dX12_askedOf_0 : decode cX12_askedOf 0 = .ok (.aload_n 0, 1) := by decide +kernel
theorem dX12_askedOf_1 : decode cX12_askedOf 1 = .ok (.getfield 39, 3) := by decide +kernel
theorem dX12_askedOf_4 : decode cX12_askedOf 4 = .ok (.bipush 13, 2) := by decide +kernel
theorem dX12_askedOf_6 : decode cX12_askedOf 6 = .ok (.iconst 4, 1) := by decide +kernel
theorem dX12_askedOf_7 : decode cX12_askedOf 7 = .ok (.iload_n 1, 1) := by decide +kernel
theorem dX12_askedOf_8 : decode cX12_askedOf 8 = .ok (.imul, 1) := by decide +kernel
theorem dX12_askedOf_9 : decode cX12_askedOf 9 = .ok (.iadd, 1) := by decide +kernel
theorem dX12_askedOf_10 : decode cX12_askedOf 10 = .ok (.iconst 2, 1) := by decide +kernel
theorem dX12_askedOf_11 : decode cX12_askedOf 11 = .ok (.iadd, 1) := by decide +kernel
theorem dX12_askedOf_12 : decode cX12_askedOf 12 = .ok (.iaload, 1) := by decide +kernel
theorem dX12_askedOf_13 : decode cX12_askedOf 13 = .ok (.ireturn, 1) := by decide +kernel
theorem dX12_knownBy_0 : decode cX12_knownBy 0 = .ok (.aload_n 0, 1) := by decide +kernel
theorem dX12_knownBy_1 : decode cX12_knownBy 1 = .ok (.getfield 39, 3) := by decide +kernel
theorem dX12_knownBy_4 : decode cX12_knownBy 4 = .ok (.bipush 13, 2) := by decide +kernel
theorem dX12_knownBy_6 : decode cX12_knownBy 6 = .ok (.iconst 4, 1) := by decide +kernel
theorem dX12_knownBy_7 : decode cX12_knownBy 7 = .ok (.iload_n 1, 1) := by decide +kernel
theorem dX12_knownBy_8 : decode cX12_knownBy 8 = .ok (.imul, 1) := by decide +kernel
theorem dX12_knownBy_9 : decode cX12_knownBy 9 = .ok (.iadd, 1) := by decide +kernel
theorem dX12_knownBy_10 : decode cX12_knownBy 10 = .ok (.iconst 3, 1) := by decide +kernel
theorem dX12_knownBy_11 : decode cX12_knownBy 11 = .ok (.iadd, 1) := by decide +kernel
theorem dX12_knownBy_12 : decode cX12_knownBy 12 = .ok (.iaload, 1) := by decide +kernel
theorem dX12_knownBy_13 : decode cX12_knownBy 13 = .ok (.ireturn, 1) := by decide +kernel
theorem dX12_isBush_0 : decode cX12_isBush 0 = .ok (.aload_n 0, 1) := by decide +kernel
theorem dX12_isBush_1 : decode cX12_isBush 1 = .ok (.getfield 39, 3) := by decide +kernel
theorem dX12_isBush_4 : decode cX12_isBush 4 = .ok (.bipush 37, 2) := by decide +kernel
theorem dX12_isBush_6 : decode cX12_isBush 6 = .ok (.iload_n 1, 1) := by decide +kernel
theorem dX12_isBush_7 : decode cX12_isBush 7 = .ok (.iadd, 1) := by decide +kernel
theorem dX12_isBush_8 : decode cX12_isBush 8 = .ok (.iaload, 1) := by decide +kernel
theorem dX12_isBush_9 : decode cX12_isBush 9 = .ok (.ifCond .le 7, 3) := by decide +kernel
theorem dX12_isBush_12 : decode cX12_isBush 12 = .ok (.iconst 1, 1) := by decide +kernel
theorem dX12_isBush_13 : decode cX12_isBush 13 = .ok (.goto 4, 3) := by decide +kernel
theorem dX12_isBush_16 : decode cX12_isBush 16 = .ok (.iconst 0, 1) := by decide +kernel
theorem dX12_isBush_17 : decode cX12_isBush 17 = .ok (.ireturn, 1) := by decide +kernel
theorem dX12_askedAll_0 : decode cX12_askedAll 0 = .ok (.iconst 0, 1) := by decide +kernel
theorem dX12_askedAll_1 : decode cX12_askedAll 1 = .ok (.istore_n 1, 1) := by decide +kernel
theorem dX12_askedAll_2 : decode cX12_askedAll 2 = .ok (.iconst 0, 1) := by decide +kernel
theorem dX12_askedAll_3 : decode cX12_askedAll 3 = .ok (.istore_n 2, 1) := by decide +kernel
theorem dX12_askedAll_4 : decode cX12_askedAll 4 = .ok (.iload_n 2, 1) := by decide +kernel
theorem dX12_askedAll_5 : decode cX12_askedAll 5 = .ok (.aload_n 0, 1) := by decide +kernel
theorem dX12_askedAll_6 : decode cX12_askedAll 6 = .ok (.getfield 39, 3) := by decide +kernel
theorem dX12_askedAll_9 : decode cX12_askedAll 9 = .ok (.iconst 2, 1) := by decide +kernel
theorem dX12_askedAll_10 : decode cX12_askedAll 10 = .ok (.iaload, 1) := by decide +kernel
theorem dX12_askedAll_11 : decode cX12_askedAll 11 = .ok (.if_icmp .ge 17, 3) := by decide +kernel
theorem dX12_askedAll_14 : decode cX12_askedAll 14 = .ok (.iload_n 1, 1) := by decide +kernel
theorem dX12_askedAll_15 : decode cX12_askedAll 15 = .ok (.aload_n 0, 1) := by decide +kernel
theorem dX12_askedAll_16 : decode cX12_askedAll 16 = .ok (.iload_n 2, 1) := by decide +kernel
theorem dX12_askedAll_17 : decode cX12_askedAll 17 = .ok (.invokevirtual 303, 3) := by decide +kernel
theorem dX12_askedAll_20 : decode cX12_askedAll 20 = .ok (.iadd, 1) := by decide +kernel
theorem dX12_askedAll_21 : decode cX12_askedAll 21 = .ok (.istore_n 1, 1) := by decide +kernel
theorem dX12_askedAll_22 : decode cX12_askedAll 22 = .ok (.iinc 2 1, 3) := by decide +kernel
theorem dX12_askedAll_25 : decode cX12_askedAll 25 = .ok (.goto (-21), 3) := by decide +kernel
theorem dX12_askedAll_28 : decode cX12_askedAll 28 = .ok (.iload_n 1, 1) := by decide +kernel
theorem dX12_askedAll_29 : decode cX12_askedAll 29 = .ok (.ireturn, 1) := by decide +kernel
theorem dX12_tentsOn_0 : decode cX12_tentsOn 0 = .ok (.iconst 0, 1) := by decide +kernel
theorem dX12_tentsOn_1 : decode cX12_tentsOn 1 = .ok (.istore_n 2, 1) := by decide +kernel
theorem dX12_tentsOn_2 : decode cX12_tentsOn 2 = .ok (.iconst 0, 1) := by decide +kernel
theorem dX12_tentsOn_3 : decode cX12_tentsOn 3 = .ok (.istore_n 3, 1) := by decide +kernel
theorem dX12_tentsOn_4 : decode cX12_tentsOn 4 = .ok (.iload_n 3, 1) := by decide +kernel
theorem dX12_tentsOn_5 : decode cX12_tentsOn 5 = .ok (.aload_n 0, 1) := by decide +kernel
theorem dX12_tentsOn_6 : decode cX12_tentsOn 6 = .ok (.getfield 39, 3) := by decide +kernel
theorem dX12_tentsOn_9 : decode cX12_tentsOn 9 = .ok (.iconst 2, 1) := by decide +kernel
theorem dX12_tentsOn_10 : decode cX12_tentsOn 10 = .ok (.iaload, 1) := by decide +kernel
theorem dX12_tentsOn_11 : decode cX12_tentsOn 11 = .ok (.if_icmp .ge 28, 3) := by decide +kernel
theorem dX12_tentsOn_14 : decode cX12_tentsOn 14 = .ok (.iload_n 2, 1) := by decide +kernel
theorem dX12_tentsOn_15 : decode cX12_tentsOn 15 = .ok (.aload_n 0, 1) := by decide +kernel
theorem dX12_tentsOn_16 : decode cX12_tentsOn 16 = .ok (.iload_n 3, 1) := by decide +kernel
theorem dX12_tentsOn_17 : decode cX12_tentsOn 17 = .ok (.invokevirtual 306, 3) := by decide +kernel
theorem dX12_tentsOn_20 : decode cX12_tentsOn 20 = .ok (.iload_n 1, 1) := by decide +kernel
theorem dX12_tentsOn_21 : decode cX12_tentsOn 21 = .ok (.if_icmp .ne 9, 3) := by decide +kernel
theorem dX12_tentsOn_24 : decode cX12_tentsOn 24 = .ok (.iconst 1, 1) := by decide +kernel
theorem dX12_tentsOn_25 : decode cX12_tentsOn 25 = .ok (.iload_n 3, 1) := by decide +kernel
theorem dX12_tentsOn_26 : decode cX12_tentsOn 26 = .ok (.ishl, 1) := by decide +kernel
theorem dX12_tentsOn_27 : decode cX12_tentsOn 27 = .ok (.goto 4, 3) := by decide +kernel
theorem dX12_tentsOn_30 : decode cX12_tentsOn 30 = .ok (.iconst 0, 1) := by decide +kernel
theorem dX12_tentsOn_31 : decode cX12_tentsOn 31 = .ok (.ior, 1) := by decide +kernel
theorem dX12_tentsOn_32 : decode cX12_tentsOn 32 = .ok (.istore_n 2, 1) := by decide +kernel
theorem dX12_tentsOn_33 : decode cX12_tentsOn 33 = .ok (.iinc 3 1, 3) := by decide +kernel
theorem dX12_tentsOn_36 : decode cX12_tentsOn 36 = .ok (.goto (-32), 3) := by decide +kernel
theorem dX12_tentsOn_39 : decode cX12_tentsOn 39 = .ok (.iload_n 2, 1) := by decide +kernel
theorem dX12_tentsOn_40 : decode cX12_tentsOn 40 = .ok (.ireturn, 1) := by decide +kernel
theorem dX12_besideOf_0 : decode cX12_besideOf 0 = .ok (.aload_n 0, 1) := by decide +kernel
theorem dX12_besideOf_1 : decode cX12_besideOf 1 = .ok (.getfield 39, 3) := by decide +kernel
theorem dX12_besideOf_4 : decode cX12_besideOf 4 = .ok (.iconst 1, 1) := by decide +kernel
theorem dX12_besideOf_5 : decode cX12_besideOf 5 = .ok (.iaload, 1) := by decide +kernel
theorem dX12_besideOf_6 : decode cX12_besideOf 6 = .ok (.istore_n 3, 1) := by decide +kernel
theorem dX12_besideOf_7 : decode cX12_besideOf 7 = .ok (.iload_n 2, 1) := by decide +kernel
theorem dX12_besideOf_8 : decode cX12_besideOf 8 = .ok (.ifCond .ne 17, 3) := by decide +kernel
theorem dX12_besideOf_11 : decode cX12_besideOf 11 = .ok (.iload_n 1, 1) := by decide +kernel
theorem dX12_besideOf_12 : decode cX12_besideOf 12 = .ok (.iload_n 3, 1) := by decide +kernel
theorem dX12_besideOf_13 : decode cX12_besideOf 13 = .ok (.irem, 1) := by decide +kernel
theorem dX12_besideOf_14 : decode cX12_besideOf 14 = .ok (.ifCond .ne 7, 3) := by decide +kernel
theorem dX12_besideOf_17 : decode cX12_besideOf 17 = .ok (.iconst (-1), 1) := by decide +kernel
theorem dX12_besideOf_18 : decode cX12_besideOf 18 = .ok (.goto 6, 3) := by decide +kernel
theorem dX12_besideOf_21 : decode cX12_besideOf 21 = .ok (.iload_n 1, 1) := by decide +kernel
theorem dX12_besideOf_22 : decode cX12_besideOf 22 = .ok (.iconst 1, 1) := by decide +kernel
theorem dX12_besideOf_23 : decode cX12_besideOf 23 = .ok (.isub, 1) := by decide +kernel
theorem dX12_besideOf_24 : decode cX12_besideOf 24 = .ok (.ireturn, 1) := by decide +kernel
theorem dX12_besideOf_25 : decode cX12_besideOf 25 = .ok (.iload_n 2, 1) := by decide +kernel
theorem dX12_besideOf_26 : decode cX12_besideOf 26 = .ok (.iconst 1, 1) := by decide +kernel
theorem dX12_besideOf_27 : decode cX12_besideOf 27 = .ok (.if_icmp .ne 20, 3) := by decide +kernel
theorem dX12_besideOf_30 : decode cX12_besideOf 30 = .ok (.iload_n 1, 1) := by decide +kernel
theorem dX12_besideOf_31 : decode cX12_besideOf 31 = .ok (.iload_n 3, 1) := by decide +kernel
theorem dX12_besideOf_32 : decode cX12_besideOf 32 = .ok (.irem, 1) := by decide +kernel
theorem dX12_besideOf_33 : decode cX12_besideOf 33 = .ok (.iload_n 3, 1) := by decide +kernel
theorem dX12_besideOf_34 : decode cX12_besideOf 34 = .ok (.iconst 1, 1) := by decide +kernel
theorem dX12_besideOf_35 : decode cX12_besideOf 35 = .ok (.isub, 1) := by decide +kernel
theorem dX12_besideOf_36 : decode cX12_besideOf 36 = .ok (.if_icmp .ne 7, 3) := by decide +kernel
theorem dX12_besideOf_39 : decode cX12_besideOf 39 = .ok (.iconst (-1), 1) := by decide +kernel
theorem dX12_besideOf_40 : decode cX12_besideOf 40 = .ok (.goto 6, 3) := by decide +kernel
theorem dX12_besideOf_43 : decode cX12_besideOf 43 = .ok (.iload_n 1, 1) := by decide +kernel
theorem dX12_besideOf_44 : decode cX12_besideOf 44 = .ok (.iconst 1, 1) := by decide +kernel
theorem dX12_besideOf_45 : decode cX12_besideOf 45 = .ok (.iadd, 1) := by decide +kernel
theorem dX12_besideOf_46 : decode cX12_besideOf 46 = .ok (.ireturn, 1) := by decide +kernel
theorem dX12_besideOf_47 : decode cX12_besideOf 47 = .ok (.iload_n 2, 1) := by decide +kernel
theorem dX12_besideOf_48 : decode cX12_besideOf 48 = .ok (.iconst 2, 1) := by decide +kernel
theorem dX12_besideOf_49 : decode cX12_besideOf 49 = .ok (.if_icmp .ne 16, 3) := by decide +kernel
theorem dX12_besideOf_52 : decode cX12_besideOf 52 = .ok (.iload_n 1, 1) := by decide +kernel
theorem dX12_besideOf_53 : decode cX12_besideOf 53 = .ok (.iload_n 3, 1) := by decide +kernel
theorem dX12_besideOf_54 : decode cX12_besideOf 54 = .ok (.if_icmp .ge 7, 3) := by decide +kernel
theorem dX12_besideOf_57 : decode cX12_besideOf 57 = .ok (.iconst (-1), 1) := by decide +kernel
theorem dX12_besideOf_58 : decode cX12_besideOf 58 = .ok (.goto 6, 3) := by decide +kernel
theorem dX12_besideOf_61 : decode cX12_besideOf 61 = .ok (.iload_n 1, 1) := by decide +kernel
theorem dX12_besideOf_62 : decode cX12_besideOf 62 = .ok (.iload_n 3, 1) := by decide +kernel
theorem dX12_besideOf_63 : decode cX12_besideOf 63 = .ok (.isub, 1) := by decide +kernel
theorem dX12_besideOf_64 : decode cX12_besideOf 64 = .ok (.ireturn, 1) := by decide +kernel
theorem dX12_besideOf_65 : decode cX12_besideOf 65 = .ok (.iload_n 1, 1) := by decide +kernel
theorem dX12_besideOf_66 : decode cX12_besideOf 66 = .ok (.iload_n 3, 1) := by decide +kernel
theorem dX12_besideOf_67 : decode cX12_besideOf 67 = .ok (.iadd, 1) := by decide +kernel
theorem dX12_besideOf_68 : decode cX12_besideOf 68 = .ok (.aload_n 0, 1) := by decide +kernel
theorem dX12_besideOf_69 : decode cX12_besideOf 69 = .ok (.invokevirtual 300, 3) := by decide +kernel
theorem dX12_besideOf_72 : decode cX12_besideOf 72 = .ok (.if_icmp .ge 9, 3) := by decide +kernel
theorem dX12_besideOf_75 : decode cX12_besideOf 75 = .ok (.iload_n 1, 1) := by decide +kernel
theorem dX12_besideOf_76 : decode cX12_besideOf 76 = .ok (.iload_n 3, 1) := by decide +kernel
theorem dX12_besideOf_77 : decode cX12_besideOf 77 = .ok (.iadd, 1) := by decide +kernel
theorem dX12_besideOf_78 : decode cX12_besideOf 78 = .ok (.goto 4, 3) := by decide +kernel
theorem dX12_besideOf_81 : decode cX12_besideOf 81 = .ok (.iconst (-1), 1) := by decide +kernel
theorem dX12_besideOf_82 : decode cX12_besideOf 82 = .ok (.ireturn, 1) := by decide +kernel
theorem dX12_areBeside_0 : decode cX12_areBeside 0 = .ok (.iconst 0, 1) := by decide +kernel
theorem dX12_areBeside_1 : decode cX12_areBeside 1 = .ok (.istore_n 3, 1) := by decide +kernel
theorem dX12_areBeside_2 : decode cX12_areBeside 2 = .ok (.iload_n 3, 1) := by decide +kernel
theorem dX12_areBeside_3 : decode cX12_areBeside 3 = .ok (.iconst 4, 1) := by decide +kernel
theorem dX12_areBeside_4 : decode cX12_areBeside 4 = .ok (.if_icmp .ge 21, 3) := by decide +kernel
theorem dX12_areBeside_7 : decode cX12_areBeside 7 = .ok (.aload_n 0, 1) := by decide +kernel
theorem dX12_areBeside_8 : decode cX12_areBeside 8 = .ok (.iload_n 1, 1) := by decide +kernel
theorem dX12_areBeside_9 : decode cX12_areBeside 9 = .ok (.iload_n 3, 1) := by decide +kernel
theorem dX12_areBeside_10 : decode cX12_areBeside 10 = .ok (.invokevirtual 309, 3) := by decide +kernel
theorem dX12_areBeside_13 : decode cX12_areBeside 13 = .ok (.iload_n 2, 1) := by decide +kernel
theorem dX12_areBeside_14 : decode cX12_areBeside 14 = .ok (.if_icmp .ne 5, 3) := by decide +kernel
theorem dX12_areBeside_17 : decode cX12_areBeside 17 = .ok (.iconst 1, 1) := by decide +kernel
theorem dX12_areBeside_18 : decode cX12_areBeside 18 = .ok (.ireturn, 1) := by decide +kernel
theorem dX12_areBeside_19 : decode cX12_areBeside 19 = .ok (.iinc 3 1, 3) := by decide +kernel
theorem dX12_areBeside_22 : decode cX12_areBeside 22 = .ok (.goto (-20), 3) := by decide +kernel
theorem dX12_areBeside_25 : decode cX12_areBeside 25 = .ok (.iconst 0, 1) := by decide +kernel
theorem dX12_areBeside_26 : decode cX12_areBeside 26 = .ok (.ireturn, 1) := by decide +kernel
theorem dX12_begins_0 : decode cX12_begins 0 = .ok (.aload_n 0, 1) := by decide +kernel
theorem dX12_begins_1 : decode cX12_begins 1 = .ok (.getfield 39, 3) := by decide +kernel
theorem dX12_begins_4 : decode cX12_begins 4 = .ok (.bipush 10, 2) := by decide +kernel
theorem dX12_begins_6 : decode cX12_begins 6 = .ok (.iconst 0, 1) := by decide +kernel
theorem dX12_begins_7 : decode cX12_begins 7 = .ok (.iastore, 1) := by decide +kernel
theorem dX12_begins_8 : decode cX12_begins 8 = .ok (.aload_n 0, 1) := by decide +kernel
theorem dX12_begins_9 : decode cX12_begins 9 = .ok (.getfield 39, 3) := by decide +kernel
theorem dX12_begins_12 : decode cX12_begins 12 = .ok (.bipush 11, 2) := by decide +kernel
theorem dX12_begins_14 : decode cX12_begins 14 = .ok (.aload_n 0, 1) := by decide +kernel
theorem dX12_begins_15 : decode cX12_begins 15 = .ok (.getfield 39, 3) := by decide +kernel
theorem dX12_begins_18 : decode cX12_begins 18 = .ok (.bipush 109, 2) := by decide +kernel
theorem dX12_begins_20 : decode cX12_begins 20 = .ok (.iaload, 1) := by decide +kernel
theorem dX12_begins_21 : decode cX12_begins 21 = .ok (.iastore, 1) := by decide +kernel
theorem dX12_begins_22 : decode cX12_begins 22 = .ok (.aload_n 0, 1) := by decide +kernel
theorem dX12_begins_23 : decode cX12_begins 23 = .ok (.getfield 39, 3) := by decide +kernel
theorem dX12_begins_26 : decode cX12_begins 26 = .ok (.bipush 12, 2) := by decide +kernel
theorem dX12_begins_28 : decode cX12_begins 28 = .ok (.iconst 0, 1) := by decide +kernel
theorem dX12_begins_29 : decode cX12_begins 29 = .ok (.iastore, 1) := by decide +kernel
theorem dX12_begins_30 : decode cX12_begins 30 = .ok (.iconst 0, 1) := by decide +kernel
theorem dX12_begins_31 : decode cX12_begins 31 = .ok (.istore_n 1, 1) := by decide +kernel
theorem dX12_begins_32 : decode cX12_begins 32 = .ok (.iload_n 1, 1) := by decide +kernel
theorem dX12_begins_33 : decode cX12_begins 33 = .ok (.bipush 6, 2) := by decide +kernel
theorem dX12_begins_35 : decode cX12_begins 35 = .ok (.if_icmp .ge 68, 3) := by decide +kernel
theorem dX12_begins_38 : decode cX12_begins 38 = .ok (.bipush 13, 2) := by decide +kernel
theorem dX12_begins_40 : decode cX12_begins 40 = .ok (.iconst 4, 1) := by decide +kernel
theorem dX12_begins_41 : decode cX12_begins 41 = .ok (.iload_n 1, 1) := by decide +kernel
theorem dX12_begins_42 : decode cX12_begins 42 = .ok (.imul, 1) := by decide +kernel
theorem dX12_begins_43 : decode cX12_begins 43 = .ok (.iadd, 1) := by decide +kernel
theorem dX12_begins_44 : decode cX12_begins 44 = .ok (.istore_n 2, 1) := by decide +kernel
theorem dX12_begins_45 : decode cX12_begins 45 = .ok (.aload_n 0, 1) := by decide +kernel
theorem dX12_begins_46 : decode cX12_begins 46 = .ok (.getfield 39, 3) := by decide +kernel
theorem dX12_begins_49 : decode cX12_begins 49 = .ok (.iload_n 2, 1) := by decide +kernel
theorem dX12_begins_50 : decode cX12_begins 50 = .ok (.aload_n 0, 1) := by decide +kernel
theorem dX12_begins_51 : decode cX12_begins 51 = .ok (.getfield 39, 3) := by decide +kernel
theorem dX12_begins_54 : decode cX12_begins 54 = .ok (.bipush 110, 2) := by decide +kernel
theorem dX12_begins_56 : decode cX12_begins 56 = .ok (.iload_n 1, 1) := by decide +kernel
theorem dX12_begins_57 : decode cX12_begins 57 = .ok (.iadd, 1) := by decide +kernel
theorem dX12_begins_58 : decode cX12_begins 58 = .ok (.iaload, 1) := by decide +kernel
theorem dX12_begins_59 : decode cX12_begins 59 = .ok (.iastore, 1) := by decide +kernel
theorem dX12_begins_60 : decode cX12_begins 60 = .ok (.aload_n 0, 1) := by decide +kernel
theorem dX12_begins_61 : decode cX12_begins 61 = .ok (.getfield 39, 3) := by decide +kernel
theorem dX12_begins_64 : decode cX12_begins 64 = .ok (.iload_n 2, 1) := by decide +kernel
theorem dX12_begins_65 : decode cX12_begins 65 = .ok (.iconst 1, 1) := by decide +kernel
theorem dX12_begins_66 : decode cX12_begins 66 = .ok (.iadd, 1) := by decide +kernel
theorem dX12_begins_67 : decode cX12_begins 67 = .ok (.aload_n 0, 1) := by decide +kernel
theorem dX12_begins_68 : decode cX12_begins 68 = .ok (.getfield 39, 3) := by decide +kernel
theorem dX12_begins_71 : decode cX12_begins 71 = .ok (.bipush 116, 2) := by decide +kernel
theorem dX12_begins_73 : decode cX12_begins 73 = .ok (.iload_n 1, 1) := by decide +kernel
theorem dX12_begins_74 : decode cX12_begins 74 = .ok (.iadd, 1) := by decide +kernel
theorem dX12_begins_75 : decode cX12_begins 75 = .ok (.iaload, 1) := by decide +kernel
theorem dX12_begins_76 : decode cX12_begins 76 = .ok (.iastore, 1) := by decide +kernel
theorem dX12_begins_77 : decode cX12_begins 77 = .ok (.aload_n 0, 1) := by decide +kernel
theorem dX12_begins_78 : decode cX12_begins 78 = .ok (.getfield 39, 3) := by decide +kernel
theorem dX12_begins_81 : decode cX12_begins 81 = .ok (.iload_n 2, 1) := by decide +kernel
theorem dX12_begins_82 : decode cX12_begins 82 = .ok (.iconst 2, 1) := by decide +kernel
theorem dX12_begins_83 : decode cX12_begins 83 = .ok (.iadd, 1) := by decide +kernel
theorem dX12_begins_84 : decode cX12_begins 84 = .ok (.iconst 0, 1) := by decide +kernel
theorem dX12_begins_85 : decode cX12_begins 85 = .ok (.iastore, 1) := by decide +kernel
theorem dX12_begins_86 : decode cX12_begins 86 = .ok (.aload_n 0, 1) := by decide +kernel
theorem dX12_begins_87 : decode cX12_begins 87 = .ok (.getfield 39, 3) := by decide +kernel
theorem dX12_begins_90 : decode cX12_begins 90 = .ok (.iload_n 2, 1) := by decide +kernel
theorem dX12_begins_91 : decode cX12_begins 91 = .ok (.iconst 3, 1) := by decide +kernel
theorem dX12_begins_92 : decode cX12_begins 92 = .ok (.iadd, 1) := by decide +kernel
theorem dX12_begins_93 : decode cX12_begins 93 = .ok (.iconst 1, 1) := by decide +kernel
theorem dX12_begins_94 : decode cX12_begins 94 = .ok (.iload_n 1, 1) := by decide +kernel
theorem dX12_begins_95 : decode cX12_begins 95 = .ok (.ishl, 1) := by decide +kernel
theorem dX12_begins_96 : decode cX12_begins 96 = .ok (.iastore, 1) := by decide +kernel
theorem dX12_begins_97 : decode cX12_begins 97 = .ok (.iinc 1 1, 3) := by decide +kernel
theorem dX12_begins_100 : decode cX12_begins 100 = .ok (.goto (-68), 3) := by decide +kernel
theorem dX12_begins_103 : decode cX12_begins 103 = .ok (.iconst 0, 1) := by decide +kernel
theorem dX12_begins_104 : decode cX12_begins 104 = .ok (.istore_n 1, 1) := by decide +kernel
theorem dX12_begins_105 : decode cX12_begins 105 = .ok (.iload_n 1, 1) := by decide +kernel
theorem dX12_begins_106 : decode cX12_begins 106 = .ok (.bipush 36, 2) := by decide +kernel
theorem dX12_begins_108 : decode cX12_begins 108 = .ok (.if_icmp .ge 37, 3) := by decide +kernel
theorem dX12_begins_111 : decode cX12_begins 111 = .ok (.aload_n 0, 1) := by decide +kernel
theorem dX12_begins_112 : decode cX12_begins 112 = .ok (.getfield 39, 3) := by decide +kernel
theorem dX12_begins_115 : decode cX12_begins 115 = .ok (.bipush 37, 2) := by decide +kernel
theorem dX12_begins_117 : decode cX12_begins 117 = .ok (.iload_n 1, 1) := by decide +kernel
theorem dX12_begins_118 : decode cX12_begins 118 = .ok (.iadd, 1) := by decide +kernel
theorem dX12_begins_119 : decode cX12_begins 119 = .ok (.aload_n 0, 1) := by decide +kernel
theorem dX12_begins_120 : decode cX12_begins 120 = .ok (.getfield 39, 3) := by decide +kernel
theorem dX12_begins_123 : decode cX12_begins 123 = .ok (.bipush 122, 2) := by decide +kernel
theorem dX12_begins_125 : decode cX12_begins 125 = .ok (.iload_n 1, 1) := by decide +kernel
theorem dX12_begins_126 : decode cX12_begins 126 = .ok (.iadd, 1) := by decide +kernel
theorem dX12_begins_127 : decode cX12_begins 127 = .ok (.iaload, 1) := by decide +kernel
theorem dX12_begins_128 : decode cX12_begins 128 = .ok (.iastore, 1) := by decide +kernel
theorem dX12_begins_129 : decode cX12_begins 129 = .ok (.aload_n 0, 1) := by decide +kernel
theorem dX12_begins_130 : decode cX12_begins 130 = .ok (.getfield 39, 3) := by decide +kernel
theorem dX12_begins_133 : decode cX12_begins 133 = .ok (.bipush 73, 2) := by decide +kernel
theorem dX12_begins_135 : decode cX12_begins 135 = .ok (.iload_n 1, 1) := by decide +kernel
theorem dX12_begins_136 : decode cX12_begins 136 = .ok (.iadd, 1) := by decide +kernel
theorem dX12_begins_137 : decode cX12_begins 137 = .ok (.iconst 0, 1) := by decide +kernel
theorem dX12_begins_138 : decode cX12_begins 138 = .ok (.iastore, 1) := by decide +kernel
theorem dX12_begins_139 : decode cX12_begins 139 = .ok (.iinc 1 1, 3) := by decide +kernel
theorem dX12_begins_142 : decode cX12_begins 142 = .ok (.goto (-37), 3) := by decide +kernel
theorem dX12_begins_145 : decode cX12_begins 145 = .ok (.return_, 1) := by decide +kernel
theorem dX12_force_0 : decode cX12_force 0 = .ok (.iload_n 1, 1) := by decide +kernel
theorem dX12_force_1 : decode cX12_force 1 = .ok (.iconst (-1), 1) := by decide +kernel
theorem dX12_force_2 : decode cX12_force 2 = .ok (.if_icmp .eq 14, 3) := by decide +kernel
theorem dX12_force_5 : decode cX12_force 5 = .ok (.aload_n 0, 1) := by decide +kernel
theorem dX12_force_6 : decode cX12_force 6 = .ok (.iload_n 1, 1) := by decide +kernel
theorem dX12_force_7 : decode cX12_force 7 = .ok (.invokevirtual 313, 3) := by decide +kernel
theorem dX12_force_10 : decode cX12_force 10 = .ok (.ifCond .ne 6, 3) := by decide +kernel
theorem dX12_force_13 : decode cX12_force 13 = .ok (.bipush (-2), 2) := by decide +kernel
theorem dX12_force_15 : decode cX12_force 15 = .ok (.ireturn, 1) := by decide +kernel
theorem dX12_force_16 : decode cX12_force 16 = .ok (.aload_n 0, 1) := by decide +kernel
theorem dX12_force_17 : decode cX12_force 17 = .ok (.getfield 42, 3) := by decide +kernel
theorem dX12_force_20 : decode cX12_force 20 = .ok (.istore_n 2, 1) := by decide +kernel
theorem dX12_force_21 : decode cX12_force 21 = .ok (.aload_n 0, 1) := by decide +kernel
theorem dX12_force_22 : decode cX12_force 22 = .ok (.iload_n 1, 1) := by decide +kernel
theorem dX12_force_23 : decode cX12_force 23 = .ok (.putfield 42, 3) := by decide +kernel
theorem dX12_force_26 : decode cX12_force 26 = .ok (.iload_n 2, 1) := by decide +kernel
theorem dX12_force_27 : decode cX12_force 27 = .ok (.ireturn, 1) := by decide +kernel
theorem dX12_tent_0 : decode cX12_tent 0 = .ok (.aload_n 0, 1) := by decide +kernel
theorem dX12_tent_1 : decode cX12_tent 1 = .ok (.iload_n 1, 1) := by decide +kernel
theorem dX12_tent_2 : decode cX12_tent 2 = .ok (.invokevirtual 316, 3) := by decide +kernel
theorem dX12_tent_5 : decode cX12_tent 5 = .ok (.ifCond .eq 31, 3) := by decide +kernel
theorem dX12_tent_8 : decode cX12_tent 8 = .ok (.iload_n 2, 1) := by decide +kernel
theorem dX12_tent_9 : decode cX12_tent 9 = .ok (.i2l, 1) := by decide +kernel
theorem dX12_tent_10 : decode cX12_tent 10 = .ok (.lconst 0, 1) := by decide +kernel
theorem dX12_tent_11 : decode cX12_tent 11 = .ok (.ldc2_w 319, 3) := by decide +kernel
theorem dX12_tent_14 : decode cX12_tent 14 = .ok (.invokestatic 136, 3) := by decide +kernel
theorem dX12_tent_17 : decode cX12_tent 17 = .ok (.ifCond .eq 19, 3) := by decide +kernel
theorem dX12_tent_20 : decode cX12_tent 20 = .ok (.aload_n 0, 1) := by decide +kernel
theorem dX12_tent_21 : decode cX12_tent 21 = .ok (.getfield 39, 3) := by decide +kernel
theorem dX12_tent_24 : decode cX12_tent 24 = .ok (.bipush 13, 2) := by decide +kernel
theorem dX12_tent_26 : decode cX12_tent 26 = .ok (.iconst 4, 1) := by decide +kernel
theorem dX12_tent_27 : decode cX12_tent 27 = .ok (.iload_n 1, 1) := by decide +kernel
theorem dX12_tent_28 : decode cX12_tent 28 = .ok (.imul, 1) := by decide +kernel
theorem dX12_tent_29 : decode cX12_tent 29 = .ok (.iadd, 1) := by decide +kernel
theorem dX12_tent_30 : decode cX12_tent 30 = .ok (.iload_n 2, 1) := by decide +kernel
theorem dX12_tent_31 : decode cX12_tent 31 = .ok (.iadd, 1) := by decide +kernel
theorem dX12_tent_32 : decode cX12_tent 32 = .ok (.iaload, 1) := by decide +kernel
theorem dX12_tent_33 : decode cX12_tent 33 = .ok (.goto 4, 3) := by decide +kernel
theorem dX12_tent_36 : decode cX12_tent 36 = .ok (.iconst (-1), 1) := by decide +kernel
theorem dX12_tent_37 : decode cX12_tent 37 = .ok (.ireturn, 1) := by decide +kernel
theorem dX12_cell_0 : decode cX12_cell 0 = .ok (.aload_n 0, 1) := by decide +kernel
theorem dX12_cell_1 : decode cX12_cell 1 = .ok (.iload_n 1, 1) := by decide +kernel
theorem dX12_cell_2 : decode cX12_cell 2 = .ok (.invokevirtual 321, 3) := by decide +kernel
theorem dX12_cell_5 : decode cX12_cell 5 = .ok (.ifCond .eq 15, 3) := by decide +kernel
theorem dX12_cell_8 : decode cX12_cell 8 = .ok (.iload_n 2, 1) := by decide +kernel
theorem dX12_cell_9 : decode cX12_cell 9 = .ok (.i2l, 1) := by decide +kernel
theorem dX12_cell_10 : decode cX12_cell 10 = .ok (.lconst 0, 1) := by decide +kernel
theorem dX12_cell_11 : decode cX12_cell 11 = .ok (.ldc2_w 324, 3) := by decide +kernel
theorem dX12_cell_14 : decode cX12_cell 14 = .ok (.invokestatic 136, 3) := by decide +kernel
theorem dX12_cell_17 : decode cX12_cell 17 = .ok (.ifCond .ne 5, 3) := by decide +kernel
theorem dX12_cell_20 : decode cX12_cell 20 = .ok (.iconst (-1), 1) := by decide +kernel
theorem dX12_cell_21 : decode cX12_cell 21 = .ok (.ireturn, 1) := by decide +kernel
theorem dX12_cell_22 : decode cX12_cell 22 = .ok (.iload_n 2, 1) := by decide +kernel
theorem dX12_cell_23 : decode cX12_cell 23 = .ok (.ifCond .ne 15, 3) := by decide +kernel
theorem dX12_cell_26 : decode cX12_cell 26 = .ok (.aload_n 0, 1) := by decide +kernel
theorem dX12_cell_27 : decode cX12_cell 27 = .ok (.getfield 39, 3) := by decide +kernel
theorem dX12_cell_30 : decode cX12_cell 30 = .ok (.bipush 37, 2) := by decide +kernel
theorem dX12_cell_32 : decode cX12_cell 32 = .ok (.iload_n 1, 1) := by decide +kernel
theorem dX12_cell_33 : decode cX12_cell 33 = .ok (.iadd, 1) := by decide +kernel
theorem dX12_cell_34 : decode cX12_cell 34 = .ok (.iaload, 1) := by decide +kernel
theorem dX12_cell_35 : decode cX12_cell 35 = .ok (.goto 25, 3) := by decide +kernel
theorem dX12_cell_38 : decode cX12_cell 38 = .ok (.iload_n 2, 1) := by decide +kernel
theorem dX12_cell_39 : decode cX12_cell 39 = .ok (.iconst 1, 1) := by decide +kernel
theorem dX12_cell_40 : decode cX12_cell 40 = .ok (.if_icmp .ne 15, 3) := by decide +kernel
theorem dX12_cell_43 : decode cX12_cell 43 = .ok (.aload_n 0, 1) := by decide +kernel
theorem dX12_cell_44 : decode cX12_cell 44 = .ok (.getfield 39, 3) := by decide +kernel
theorem dX12_cell_47 : decode cX12_cell 47 = .ok (.bipush 73, 2) := by decide +kernel
theorem dX12_cell_49 : decode cX12_cell 49 = .ok (.iload_n 1, 1) := by decide +kernel
theorem dX12_cell_50 : decode cX12_cell 50 = .ok (.iadd, 1) := by decide +kernel
theorem dX12_cell_51 : decode cX12_cell 51 = .ok (.iaload, 1) := by decide +kernel
theorem dX12_cell_52 : decode cX12_cell 52 = .ok (.goto 8, 3) := by decide +kernel
theorem dX12_cell_55 : decode cX12_cell 55 = .ok (.aload_n 0, 1) := by decide +kernel
theorem dX12_cell_56 : decode cX12_cell 56 = .ok (.iload_n 1, 1) := by decide +kernel
theorem dX12_cell_57 : decode cX12_cell 57 = .ok (.invokevirtual 326, 3) := by decide +kernel
theorem dX12_cell_60 : decode cX12_cell 60 = .ok (.ireturn, 1) := by decide +kernel
theorem dX12_measures_0 : decode cX12_measures 0 = .ok (.iconst 0, 1) := by decide +kernel
theorem dX12_measures_1 : decode cX12_measures 1 = .ok (.istore_n 2, 1) := by decide +kernel
theorem dX12_measures_2 : decode cX12_measures 2 = .ok (.iload_n 2, 1) := by decide +kernel
theorem dX12_measures_3 : decode cX12_measures 3 = .ok (.bipush 36, 2) := by decide +kernel
theorem dX12_measures_5 : decode cX12_measures 5 = .ok (.if_icmp .ge 17, 3) := by decide +kernel
theorem dX12_measures_8 : decode cX12_measures 8 = .ok (.aload_n 0, 1) := by decide +kernel
theorem dX12_measures_9 : decode cX12_measures 9 = .ok (.getfield 46, 3) := by decide +kernel
theorem dX12_measures_12 : decode cX12_measures 12 = .ok (.iload_n 2, 1) := by decide +kernel
theorem dX12_measures_13 : decode cX12_measures 13 = .ok (.bipush 99, 2) := by decide +kernel
theorem dX12_measures_15 : decode cX12_measures 15 = .ok (.iastore, 1) := by decide +kernel
theorem dX12_measures_16 : decode cX12_measures 16 = .ok (.iinc 2 1, 3) := by decide +kernel
theorem dX12_measures_19 : decode cX12_measures 19 = .ok (.goto (-17), 3) := by decide +kernel
theorem dX12_measures_22 : decode cX12_measures 22 = .ok (.iconst 0, 1) := by decide +kernel
theorem dX12_measures_23 : decode cX12_measures 23 = .ok (.istore_n 2, 1) := by decide +kernel
theorem dX12_measures_24 : decode cX12_measures 24 = .ok (.iconst 1, 1) := by decide +kernel
theorem dX12_measures_25 : decode cX12_measures 25 = .ok (.istore_n 3, 1) := by decide +kernel
theorem dX12_measures_26 : decode cX12_measures 26 = .ok (.aload_n 0, 1) := by decide +kernel
theorem dX12_measures_27 : decode cX12_measures 27 = .ok (.getfield 46, 3) := by decide +kernel
theorem dX12_measures_30 : decode cX12_measures 30 = .ok (.iload_n 1, 1) := by decide +kernel
theorem dX12_measures_31 : decode cX12_measures 31 = .ok (.iconst 0, 1) := by decide +kernel
theorem dX12_measures_32 : decode cX12_measures 32 = .ok (.iastore, 1) := by decide +kernel
theorem dX12_measures_33 : decode cX12_measures 33 = .ok (.aload_n 0, 1) := by decide +kernel
theorem dX12_measures_34 : decode cX12_measures 34 = .ok (.getfield 49, 3) := by decide +kernel
theorem dX12_measures_37 : decode cX12_measures 37 = .ok (.iconst 0, 1) := by decide +kernel
theorem dX12_measures_38 : decode cX12_measures 38 = .ok (.iload_n 1, 1) := by decide +kernel
theorem dX12_measures_39 : decode cX12_measures 39 = .ok (.iastore, 1) := by decide +kernel
theorem dX12_measures_40 : decode cX12_measures 40 = .ok (.iload_n 2, 1) := by decide +kernel
theorem dX12_measures_41 : decode cX12_measures 41 = .ok (.iload_n 3, 1) := by decide +kernel
theorem dX12_measures_42 : decode cX12_measures 42 = .ok (.if_icmp .ge 98, 3) := by decide +kernel
theorem dX12_measures_45 : decode cX12_measures 45 = .ok (.aload_n 0, 1) := by decide +kernel
theorem dX12_measures_46 : decode cX12_measures 46 = .ok (.getfield 49, 3) := by decide +kernel
theorem dX12_measures_49 : decode cX12_measures 49 = .ok (.iload_n 2, 1) := by decide +kernel
theorem dX12_measures_50 : decode cX12_measures 50 = .ok (.iaload, 1) := by decide +kernel
theorem dX12_measures_51 : decode cX12_measures 51 = .ok (.istore 4, 2) := by decide +kernel
theorem dX12_measures_53 : decode cX12_measures 53 = .ok (.iinc 2 1, 3) := by decide +kernel
theorem dX12_measures_56 : decode cX12_measures 56 = .ok (.iconst 0, 1) := by decide +kernel
theorem dX12_measures_57 : decode cX12_measures 57 = .ok (.istore 5, 2) := by decide +kernel
theorem dX12_measures_59 : decode cX12_measures 59 = .ok (.iload 5, 2) := by decide +kernel
theorem dX12_measures_61 : decode cX12_measures 61 = .ok (.iconst 4, 1) := by decide +kernel
theorem dX12_measures_62 : decode cX12_measures 62 = .ok (.if_icmp .ge 75, 3) := by decide +kernel
theorem dX12_measures_65 : decode cX12_measures 65 = .ok (.aload_n 0, 1) := by decide +kernel
theorem dX12_measures_66 : decode cX12_measures 66 = .ok (.iload 4, 2) := by decide +kernel
theorem dX12_measures_68 : decode cX12_measures 68 = .ok (.iload 5, 2) := by decide +kernel
theorem dX12_measures_70 : decode cX12_measures 70 = .ok (.invokevirtual 309, 3) := by decide +kernel
theorem dX12_measures_73 : decode cX12_measures 73 = .ok (.istore 6, 2) := by decide +kernel
theorem dX12_measures_75 : decode cX12_measures 75 = .ok (.iload 6, 2) := by decide +kernel
theorem dX12_measures_77 : decode cX12_measures 77 = .ok (.ifCond .lt 54, 3) := by decide +kernel
theorem dX12_measures_80 : decode cX12_measures 80 = .ok (.aload_n 0, 1) := by decide +kernel
theorem dX12_measures_81 : decode cX12_measures 81 = .ok (.iload 6, 2) := by decide +kernel
theorem dX12_measures_83 : decode cX12_measures 83 = .ok (.invokevirtual 329, 3) := by decide +kernel
theorem dX12_measures_86 : decode cX12_measures 86 = .ok (.ifCond .ne 45, 3) := by decide +kernel
theorem dX12_measures_89 : decode cX12_measures 89 = .ok (.aload_n 0, 1) := by decide +kernel
theorem dX12_measures_90 : decode cX12_measures 90 = .ok (.getfield 46, 3) := by decide +kernel
theorem dX12_measures_93 : decode cX12_measures 93 = .ok (.iload 6, 2) := by decide +kernel
theorem dX12_measures_95 : decode cX12_measures 95 = .ok (.iaload, 1) := by decide +kernel
theorem dX12_measures_96 : decode cX12_measures 96 = .ok (.bipush 99, 2) := by decide +kernel
theorem dX12_measures_98 : decode cX12_measures 98 = .ok (.if_icmp .ge 6, 3) := by decide +kernel
theorem dX12_measures_101 : decode cX12_measures 101 = .ok (.goto 30, 3) := by decide +kernel
theorem dX12_measures_104 : decode cX12_measures 104 = .ok (.aload_n 0, 1) := by decide +kernel
theorem dX12_measures_105 : decode cX12_measures 105 = .ok (.getfield 46, 3) := by decide +kernel
theorem dX12_measures_108 : decode cX12_measures 108 = .ok (.iload 6, 2) := by decide +kernel
theorem dX12_measures_110 : decode cX12_measures 110 = .ok (.aload_n 0, 1) := by decide +kernel
theorem dX12_measures_111 : decode cX12_measures 111 = .ok (.getfield 46, 3) := by decide +kernel
theorem dX12_measures_114 : decode cX12_measures 114 = .ok (.iload 4, 2) := by decide +kernel
theorem dX12_measures_116 : decode cX12_measures 116 = .ok (.iaload, 1) := by decide +kernel
theorem dX12_measures_117 : decode cX12_measures 117 = .ok (.iconst 1, 1) := by decide +kernel
theorem dX12_measures_118 : decode cX12_measures 118 = .ok (.iadd, 1) := by decide +kernel
theorem dX12_measures_119 : decode cX12_measures 119 = .ok (.iastore, 1) := by decide +kernel
theorem dX12_measures_120 : decode cX12_measures 120 = .ok (.aload_n 0, 1) := by decide +kernel
theorem dX12_measures_121 : decode cX12_measures 121 = .ok (.getfield 49, 3) := by decide +kernel
theorem dX12_measures_124 : decode cX12_measures 124 = .ok (.iload_n 3, 1) := by decide +kernel
theorem dX12_measures_125 : decode cX12_measures 125 = .ok (.iload 6, 2) := by decide +kernel
theorem dX12_measures_127 : decode cX12_measures 127 = .ok (.iastore, 1) := by decide +kernel
theorem dX12_measures_128 : decode cX12_measures 128 = .ok (.iinc 3 1, 3) := by decide +kernel
theorem dX12_measures_131 : decode cX12_measures 131 = .ok (.iinc 5 1, 3) := by decide +kernel
theorem dX12_measures_134 : decode cX12_measures 134 = .ok (.goto (-75), 3) := by decide +kernel
theorem dX12_measures_137 : decode cX12_measures 137 = .ok (.goto (-97), 3) := by decide +kernel
theorem dX12_measures_140 : decode cX12_measures 140 = .ok (.return_, 1) := by decide +kernel
theorem dX12_wayBetween_0 : decode cX12_wayBetween 0 = .ok (.aload_n 0, 1) := by decide +kernel
theorem dX12_wayBetween_1 : decode cX12_wayBetween 1 = .ok (.iload_n 1, 1) := by decide +kernel
theorem dX12_wayBetween_2 : decode cX12_wayBetween 2 = .ok (.invokevirtual 332, 3) := by decide +kernel
theorem dX12_wayBetween_5 : decode cX12_wayBetween 5 = .ok (.aload_n 0, 1) := by decide +kernel
theorem dX12_wayBetween_6 : decode cX12_wayBetween 6 = .ok (.getfield 46, 3) := by decide +kernel
theorem dX12_wayBetween_9 : decode cX12_wayBetween 9 = .ok (.iload_n 2, 1) := by decide +kernel
theorem dX12_wayBetween_10 : decode cX12_wayBetween 10 = .ok (.iaload, 1) := by decide +kernel
theorem dX12_wayBetween_11 : decode cX12_wayBetween 11 = .ok (.ireturn, 1) := by decide +kernel
theorem dX12_nearest_0 : decode cX12_nearest 0 = .ok (.bipush 99, 2) := by decide +kernel
theorem dX12_nearest_2 : decode cX12_nearest 2 = .ok (.istore_n 2, 1) := by decide +kernel
theorem dX12_nearest_3 : decode cX12_nearest 3 = .ok (.aload_n 0, 1) := by decide +kernel
theorem dX12_nearest_4 : decode cX12_nearest 4 = .ok (.iload_n 1, 1) := by decide +kernel
theorem dX12_nearest_5 : decode cX12_nearest 5 = .ok (.invokevirtual 332, 3) := by decide +kernel
theorem dX12_nearest_8 : decode cX12_nearest 8 = .ok (.iconst 0, 1) := by decide +kernel
theorem dX12_nearest_9 : decode cX12_nearest 9 = .ok (.istore_n 3, 1) := by decide +kernel
theorem dX12_nearest_10 : decode cX12_nearest 10 = .ok (.iload_n 3, 1) := by decide +kernel
theorem dX12_nearest_11 : decode cX12_nearest 11 = .ok (.aload_n 0, 1) := by decide +kernel
theorem dX12_nearest_12 : decode cX12_nearest 12 = .ok (.getfield 39, 3) := by decide +kernel
theorem dX12_nearest_15 : decode cX12_nearest 15 = .ok (.iconst 2, 1) := by decide +kernel
theorem dX12_nearest_16 : decode cX12_nearest 16 = .ok (.iaload, 1) := by decide +kernel
theorem dX12_nearest_17 : decode cX12_nearest 17 = .ok (.if_icmp .ge 42, 3) := by decide +kernel
theorem dX12_nearest_20 : decode cX12_nearest 20 = .ok (.aload_n 0, 1) := by decide +kernel
theorem dX12_nearest_21 : decode cX12_nearest 21 = .ok (.iload_n 3, 1) := by decide +kernel
theorem dX12_nearest_22 : decode cX12_nearest 22 = .ok (.invokevirtual 303, 3) := by decide +kernel
theorem dX12_nearest_25 : decode cX12_nearest 25 = .ok (.ifCond .ne 28, 3) := by decide +kernel
theorem dX12_nearest_28 : decode cX12_nearest 28 = .ok (.aload_n 0, 1) := by decide +kernel
theorem dX12_nearest_29 : decode cX12_nearest 29 = .ok (.getfield 46, 3) := by decide +kernel
theorem dX12_nearest_32 : decode cX12_nearest 32 = .ok (.aload_n 0, 1) := by decide +kernel
theorem dX12_nearest_33 : decode cX12_nearest 33 = .ok (.iload_n 3, 1) := by decide +kernel
theorem dX12_nearest_34 : decode cX12_nearest 34 = .ok (.invokevirtual 306, 3) := by decide +kernel
theorem dX12_nearest_37 : decode cX12_nearest 37 = .ok (.iaload, 1) := by decide +kernel
theorem dX12_nearest_38 : decode cX12_nearest 38 = .ok (.iload_n 2, 1) := by decide +kernel
theorem dX12_nearest_39 : decode cX12_nearest 39 = .ok (.if_icmp .ge 14, 3) := by decide +kernel
theorem dX12_nearest_42 : decode cX12_nearest 42 = .ok (.aload_n 0, 1) := by decide +kernel
theorem dX12_nearest_43 : decode cX12_nearest 43 = .ok (.getfield 46, 3) := by decide +kernel
theorem dX12_nearest_46 : decode cX12_nearest 46 = .ok (.aload_n 0, 1) := by decide +kernel
theorem dX12_nearest_47 : decode cX12_nearest 47 = .ok (.iload_n 3, 1) := by decide +kernel
theorem dX12_nearest_48 : decode cX12_nearest 48 = .ok (.invokevirtual 306, 3) := by decide +kernel
theorem dX12_nearest_51 : decode cX12_nearest 51 = .ok (.iaload, 1) := by decide +kernel
theorem dX12_nearest_52 : decode cX12_nearest 52 = .ok (.istore_n 2, 1) := by decide +kernel
theorem dX12_nearest_53 : decode cX12_nearest 53 = .ok (.iinc 3 1, 3) := by decide +kernel
theorem dX12_nearest_56 : decode cX12_nearest 56 = .ok (.goto (-46), 3) := by decide +kernel
theorem dX12_nearest_59 : decode cX12_nearest 59 = .ok (.iload_n 2, 1) := by decide +kernel
theorem dX12_nearest_60 : decode cX12_nearest 60 = .ok (.ireturn, 1) := by decide +kernel
theorem dX12_summedBy_0 : decode cX12_summedBy 0 = .ok (.iconst 0, 1) := by decide +kernel
theorem dX12_summedBy_1 : decode cX12_summedBy 1 = .ok (.istore_n 2, 1) := by decide +kernel
theorem dX12_summedBy_2 : decode cX12_summedBy 2 = .ok (.iload_n 2, 1) := by decide +kernel
theorem dX12_summedBy_3 : decode cX12_summedBy 3 = .ok (.aload_n 0, 1) := by decide +kernel
theorem dX12_summedBy_4 : decode cX12_summedBy 4 = .ok (.getfield 23, 3) := by decide +kernel
theorem dX12_summedBy_7 : decode cX12_summedBy 7 = .ok (.iload_n 1, 1) := by decide +kernel
theorem dX12_summedBy_8 : decode cX12_summedBy 8 = .ok (.iaload, 1) := by decide +kernel
theorem dX12_summedBy_9 : decode cX12_summedBy 9 = .ok (.if_icmp .ge 75, 3) := by decide +kernel
theorem dX12_summedBy_12 : decode cX12_summedBy 12 = .ok (.bipush 48, 2) := by decide +kernel
theorem dX12_summedBy_14 : decode cX12_summedBy 14 = .ok (.iload_n 1, 1) := by decide +kernel
theorem dX12_summedBy_15 : decode cX12_summedBy 15 = .ok (.imul, 1) := by decide +kernel
theorem dX12_summedBy_16 : decode cX12_summedBy 16 = .ok (.iconst 4, 1) := by decide +kernel
theorem dX12_summedBy_17 : decode cX12_summedBy 17 = .ok (.iload_n 2, 1) := by decide +kernel
theorem dX12_summedBy_18 : decode cX12_summedBy 18 = .ok (.imul, 1) := by decide +kernel
theorem dX12_summedBy_19 : decode cX12_summedBy 19 = .ok (.iadd, 1) := by decide +kernel
theorem dX12_summedBy_20 : decode cX12_summedBy 20 = .ok (.istore_n 3, 1) := by decide +kernel
theorem dX12_summedBy_21 : decode cX12_summedBy 21 = .ok (.aload_n 0, 1) := by decide +kernel
theorem dX12_summedBy_22 : decode cX12_summedBy 22 = .ok (.getfield 20, 3) := by decide +kernel
theorem dX12_summedBy_25 : decode cX12_summedBy 25 = .ok (.iload_n 3, 1) := by decide +kernel
theorem dX12_summedBy_26 : decode cX12_summedBy 26 = .ok (.iconst 2, 1) := by decide +kernel
theorem dX12_summedBy_27 : decode cX12_summedBy 27 = .ok (.iadd, 1) := by decide +kernel
theorem dX12_summedBy_28 : decode cX12_summedBy 28 = .ok (.iaload, 1) := by decide +kernel
theorem dX12_summedBy_29 : decode cX12_summedBy 29 = .ok (.ifCond .lt 29, 3) := by decide +kernel
theorem dX12_summedBy_32 : decode cX12_summedBy 32 = .ok (.aload_n 0, 1) := by decide +kernel
theorem dX12_summedBy_33 : decode cX12_summedBy 33 = .ok (.iload_n 1, 1) := by decide +kernel
theorem dX12_summedBy_34 : decode cX12_summedBy 34 = .ok (.aload_n 0, 1) := by decide +kernel
theorem dX12_summedBy_35 : decode cX12_summedBy 35 = .ok (.getfield 20, 3) := by decide +kernel
theorem dX12_summedBy_38 : decode cX12_summedBy 38 = .ok (.iload_n 3, 1) := by decide +kernel
theorem dX12_summedBy_39 : decode cX12_summedBy 39 = .ok (.iconst 2, 1) := by decide +kernel
theorem dX12_summedBy_40 : decode cX12_summedBy 40 = .ok (.iadd, 1) := by decide +kernel
theorem dX12_summedBy_41 : decode cX12_summedBy 41 = .ok (.iaload, 1) := by decide +kernel
theorem dX12_summedBy_42 : decode cX12_summedBy 42 = .ok (.aload_n 0, 1) := by decide +kernel
theorem dX12_summedBy_43 : decode cX12_summedBy 43 = .ok (.getfield 20, 3) := by decide +kernel
theorem dX12_summedBy_46 : decode cX12_summedBy 46 = .ok (.iload_n 3, 1) := by decide +kernel
theorem dX12_summedBy_47 : decode cX12_summedBy 47 = .ok (.iconst 3, 1) := by decide +kernel
theorem dX12_summedBy_48 : decode cX12_summedBy 48 = .ok (.iadd, 1) := by decide +kernel
theorem dX12_summedBy_49 : decode cX12_summedBy 49 = .ok (.iaload, 1) := by decide +kernel
theorem dX12_summedBy_50 : decode cX12_summedBy 50 = .ok (.invokevirtual 335, 3) := by decide +kernel
theorem dX12_summedBy_53 : decode cX12_summedBy 53 = .ok (.lconst 1, 1) := by decide +kernel
theorem dX12_summedBy_54 : decode cX12_summedBy 54 = .ok (.lcmp, 1) := by decide +kernel
theorem dX12_summedBy_55 : decode cX12_summedBy 55 = .ok (.ifCond .ne 23, 3) := by decide +kernel
theorem dX12_summedBy_58 : decode cX12_summedBy 58 = .ok (.aload_n 0, 1) := by decide +kernel
theorem dX12_summedBy_59 : decode cX12_summedBy 59 = .ok (.iload_n 1, 1) := by decide +kernel
theorem dX12_summedBy_60 : decode cX12_summedBy 60 = .ok (.aload_n 0, 1) := by decide +kernel
theorem dX12_summedBy_61 : decode cX12_summedBy 61 = .ok (.getfield 20, 3) := by decide +kernel
theorem dX12_summedBy_64 : decode cX12_summedBy 64 = .ok (.iload_n 3, 1) := by decide +kernel
theorem dX12_summedBy_65 : decode cX12_summedBy 65 = .ok (.iaload, 1) := by decide +kernel
theorem dX12_summedBy_66 : decode cX12_summedBy 66 = .ok (.aload_n 0, 1) := by decide +kernel
theorem dX12_summedBy_67 : decode cX12_summedBy 67 = .ok (.getfield 20, 3) := by decide +kernel
theorem dX12_summedBy_70 : decode cX12_summedBy 70 = .ok (.iload_n 3, 1) := by decide +kernel
theorem dX12_summedBy_71 : decode cX12_summedBy 71 = .ok (.iconst 1, 1) := by decide +kernel
theorem dX12_summedBy_72 : decode cX12_summedBy 72 = .ok (.iadd, 1) := by decide +kernel
theorem dX12_summedBy_73 : decode cX12_summedBy 73 = .ok (.iaload, 1) := by decide +kernel
theorem dX12_summedBy_74 : decode cX12_summedBy 74 = .ok (.invokevirtual 335, 3) := by decide +kernel
theorem dX12_summedBy_77 : decode cX12_summedBy 77 = .ok (.lreturn, 1) := by decide +kernel
theorem dX12_summedBy_78 : decode cX12_summedBy 78 = .ok (.iinc 2 1, 3) := by decide +kernel
theorem dX12_summedBy_81 : decode cX12_summedBy 81 = .ok (.goto (-79), 3) := by decide +kernel
theorem dX12_summedBy_84 : decode cX12_summedBy 84 = .ok (.lconst 0, 1) := by decide +kernel
theorem dX12_summedBy_85 : decode cX12_summedBy 85 = .ok (.lreturn, 1) := by decide +kernel
theorem dX12_sumOf_0 : decode cX12_sumOf 0 = .ok (.bipush 99, 2) := by decide +kernel
theorem dX12_sumOf_2 : decode cX12_sumOf 2 = .ok (.istore_n 2, 1) := by decide +kernel
theorem dX12_sumOf_3 : decode cX12_sumOf 3 = .ok (.iconst 0, 1) := by decide +kernel
theorem dX12_sumOf_4 : decode cX12_sumOf 4 = .ok (.istore_n 3, 1) := by decide +kernel
theorem dX12_sumOf_5 : decode cX12_sumOf 5 = .ok (.iconst 0, 1) := by decide +kernel
theorem dX12_sumOf_6 : decode cX12_sumOf 6 = .ok (.istore 4, 2) := by decide +kernel
theorem dX12_sumOf_8 : decode cX12_sumOf 8 = .ok (.iload 4, 2) := by decide +kernel
theorem dX12_sumOf_10 : decode cX12_sumOf 10 = .ok (.aload_n 0, 1) := by decide +kernel
theorem dX12_sumOf_11 : decode cX12_sumOf 11 = .ok (.getfield 39, 3) := by decide +kernel
theorem dX12_sumOf_14 : decode cX12_sumOf 14 = .ok (.iconst 2, 1) := by decide +kernel
theorem dX12_sumOf_15 : decode cX12_sumOf 15 = .ok (.iaload, 1) := by decide +kernel
theorem dX12_sumOf_16 : decode cX12_sumOf 16 = .ok (.if_icmp .ge 36, 3) := by decide +kernel
theorem dX12_sumOf_19 : decode cX12_sumOf 19 = .ok (.aload_n 0, 1) := by decide +kernel
theorem dX12_sumOf_20 : decode cX12_sumOf 20 = .ok (.iload 4, 2) := by decide +kernel
theorem dX12_sumOf_22 : decode cX12_sumOf 22 = .ok (.invokevirtual 306, 3) := by decide +kernel
theorem dX12_sumOf_25 : decode cX12_sumOf 25 = .ok (.iload_n 1, 1) := by decide +kernel
theorem dX12_sumOf_26 : decode cX12_sumOf 26 = .ok (.if_icmp .ne 20, 3) := by decide +kernel
theorem dX12_sumOf_29 : decode cX12_sumOf 29 = .ok (.aload_n 0, 1) := by decide +kernel
theorem dX12_sumOf_30 : decode cX12_sumOf 30 = .ok (.iload 4, 2) := by decide +kernel
theorem dX12_sumOf_32 : decode cX12_sumOf 32 = .ok (.invokevirtual 339, 3) := by decide +kernel
theorem dX12_sumOf_35 : decode cX12_sumOf 35 = .ok (.iload_n 2, 1) := by decide +kernel
theorem dX12_sumOf_36 : decode cX12_sumOf 36 = .ok (.if_icmp .ge 10, 3) := by decide +kernel
theorem dX12_sumOf_39 : decode cX12_sumOf 39 = .ok (.aload_n 0, 1) := by decide +kernel
theorem dX12_sumOf_40 : decode cX12_sumOf 40 = .ok (.iload 4, 2) := by decide +kernel
theorem dX12_sumOf_42 : decode cX12_sumOf 42 = .ok (.invokevirtual 339, 3) := by decide +kernel
theorem dX12_sumOf_45 : decode cX12_sumOf 45 = .ok (.istore_n 2, 1) := by decide +kernel
theorem dX12_sumOf_46 : decode cX12_sumOf 46 = .ok (.iinc 4 1, 3) := by decide +kernel
theorem dX12_sumOf_49 : decode cX12_sumOf 49 = .ok (.goto (-41), 3) := by decide +kernel
theorem dX12_sumOf_52 : decode cX12_sumOf 52 = .ok (.iconst 0, 1) := by decide +kernel
theorem dX12_sumOf_53 : decode cX12_sumOf 53 = .ok (.istore 4, 2) := by decide +kernel
theorem dX12_sumOf_55 : decode cX12_sumOf 55 = .ok (.iload 4, 2) := by decide +kernel
theorem dX12_sumOf_57 : decode cX12_sumOf 57 = .ok (.iconst 4, 1) := by decide +kernel
theorem dX12_sumOf_58 : decode cX12_sumOf 58 = .ok (.if_icmp .ge 41, 3) := by decide +kernel
theorem dX12_sumOf_61 : decode cX12_sumOf 61 = .ok (.iload_n 3, 1) := by decide +kernel
theorem dX12_sumOf_62 : decode cX12_sumOf 62 = .ok (.aload_n 0, 1) := by decide +kernel
theorem dX12_sumOf_63 : decode cX12_sumOf 63 = .ok (.iload_n 1, 1) := by decide +kernel
theorem dX12_sumOf_64 : decode cX12_sumOf 64 = .ok (.iload 4, 2) := by decide +kernel
theorem dX12_sumOf_66 : decode cX12_sumOf 66 = .ok (.invokevirtual 309, 3) := by decide +kernel
theorem dX12_sumOf_69 : decode cX12_sumOf 69 = .ok (.ifCond .lt 21, 3) := by decide +kernel
theorem dX12_sumOf_72 : decode cX12_sumOf 72 = .ok (.aload_n 0, 1) := by decide +kernel
theorem dX12_sumOf_73 : decode cX12_sumOf 73 = .ok (.aload_n 0, 1) := by decide +kernel
theorem dX12_sumOf_74 : decode cX12_sumOf 74 = .ok (.iload_n 1, 1) := by decide +kernel
theorem dX12_sumOf_75 : decode cX12_sumOf 75 = .ok (.iload 4, 2) := by decide +kernel
theorem dX12_sumOf_77 : decode cX12_sumOf 77 = .ok (.invokevirtual 309, 3) := by decide +kernel
theorem dX12_sumOf_80 : decode cX12_sumOf 80 = .ok (.invokevirtual 329, 3) := by decide +kernel
theorem dX12_sumOf_83 : decode cX12_sumOf 83 = .ok (.ifCond .eq 7, 3) := by decide +kernel
theorem dX12_sumOf_86 : decode cX12_sumOf 86 = .ok (.iconst 1, 1) := by decide +kernel
theorem dX12_sumOf_87 : decode cX12_sumOf 87 = .ok (.goto 4, 3) := by decide +kernel
theorem dX12_sumOf_90 : decode cX12_sumOf 90 = .ok (.iconst 0, 1) := by decide +kernel
theorem dX12_sumOf_91 : decode cX12_sumOf 91 = .ok (.iadd, 1) := by decide +kernel
theorem dX12_sumOf_92 : decode cX12_sumOf 92 = .ok (.istore_n 3, 1) := by decide +kernel
theorem dX12_sumOf_93 : decode cX12_sumOf 93 = .ok (.iinc 4 1, 3) := by decide +kernel
theorem dX12_sumOf_96 : decode cX12_sumOf 96 = .ok (.goto (-41), 3) := by decide +kernel
theorem dX12_sumOf_99 : decode cX12_sumOf 99 = .ok (.aload_n 0, 1) := by decide +kernel
theorem dX12_sumOf_100 : decode cX12_sumOf 100 = .ok (.getfield 36, 3) := by decide +kernel
theorem dX12_sumOf_103 : decode cX12_sumOf 103 = .ok (.iconst 0, 1) := by decide +kernel
theorem dX12_sumOf_104 : decode cX12_sumOf 104 = .ok (.iload_n 1, 1) := by decide +kernel
theorem dX12_sumOf_105 : decode cX12_sumOf 105 = .ok (.i2l, 1) := by decide +kernel
theorem dX12_sumOf_106 : decode cX12_sumOf 106 = .ok (.lastore, 1) := by decide +kernel
theorem dX12_sumOf_107 : decode cX12_sumOf 107 = .ok (.aload_n 0, 1) := by decide +kernel
theorem dX12_sumOf_108 : decode cX12_sumOf 108 = .ok (.getfield 36, 3) := by decide +kernel
theorem dX12_sumOf_111 : decode cX12_sumOf 111 = .ok (.iconst 1, 1) := by decide +kernel
theorem dX12_sumOf_112 : decode cX12_sumOf 112 = .ok (.iload_n 1, 1) := by decide +kernel
theorem dX12_sumOf_113 : decode cX12_sumOf 113 = .ok (.aload_n 0, 1) := by decide +kernel
theorem dX12_sumOf_114 : decode cX12_sumOf 114 = .ok (.getfield 39, 3) := by decide +kernel
theorem dX12_sumOf_117 : decode cX12_sumOf 117 = .ok (.iconst 1, 1) := by decide +kernel
theorem dX12_sumOf_118 : decode cX12_sumOf 118 = .ok (.iaload, 1) := by decide +kernel
theorem dX12_sumOf_119 : decode cX12_sumOf 119 = .ok (.idiv, 1) := by decide +kernel
theorem dX12_sumOf_120 : decode cX12_sumOf 120 = .ok (.i2l, 1) := by decide +kernel
theorem dX12_sumOf_121 : decode cX12_sumOf 121 = .ok (.lastore, 1) := by decide +kernel
theorem dX12_sumOf_122 : decode cX12_sumOf 122 = .ok (.aload_n 0, 1) := by decide +kernel
theorem dX12_sumOf_123 : decode cX12_sumOf 123 = .ok (.getfield 36, 3) := by decide +kernel
theorem dX12_sumOf_126 : decode cX12_sumOf 126 = .ok (.iconst 2, 1) := by decide +kernel
theorem dX12_sumOf_127 : decode cX12_sumOf 127 = .ok (.iload_n 1, 1) := by decide +kernel
theorem dX12_sumOf_128 : decode cX12_sumOf 128 = .ok (.aload_n 0, 1) := by decide +kernel
theorem dX12_sumOf_129 : decode cX12_sumOf 129 = .ok (.getfield 39, 3) := by decide +kernel
theorem dX12_sumOf_132 : decode cX12_sumOf 132 = .ok (.iconst 1, 1) := by decide +kernel
theorem dX12_sumOf_133 : decode cX12_sumOf 133 = .ok (.iaload, 1) := by decide +kernel
theorem dX12_sumOf_134 : decode cX12_sumOf 134 = .ok (.irem, 1) := by decide +kernel
theorem dX12_sumOf_135 : decode cX12_sumOf 135 = .ok (.i2l, 1) := by decide +kernel
theorem dX12_sumOf_136 : decode cX12_sumOf 136 = .ok (.lastore, 1) := by decide +kernel
theorem dX12_sumOf_137 : decode cX12_sumOf 137 = .ok (.aload_n 0, 1) := by decide +kernel
theorem dX12_sumOf_138 : decode cX12_sumOf 138 = .ok (.getfield 36, 3) := by decide +kernel
theorem dX12_sumOf_141 : decode cX12_sumOf 141 = .ok (.iconst 3, 1) := by decide +kernel
theorem dX12_sumOf_142 : decode cX12_sumOf 142 = .ok (.aload_n 0, 1) := by decide +kernel
theorem dX12_sumOf_143 : decode cX12_sumOf 143 = .ok (.iload_n 1, 1) := by decide +kernel
theorem dX12_sumOf_144 : decode cX12_sumOf 144 = .ok (.invokevirtual 326, 3) := by decide +kernel
theorem dX12_sumOf_147 : decode cX12_sumOf 147 = .ok (.invokestatic 342, 3) := by decide +kernel
theorem dX12_sumOf_150 : decode cX12_sumOf 150 = .ok (.i2l, 1) := by decide +kernel
theorem dX12_sumOf_151 : decode cX12_sumOf 151 = .ok (.lastore, 1) := by decide +kernel
theorem dX12_sumOf_152 : decode cX12_sumOf 152 = .ok (.aload_n 0, 1) := by decide +kernel
theorem dX12_sumOf_153 : decode cX12_sumOf 153 = .ok (.getfield 36, 3) := by decide +kernel
theorem dX12_sumOf_156 : decode cX12_sumOf 156 = .ok (.iconst 4, 1) := by decide +kernel
theorem dX12_sumOf_157 : decode cX12_sumOf 157 = .ok (.iload_n 2, 1) := by decide +kernel
theorem dX12_sumOf_158 : decode cX12_sumOf 158 = .ok (.i2l, 1) := by decide +kernel
theorem dX12_sumOf_159 : decode cX12_sumOf 159 = .ok (.lastore, 1) := by decide +kernel
theorem dX12_sumOf_160 : decode cX12_sumOf 160 = .ok (.aload_n 0, 1) := by decide +kernel
theorem dX12_sumOf_161 : decode cX12_sumOf 161 = .ok (.getfield 36, 3) := by decide +kernel
theorem dX12_sumOf_164 : decode cX12_sumOf 164 = .ok (.iconst 5, 1) := by decide +kernel
theorem dX12_sumOf_165 : decode cX12_sumOf 165 = .ok (.aload_n 0, 1) := by decide +kernel
theorem dX12_sumOf_166 : decode cX12_sumOf 166 = .ok (.getfield 39, 3) := by decide +kernel
theorem dX12_sumOf_169 : decode cX12_sumOf 169 = .ok (.bipush 73, 2) := by decide +kernel
theorem dX12_sumOf_171 : decode cX12_sumOf 171 = .ok (.iload_n 1, 1) := by decide +kernel
theorem dX12_sumOf_172 : decode cX12_sumOf 172 = .ok (.iadd, 1) := by decide +kernel
theorem dX12_sumOf_173 : decode cX12_sumOf 173 = .ok (.iaload, 1) := by decide +kernel
theorem dX12_sumOf_174 : decode cX12_sumOf 174 = .ok (.i2l, 1) := by decide +kernel
theorem dX12_sumOf_175 : decode cX12_sumOf 175 = .ok (.lastore, 1) := by decide +kernel
theorem dX12_sumOf_176 : decode cX12_sumOf 176 = .ok (.aload_n 0, 1) := by decide +kernel
theorem dX12_sumOf_177 : decode cX12_sumOf 177 = .ok (.getfield 36, 3) := by decide +kernel
theorem dX12_sumOf_180 : decode cX12_sumOf 180 = .ok (.bipush 6, 2) := by decide +kernel
theorem dX12_sumOf_182 : decode cX12_sumOf 182 = .ok (.aload_n 0, 1) := by decide +kernel
theorem dX12_sumOf_183 : decode cX12_sumOf 183 = .ok (.iload_n 1, 1) := by decide +kernel
theorem dX12_sumOf_184 : decode cX12_sumOf 184 = .ok (.invokevirtual 345, 3) := by decide +kernel
theorem dX12_sumOf_187 : decode cX12_sumOf 187 = .ok (.i2l, 1) := by decide +kernel
theorem dX12_sumOf_188 : decode cX12_sumOf 188 = .ok (.lastore, 1) := by decide +kernel
theorem dX12_sumOf_189 : decode cX12_sumOf 189 = .ok (.aload_n 0, 1) := by decide +kernel
theorem dX12_sumOf_190 : decode cX12_sumOf 190 = .ok (.getfield 36, 3) := by decide +kernel
theorem dX12_sumOf_193 : decode cX12_sumOf 193 = .ok (.bipush 7, 2) := by decide +kernel
theorem dX12_sumOf_195 : decode cX12_sumOf 195 = .ok (.iload_n 3, 1) := by decide +kernel
theorem dX12_sumOf_196 : decode cX12_sumOf 196 = .ok (.i2l, 1) := by decide +kernel
theorem dX12_sumOf_197 : decode cX12_sumOf 197 = .ok (.lastore, 1) := by decide +kernel
theorem dX12_sumOf_198 : decode cX12_sumOf 198 = .ok (.aload_n 0, 1) := by decide +kernel
theorem dX12_sumOf_199 : decode cX12_sumOf 199 = .ok (.getfield 36, 3) := by decide +kernel
theorem dX12_sumOf_202 : decode cX12_sumOf 202 = .ok (.bipush 8, 2) := by decide +kernel
theorem dX12_sumOf_204 : decode cX12_sumOf 204 = .ok (.aload_n 0, 1) := by decide +kernel
theorem dX12_sumOf_205 : decode cX12_sumOf 205 = .ok (.getfield 39, 3) := by decide +kernel
theorem dX12_sumOf_208 : decode cX12_sumOf 208 = .ok (.bipush 12, 2) := by decide +kernel
theorem dX12_sumOf_210 : decode cX12_sumOf 210 = .ok (.iaload, 1) := by decide +kernel
theorem dX12_sumOf_211 : decode cX12_sumOf 211 = .ok (.invokestatic 342, 3) := by decide +kernel
theorem dX12_sumOf_214 : decode cX12_sumOf 214 = .ok (.i2l, 1) := by decide +kernel
theorem dX12_sumOf_215 : decode cX12_sumOf 215 = .ok (.lastore, 1) := by decide +kernel
theorem dX12_sumOf_216 : decode cX12_sumOf 216 = .ok (.aload_n 0, 1) := by decide +kernel
theorem dX12_sumOf_217 : decode cX12_sumOf 217 = .ok (.getfield 36, 3) := by decide +kernel
theorem dX12_sumOf_220 : decode cX12_sumOf 220 = .ok (.bipush 9, 2) := by decide +kernel
theorem dX12_sumOf_222 : decode cX12_sumOf 222 = .ok (.aload_n 0, 1) := by decide +kernel
theorem dX12_sumOf_223 : decode cX12_sumOf 223 = .ok (.invokevirtual 348, 3) := by decide +kernel
theorem dX12_sumOf_226 : decode cX12_sumOf 226 = .ok (.i2l, 1) := by decide +kernel
theorem dX12_sumOf_227 : decode cX12_sumOf 227 = .ok (.lastore, 1) := by decide +kernel
theorem dX12_sumOf_228 : decode cX12_sumOf 228 = .ok (.aload_n 0, 1) := by decide +kernel
theorem dX12_sumOf_229 : decode cX12_sumOf 229 = .ok (.getfield 36, 3) := by decide +kernel
theorem dX12_sumOf_232 : decode cX12_sumOf 232 = .ok (.bipush 10, 2) := by decide +kernel
theorem dX12_sumOf_234 : decode cX12_sumOf 234 = .ok (.aload_n 0, 1) := by decide +kernel
theorem dX12_sumOf_235 : decode cX12_sumOf 235 = .ok (.getfield 39, 3) := by decide +kernel
theorem dX12_sumOf_238 : decode cX12_sumOf 238 = .ok (.bipush 10, 2) := by decide +kernel
theorem dX12_sumOf_240 : decode cX12_sumOf 240 = .ok (.iaload, 1) := by decide +kernel
theorem dX12_sumOf_241 : decode cX12_sumOf 241 = .ok (.i2l, 1) := by decide +kernel
theorem dX12_sumOf_242 : decode cX12_sumOf 242 = .ok (.lastore, 1) := by decide +kernel
theorem dX12_sumOf_243 : decode cX12_sumOf 243 = .ok (.aload_n 0, 1) := by decide +kernel
theorem dX12_sumOf_244 : decode cX12_sumOf 244 = .ok (.aload_n 0, 1) := by decide +kernel
theorem dX12_sumOf_245 : decode cX12_sumOf 245 = .ok (.getfield 42, 3) := by decide +kernel
theorem dX12_sumOf_248 : decode cX12_sumOf 248 = .ok (.invokevirtual 351, 3) := by decide +kernel
theorem dX12_sumOf_251 : decode cX12_sumOf 251 = .ok (.lreturn, 1) := by decide +kernel
theorem dX12_choice_0 : decode cX12_choice 0 = .ok (.aload_n 0, 1) := by decide +kernel
theorem dX12_choice_1 : decode cX12_choice 1 = .ok (.getfield 39, 3) := by decide +kernel
theorem dX12_choice_4 : decode cX12_choice 4 = .ok (.bipush 11, 2) := by decide +kernel
theorem dX12_choice_6 : decode cX12_choice 6 = .ok (.iaload, 1) := by decide +kernel
theorem dX12_choice_7 : decode cX12_choice 7 = .ok (.istore_n 1, 1) := by decide +kernel
theorem dX12_choice_8 : decode cX12_choice 8 = .ok (.iload_n 1, 1) := by decide +kernel
theorem dX12_choice_9 : decode cX12_choice 9 = .ok (.istore_n 2, 1) := by decide +kernel
theorem dX12_choice_10 : decode cX12_choice 10 = .ok (.lconst 0, 1) := by decide +kernel
theorem dX12_choice_11 : decode cX12_choice 11 = .ok (.lstore_n 3, 1) := by decide +kernel
theorem dX12_choice_12 : decode cX12_choice 12 = .ok (.aload_n 0, 1) := by decide +kernel
theorem dX12_choice_13 : decode cX12_choice 13 = .ok (.getfield 42, 3) := by decide +kernel
theorem dX12_choice_16 : decode cX12_choice 16 = .ok (.ifCond .ge 11, 3) := by decide +kernel
theorem dX12_choice_19 : decode cX12_choice 19 = .ok (.aload_n 0, 1) := by decide +kernel
theorem dX12_choice_20 : decode cX12_choice 20 = .ok (.iload_n 1, 1) := by decide +kernel
theorem dX12_choice_21 : decode cX12_choice 21 = .ok (.invokevirtual 345, 3) := by decide +kernel
theorem dX12_choice_24 : decode cX12_choice 24 = .ok (.goto 4, 3) := by decide +kernel
theorem dX12_choice_27 : decode cX12_choice 27 = .ok (.iconst 0, 1) := by decide +kernel
theorem dX12_choice_28 : decode cX12_choice 28 = .ok (.istore 5, 2) := by decide +kernel
theorem dX12_choice_30 : decode cX12_choice 30 = .ok (.aload_n 0, 1) := by decide +kernel
theorem dX12_choice_31 : decode cX12_choice 31 = .ok (.getfield 42, 3) := by decide +kernel
theorem dX12_choice_34 : decode cX12_choice 34 = .ok (.ifCond .ge 17, 3) := by decide +kernel
theorem dX12_choice_37 : decode cX12_choice 37 = .ok (.iload 5, 2) := by decide +kernel
theorem dX12_choice_39 : decode cX12_choice 39 = .ok (.ifCond .eq 10, 3) := by decide +kernel
theorem dX12_choice_42 : decode cX12_choice 42 = .ok (.iload 5, 2) := by decide +kernel
theorem dX12_choice_44 : decode cX12_choice 44 = .ok (.bipush 99, 2) := by decide +kernel
theorem dX12_choice_46 : decode cX12_choice 46 = .ok (.if_icmp .ne 5, 3) := by decide +kernel
theorem dX12_choice_49 : decode cX12_choice 49 = .ok (.iload_n 1, 1) := by decide +kernel
theorem dX12_choice_50 : decode cX12_choice 50 = .ok (.ireturn, 1) := by decide +kernel
theorem dX12_choice_51 : decode cX12_choice 51 = .ok (.iconst 0, 1) := by decide +kernel
theorem dX12_choice_52 : decode cX12_choice 52 = .ok (.istore 6, 2) := by decide +kernel
theorem dX12_choice_54 : decode cX12_choice 54 = .ok (.iload 6, 2) := by decide +kernel
theorem dX12_choice_56 : decode cX12_choice 56 = .ok (.aload_n 0, 1) := by decide +kernel
theorem dX12_choice_57 : decode cX12_choice 57 = .ok (.invokevirtual 300, 3) := by decide +kernel
theorem dX12_choice_60 : decode cX12_choice 60 = .ok (.if_icmp .ge 83, 3) := by decide +kernel
theorem dX12_choice_63 : decode cX12_choice 63 = .ok (.aload_n 0, 1) := by decide +kernel
theorem dX12_choice_64 : decode cX12_choice 64 = .ok (.iload_n 1, 1) := by decide +kernel
theorem dX12_choice_65 : decode cX12_choice 65 = .ok (.iload 6, 2) := by decide +kernel
theorem dX12_choice_67 : decode cX12_choice 67 = .ok (.invokevirtual 355, 3) := by decide +kernel
theorem dX12_choice_70 : decode cX12_choice 70 = .ok (.ifCond .eq 67, 3) := by decide +kernel
theorem dX12_choice_73 : decode cX12_choice 73 = .ok (.aload_n 0, 1) := by decide +kernel
theorem dX12_choice_74 : decode cX12_choice 74 = .ok (.iload 6, 2) := by decide +kernel
theorem dX12_choice_76 : decode cX12_choice 76 = .ok (.invokevirtual 329, 3) := by decide +kernel
theorem dX12_choice_79 : decode cX12_choice 79 = .ok (.ifCond .eq 6, 3) := by decide +kernel
theorem dX12_choice_82 : decode cX12_choice 82 = .ok (.goto 55, 3) := by decide +kernel
theorem dX12_choice_85 : decode cX12_choice 85 = .ok (.aload_n 0, 1) := by decide +kernel
theorem dX12_choice_86 : decode cX12_choice 86 = .ok (.getfield 42, 3) := by decide +kernel
theorem dX12_choice_89 : decode cX12_choice 89 = .ok (.ifCond .ge 24, 3) := by decide +kernel
theorem dX12_choice_92 : decode cX12_choice 92 = .ok (.aload_n 0, 1) := by decide +kernel
theorem dX12_choice_93 : decode cX12_choice 93 = .ok (.iload 6, 2) := by decide +kernel
theorem dX12_choice_95 : decode cX12_choice 95 = .ok (.invokevirtual 345, 3) := by decide +kernel
theorem dX12_choice_98 : decode cX12_choice 98 = .ok (.iload 5, 2) := by decide +kernel
theorem dX12_choice_100 : decode cX12_choice 100 = .ok (.iconst 1, 1) := by decide +kernel
theorem dX12_choice_101 : decode cX12_choice 101 = .ok (.isub, 1) := by decide +kernel
theorem dX12_choice_102 : decode cX12_choice 102 = .ok (.if_icmp .ne 7, 3) := by decide +kernel
theorem dX12_choice_105 : decode cX12_choice 105 = .ok (.lconst 1, 1) := by decide +kernel
theorem dX12_choice_106 : decode cX12_choice 106 = .ok (.goto 13, 3) := by decide +kernel
theorem dX12_choice_109 : decode cX12_choice 109 = .ok (.lconst 0, 1) := by decide +kernel
theorem dX12_choice_110 : decode cX12_choice 110 = .ok (.goto 9, 3) := by decide +kernel
theorem dX12_choice_113 : decode cX12_choice 113 = .ok (.aload_n 0, 1) := by decide +kernel
theorem dX12_choice_114 : decode cX12_choice 114 = .ok (.iload 6, 2) := by decide +kernel
theorem dX12_choice_116 : decode cX12_choice 116 = .ok (.invokevirtual 358, 3) := by decide +kernel
theorem dX12_choice_119 : decode cX12_choice 119 = .ok (.lstore 7, 2) := by decide +kernel
theorem dX12_choice_121 : decode cX12_choice 121 = .ok (.lload 7, 2) := by decide +kernel
theorem dX12_choice_123 : decode cX12_choice 123 = .ok (.lload_n 3, 1) := by decide +kernel
theorem dX12_choice_124 : decode cX12_choice 124 = .ok (.lcmp, 1) := by decide +kernel
theorem dX12_choice_125 : decode cX12_choice 125 = .ok (.ifCond .gt 6, 3) := by decide +kernel
theorem dX12_choice_128 : decode cX12_choice 128 = .ok (.goto 9, 3) := by decide +kernel
theorem dX12_choice_131 : decode cX12_choice 131 = .ok (.iload 6, 2) := by decide +kernel
theorem dX12_choice_133 : decode cX12_choice 133 = .ok (.istore_n 2, 1) := by decide +kernel
theorem dX12_choice_134 : decode cX12_choice 134 = .ok (.lload 7, 2) := by decide +kernel
theorem dX12_choice_136 : decode cX12_choice 136 = .ok (.lstore_n 3, 1) := by decide +kernel
theorem dX12_choice_137 : decode cX12_choice 137 = .ok (.iinc 6 1, 3) := by decide +kernel
theorem dX12_choice_140 : decode cX12_choice 140 = .ok (.goto (-86), 3) := by decide +kernel
theorem dX12_choice_143 : decode cX12_choice 143 = .ok (.iload_n 2, 1) := by decide +kernel
theorem dX12_choice_144 : decode cX12_choice 144 = .ok (.ireturn, 1) := by decide +kernel
theorem dX12_asks_0 : decode cX12_asks 0 = .ok (.bipush 13, 2) := by decide +kernel
theorem dX12_asks_2 : decode cX12_asks 2 = .ok (.iconst 4, 1) := by decide +kernel
theorem dX12_asks_3 : decode cX12_asks 3 = .ok (.iload_n 1, 1) := by decide +kernel
theorem dX12_asks_4 : decode cX12_asks 4 = .ok (.imul, 1) := by decide +kernel
theorem dX12_asks_5 : decode cX12_asks 5 = .ok (.iadd, 1) := by decide +kernel
theorem dX12_asks_6 : decode cX12_asks 6 = .ok (.istore_n 2, 1) := by decide +kernel
theorem dX12_asks_7 : decode cX12_asks 7 = .ok (.aload_n 0, 1) := by decide +kernel
theorem dX12_asks_8 : decode cX12_asks 8 = .ok (.getfield 39, 3) := by decide +kernel
theorem dX12_asks_11 : decode cX12_asks 11 = .ok (.iload_n 2, 1) := by decide +kernel
theorem dX12_asks_12 : decode cX12_asks 12 = .ok (.iconst 2, 1) := by decide +kernel
theorem dX12_asks_13 : decode cX12_asks 13 = .ok (.iadd, 1) := by decide +kernel
theorem dX12_asks_14 : decode cX12_asks 14 = .ok (.dup2, 1) := by decide +kernel
theorem dX12_asks_15 : decode cX12_asks 15 = .ok (.iaload, 1) := by decide +kernel
theorem dX12_asks_16 : decode cX12_asks 16 = .ok (.iconst 1, 1) := by decide +kernel
theorem dX12_asks_17 : decode cX12_asks 17 = .ok (.iadd, 1) := by decide +kernel
theorem dX12_asks_18 : decode cX12_asks 18 = .ok (.iastore, 1) := by decide +kernel
theorem dX12_asks_19 : decode cX12_asks 19 = .ok (.aload_n 0, 1) := by decide +kernel
theorem dX12_asks_20 : decode cX12_asks 20 = .ok (.getfield 39, 3) := by decide +kernel
theorem dX12_asks_23 : decode cX12_asks 23 = .ok (.iload_n 2, 1) := by decide +kernel
theorem dX12_asks_24 : decode cX12_asks 24 = .ok (.iconst 1, 1) := by decide +kernel
theorem dX12_asks_25 : decode cX12_asks 25 = .ok (.iadd, 1) := by decide +kernel
theorem dX12_asks_26 : decode cX12_asks 26 = .ok (.iaload, 1) := by decide +kernel
theorem dX12_asks_27 : decode cX12_asks 27 = .ok (.ifCond .le 15, 3) := by decide +kernel
theorem dX12_asks_30 : decode cX12_asks 30 = .ok (.aload_n 0, 1) := by decide +kernel
theorem dX12_asks_31 : decode cX12_asks 31 = .ok (.getfield 39, 3) := by decide +kernel
theorem dX12_asks_34 : decode cX12_asks 34 = .ok (.iload_n 2, 1) := by decide +kernel
theorem dX12_asks_35 : decode cX12_asks 35 = .ok (.iconst 1, 1) := by decide +kernel
theorem dX12_asks_36 : decode cX12_asks 36 = .ok (.iadd, 1) := by decide +kernel
theorem dX12_asks_37 : decode cX12_asks 37 = .ok (.dup2, 1) := by decide +kernel
theorem dX12_asks_38 : decode cX12_asks 38 = .ok (.iaload, 1) := by decide +kernel
theorem dX12_asks_39 : decode cX12_asks 39 = .ok (.iconst 1, 1) := by decide +kernel
theorem dX12_asks_40 : decode cX12_asks 40 = .ok (.isub, 1) := by decide +kernel
theorem dX12_asks_41 : decode cX12_asks 41 = .ok (.iastore, 1) := by decide +kernel
theorem dX12_asks_42 : decode cX12_asks 42 = .ok (.aload_n 0, 1) := by decide +kernel
theorem dX12_asks_43 : decode cX12_asks 43 = .ok (.getfield 39, 3) := by decide +kernel
theorem dX12_asks_46 : decode cX12_asks 46 = .ok (.bipush 12, 2) := by decide +kernel
theorem dX12_asks_48 : decode cX12_asks 48 = .ok (.dup2, 1) := by decide +kernel
theorem dX12_asks_49 : decode cX12_asks 49 = .ok (.iaload, 1) := by decide +kernel
theorem dX12_asks_50 : decode cX12_asks 50 = .ok (.aload_n 0, 1) := by decide +kernel
theorem dX12_asks_51 : decode cX12_asks 51 = .ok (.getfield 39, 3) := by decide +kernel
theorem dX12_asks_54 : decode cX12_asks 54 = .ok (.iload_n 2, 1) := by decide +kernel
theorem dX12_asks_55 : decode cX12_asks 55 = .ok (.iconst 3, 1) := by decide +kernel
theorem dX12_asks_56 : decode cX12_asks 56 = .ok (.iadd, 1) := by decide +kernel
theorem dX12_asks_57 : decode cX12_asks 57 = .ok (.iaload, 1) := by decide +kernel
theorem dX12_asks_58 : decode cX12_asks 58 = .ok (.ior, 1) := by decide +kernel
theorem dX12_asks_59 : decode cX12_asks 59 = .ok (.iastore, 1) := by decide +kernel
theorem dX12_asks_60 : decode cX12_asks 60 = .ok (.aload_n 0, 1) := by decide +kernel
theorem dX12_asks_61 : decode cX12_asks 61 = .ok (.getfield 39, 3) := by decide +kernel
theorem dX12_asks_64 : decode cX12_asks 64 = .ok (.iload_n 2, 1) := by decide +kernel
theorem dX12_asks_65 : decode cX12_asks 65 = .ok (.iconst 3, 1) := by decide +kernel
theorem dX12_asks_66 : decode cX12_asks 66 = .ok (.iadd, 1) := by decide +kernel
theorem dX12_asks_67 : decode cX12_asks 67 = .ok (.aload_n 0, 1) := by decide +kernel
theorem dX12_asks_68 : decode cX12_asks 68 = .ok (.getfield 39, 3) := by decide +kernel
theorem dX12_asks_71 : decode cX12_asks 71 = .ok (.bipush 12, 2) := by decide +kernel
theorem dX12_asks_73 : decode cX12_asks 73 = .ok (.iaload, 1) := by decide +kernel
theorem dX12_asks_74 : decode cX12_asks 74 = .ok (.iastore, 1) := by decide +kernel
theorem dX12_asks_75 : decode cX12_asks 75 = .ok (.return_, 1) := by decide +kernel
theorem dX12_passes_0 : decode cX12_passes 0 = .ok (.aload_n 0, 1) := by decide +kernel
theorem dX12_passes_1 : decode cX12_passes 1 = .ok (.getfield 39, 3) := by decide +kernel
theorem dX12_passes_4 : decode cX12_passes 4 = .ok (.bipush 11, 2) := by decide +kernel
theorem dX12_passes_6 : decode cX12_passes 6 = .ok (.aload_n 0, 1) := by decide +kernel
theorem dX12_passes_7 : decode cX12_passes 7 = .ok (.invokevirtual 361, 3) := by decide +kernel
theorem dX12_passes_10 : decode cX12_passes 10 = .ok (.iastore, 1) := by decide +kernel
theorem dX12_passes_11 : decode cX12_passes 11 = .ok (.aload_n 0, 1) := by decide +kernel
theorem dX12_passes_12 : decode cX12_passes 12 = .ok (.getfield 39, 3) := by decide +kernel
theorem dX12_passes_15 : decode cX12_passes 15 = .ok (.bipush 73, 2) := by decide +kernel
theorem dX12_passes_17 : decode cX12_passes 17 = .ok (.aload_n 0, 1) := by decide +kernel
theorem dX12_passes_18 : decode cX12_passes 18 = .ok (.getfield 39, 3) := by decide +kernel
theorem dX12_passes_21 : decode cX12_passes 21 = .ok (.bipush 11, 2) := by decide +kernel
theorem dX12_passes_23 : decode cX12_passes 23 = .ok (.iaload, 1) := by decide +kernel
theorem dX12_passes_24 : decode cX12_passes 24 = .ok (.iadd, 1) := by decide +kernel
theorem dX12_passes_25 : decode cX12_passes 25 = .ok (.dup2, 1) := by decide +kernel
theorem dX12_passes_26 : decode cX12_passes 26 = .ok (.iaload, 1) := by decide +kernel
theorem dX12_passes_27 : decode cX12_passes 27 = .ok (.iconst 1, 1) := by decide +kernel
theorem dX12_passes_28 : decode cX12_passes 28 = .ok (.iadd, 1) := by decide +kernel
theorem dX12_passes_29 : decode cX12_passes 29 = .ok (.iastore, 1) := by decide +kernel
theorem dX12_passes_30 : decode cX12_passes 30 = .ok (.aload_n 0, 1) := by decide +kernel
theorem dX12_passes_31 : decode cX12_passes 31 = .ok (.aload_n 0, 1) := by decide +kernel
theorem dX12_passes_32 : decode cX12_passes 32 = .ok (.getfield 39, 3) := by decide +kernel
theorem dX12_passes_35 : decode cX12_passes 35 = .ok (.bipush 11, 2) := by decide +kernel
theorem dX12_passes_37 : decode cX12_passes 37 = .ok (.iaload, 1) := by decide +kernel
theorem dX12_passes_38 : decode cX12_passes 38 = .ok (.invokevirtual 326, 3) := by decide +kernel
theorem dX12_passes_41 : decode cX12_passes 41 = .ok (.istore_n 1, 1) := by decide +kernel
theorem dX12_passes_42 : decode cX12_passes 42 = .ok (.iconst 0, 1) := by decide +kernel
theorem dX12_passes_43 : decode cX12_passes 43 = .ok (.istore_n 2, 1) := by decide +kernel
theorem dX12_passes_44 : decode cX12_passes 44 = .ok (.iload_n 2, 1) := by decide +kernel
theorem dX12_passes_45 : decode cX12_passes 45 = .ok (.aload_n 0, 1) := by decide +kernel
theorem dX12_passes_46 : decode cX12_passes 46 = .ok (.getfield 39, 3) := by decide +kernel
theorem dX12_passes_49 : decode cX12_passes 49 = .ok (.iconst 2, 1) := by decide +kernel
theorem dX12_passes_50 : decode cX12_passes 50 = .ok (.iaload, 1) := by decide +kernel
theorem dX12_passes_51 : decode cX12_passes 51 = .ok (.if_icmp .ge 22, 3) := by decide +kernel
theorem dX12_passes_54 : decode cX12_passes 54 = .ok (.iload_n 1, 1) := by decide +kernel
theorem dX12_passes_55 : decode cX12_passes 55 = .ok (.iload_n 2, 1) := by decide +kernel
theorem dX12_passes_56 : decode cX12_passes 56 = .ok (.invokestatic 364, 3) := by decide +kernel
theorem dX12_passes_59 : decode cX12_passes 59 = .ok (.ifCond .eq 8, 3) := by decide +kernel
theorem dX12_passes_62 : decode cX12_passes 62 = .ok (.aload_n 0, 1) := by decide +kernel
theorem dX12_passes_63 : decode cX12_passes 63 = .ok (.iload_n 2, 1) := by decide +kernel
theorem dX12_passes_64 : decode cX12_passes 64 = .ok (.invokevirtual 367, 3) := by decide +kernel
theorem dX12_passes_67 : decode cX12_passes 67 = .ok (.iinc 2 1, 3) := by decide +kernel
theorem dX12_passes_70 : decode cX12_passes 70 = .ok (.goto (-26), 3) := by decide +kernel
theorem dX12_passes_73 : decode cX12_passes 73 = .ok (.aload_n 0, 1) := by decide +kernel
theorem dX12_passes_74 : decode cX12_passes 74 = .ok (.getfield 39, 3) := by decide +kernel
theorem dX12_passes_77 : decode cX12_passes 77 = .ok (.bipush 10, 2) := by decide +kernel
theorem dX12_passes_79 : decode cX12_passes 79 = .ok (.dup2, 1) := by decide +kernel
theorem dX12_passes_80 : decode cX12_passes 80 = .ok (.iaload, 1) := by decide +kernel
theorem dX12_passes_81 : decode cX12_passes 81 = .ok (.iconst 1, 1) := by decide +kernel
theorem dX12_passes_82 : decode cX12_passes 82 = .ok (.iadd, 1) := by decide +kernel
theorem dX12_passes_83 : decode cX12_passes 83 = .ok (.iastore, 1) := by decide +kernel
theorem dX12_passes_84 : decode cX12_passes 84 = .ok (.iload_n 1, 1) := by decide +kernel
theorem dX12_passes_85 : decode cX12_passes 85 = .ok (.ireturn, 1) := by decide +kernel
theorem dX12_passesAll_0 : decode cX12_passesAll 0 = .ok (.iconst 0, 1) := by decide +kernel
theorem dX12_passesAll_1 : decode cX12_passesAll 1 = .ok (.istore_n 2, 1) := by decide +kernel
theorem dX12_passesAll_2 : decode cX12_passesAll 2 = .ok (.iload_n 2, 1) := by decide +kernel
theorem dX12_passesAll_3 : decode cX12_passesAll 3 = .ok (.iload_n 1, 1) := by decide +kernel
theorem dX12_passesAll_4 : decode cX12_passesAll 4 = .ok (.if_icmp .ge 14, 3) := by decide +kernel
theorem dX12_passesAll_7 : decode cX12_passesAll 7 = .ok (.aload_n 0, 1) := by decide +kernel
theorem dX12_passesAll_8 : decode cX12_passesAll 8 = .ok (.invokevirtual 370, 3) := by decide +kernel
theorem dX12_passesAll_11 : decode cX12_passesAll 11 = .ok (.pop, 1) := by decide +kernel
theorem dX12_passesAll_12 : decode cX12_passesAll 12 = .ok (.iinc 2 1, 3) := by decide +kernel
theorem dX12_passesAll_15 : decode cX12_passesAll 15 = .ok (.goto (-13), 3) := by decide +kernel
theorem dX12_passesAll_18 : decode cX12_passesAll 18 = .ok (.return_, 1) := by decide +kernel
theorem dX12_keepsAct_0 : decode cX12_keepsAct 0 = .ok (.aload_n 0, 1) := by decide +kernel
theorem dX12_keepsAct_1 : decode cX12_keepsAct 1 = .ok (.getfield 282, 3) := by decide +kernel
theorem dX12_keepsAct_4 : decode cX12_keepsAct 4 = .ok (.bipush 20, 2) := by decide +kernel
theorem dX12_keepsAct_6 : decode cX12_keepsAct 6 = .ok (.if_icmp .ne 44, 3) := by decide +kernel
theorem dX12_keepsAct_9 : decode cX12_keepsAct 9 = .ok (.bipush 99, 2) := by decide +kernel
theorem dX12_keepsAct_11 : decode cX12_keepsAct 11 = .ok (.istore_n 1, 1) := by decide +kernel
theorem dX12_keepsAct_12 : decode cX12_keepsAct 12 = .ok (.iload_n 1, 1) := by decide +kernel
theorem dX12_keepsAct_13 : decode cX12_keepsAct 13 = .ok (.sipush 1980, 3) := by decide +kernel
theorem dX12_keepsAct_16 : decode cX12_keepsAct 16 = .ok (.if_icmp .ge 24, 3) := by decide +kernel
theorem dX12_keepsAct_19 : decode cX12_keepsAct 19 = .ok (.aload_n 0, 1) := by decide +kernel
theorem dX12_keepsAct_20 : decode cX12_keepsAct 20 = .ok (.getfield 52, 3) := by decide +kernel
theorem dX12_keepsAct_23 : decode cX12_keepsAct 23 = .ok (.iload_n 1, 1) := by decide +kernel
theorem dX12_keepsAct_24 : decode cX12_keepsAct 24 = .ok (.bipush 99, 2) := by decide +kernel
theorem dX12_keepsAct_26 : decode cX12_keepsAct 26 = .ok (.isub, 1) := by decide +kernel
theorem dX12_keepsAct_27 : decode cX12_keepsAct 27 = .ok (.aload_n 0, 1) := by decide +kernel
theorem dX12_keepsAct_28 : decode cX12_keepsAct 28 = .ok (.getfield 52, 3) := by decide +kernel
theorem dX12_keepsAct_31 : decode cX12_keepsAct 31 = .ok (.iload_n 1, 1) := by decide +kernel
theorem dX12_keepsAct_32 : decode cX12_keepsAct 32 = .ok (.iaload, 1) := by decide +kernel
theorem dX12_keepsAct_33 : decode cX12_keepsAct 33 = .ok (.iastore, 1) := by decide +kernel
theorem dX12_keepsAct_34 : decode cX12_keepsAct 34 = .ok (.iinc 1 1, 3) := by decide +kernel
theorem dX12_keepsAct_37 : decode cX12_keepsAct 37 = .ok (.goto (-25), 3) := by decide +kernel
theorem dX12_keepsAct_40 : decode cX12_keepsAct 40 = .ok (.aload_n 0, 1) := by decide +kernel
theorem dX12_keepsAct_41 : decode cX12_keepsAct 41 = .ok (.dup, 1) := by decide +kernel
theorem dX12_keepsAct_42 : decode cX12_keepsAct 42 = .ok (.getfield 282, 3) := by decide +kernel
theorem dX12_keepsAct_45 : decode cX12_keepsAct 45 = .ok (.iconst 1, 1) := by decide +kernel
theorem dX12_keepsAct_46 : decode cX12_keepsAct 46 = .ok (.isub, 1) := by decide +kernel
theorem dX12_keepsAct_47 : decode cX12_keepsAct 47 = .ok (.putfield 282, 3) := by decide +kernel
theorem dX12_keepsAct_50 : decode cX12_keepsAct 50 = .ok (.iconst 0, 1) := by decide +kernel
theorem dX12_keepsAct_51 : decode cX12_keepsAct 51 = .ok (.istore_n 1, 1) := by decide +kernel
theorem dX12_keepsAct_52 : decode cX12_keepsAct 52 = .ok (.iload_n 1, 1) := by decide +kernel
theorem dX12_keepsAct_53 : decode cX12_keepsAct 53 = .ok (.bipush 99, 2) := by decide +kernel
theorem dX12_keepsAct_55 : decode cX12_keepsAct 55 = .ok (.if_icmp .ge 32, 3) := by decide +kernel
theorem dX12_keepsAct_58 : decode cX12_keepsAct 58 = .ok (.aload_n 0, 1) := by decide +kernel
theorem dX12_keepsAct_59 : decode cX12_keepsAct 59 = .ok (.getfield 52, 3) := by decide +kernel
theorem dX12_keepsAct_62 : decode cX12_keepsAct 62 = .ok (.bipush 99, 2) := by decide +kernel
theorem dX12_keepsAct_64 : decode cX12_keepsAct 64 = .ok (.aload_n 0, 1) := by decide +kernel
theorem dX12_keepsAct_65 : decode cX12_keepsAct 65 = .ok (.getfield 282, 3) := by decide +kernel
theorem dX12_keepsAct_68 : decode cX12_keepsAct 68 = .ok (.imul, 1) := by decide +kernel
theorem dX12_keepsAct_69 : decode cX12_keepsAct 69 = .ok (.iload_n 1, 1) := by decide +kernel
theorem dX12_keepsAct_70 : decode cX12_keepsAct 70 = .ok (.iadd, 1) := by decide +kernel
theorem dX12_keepsAct_71 : decode cX12_keepsAct 71 = .ok (.aload_n 0, 1) := by decide +kernel
theorem dX12_keepsAct_72 : decode cX12_keepsAct 72 = .ok (.getfield 39, 3) := by decide +kernel
theorem dX12_keepsAct_75 : decode cX12_keepsAct 75 = .ok (.bipush 10, 2) := by decide +kernel
theorem dX12_keepsAct_77 : decode cX12_keepsAct 77 = .ok (.iload_n 1, 1) := by decide +kernel
theorem dX12_keepsAct_78 : decode cX12_keepsAct 78 = .ok (.iadd, 1) := by decide +kernel
theorem dX12_keepsAct_79 : decode cX12_keepsAct 79 = .ok (.iaload, 1) := by decide +kernel
theorem dX12_keepsAct_80 : decode cX12_keepsAct 80 = .ok (.iastore, 1) := by decide +kernel
theorem dX12_keepsAct_81 : decode cX12_keepsAct 81 = .ok (.iinc 1 1, 3) := by decide +kernel
theorem dX12_keepsAct_84 : decode cX12_keepsAct 84 = .ok (.goto (-32), 3) := by decide +kernel
theorem dX12_keepsAct_87 : decode cX12_keepsAct 87 = .ok (.aload_n 0, 1) := by decide +kernel
theorem dX12_keepsAct_88 : decode cX12_keepsAct 88 = .ok (.dup, 1) := by decide +kernel
theorem dX12_keepsAct_89 : decode cX12_keepsAct 89 = .ok (.getfield 282, 3) := by decide +kernel
theorem dX12_keepsAct_92 : decode cX12_keepsAct 92 = .ok (.iconst 1, 1) := by decide +kernel
theorem dX12_keepsAct_93 : decode cX12_keepsAct 93 = .ok (.iadd, 1) := by decide +kernel
theorem dX12_keepsAct_94 : decode cX12_keepsAct 94 = .ok (.putfield 282, 3) := by decide +kernel
theorem dX12_keepsAct_97 : decode cX12_keepsAct 97 = .ok (.return_, 1) := by decide +kernel
theorem dX12_undo_0 : decode cX12_undo 0 = .ok (.aload_n 0, 1) := by decide +kernel
theorem dX12_undo_1 : decode cX12_undo 1 = .ok (.getfield 282, 3) := by decide +kernel
theorem dX12_undo_4 : decode cX12_undo 4 = .ok (.ifCond .ne 5, 3) := by decide +kernel
theorem dX12_undo_7 : decode cX12_undo 7 = .ok (.iconst (-1), 1) := by decide +kernel
theorem dX12_undo_8 : decode cX12_undo 8 = .ok (.ireturn, 1) := by decide +kernel
theorem dX12_undo_9 : decode cX12_undo 9 = .ok (.aload_n 0, 1) := by decide +kernel
theorem dX12_undo_10 : decode cX12_undo 10 = .ok (.dup, 1) := by decide +kernel
theorem dX12_undo_11 : decode cX12_undo 11 = .ok (.getfield 282, 3) := by decide +kernel
theorem dX12_undo_14 : decode cX12_undo 14 = .ok (.iconst 1, 1) := by decide +kernel
theorem dX12_undo_15 : decode cX12_undo 15 = .ok (.isub, 1) := by decide +kernel
theorem dX12_undo_16 : decode cX12_undo 16 = .ok (.putfield 282, 3) := by decide +kernel
theorem dX12_undo_19 : decode cX12_undo 19 = .ok (.iconst 0, 1) := by decide +kernel
theorem dX12_undo_20 : decode cX12_undo 20 = .ok (.istore_n 1, 1) := by decide +kernel
theorem dX12_undo_21 : decode cX12_undo 21 = .ok (.iload_n 1, 1) := by decide +kernel
theorem dX12_undo_22 : decode cX12_undo 22 = .ok (.bipush 99, 2) := by decide +kernel
theorem dX12_undo_24 : decode cX12_undo 24 = .ok (.if_icmp .ge 32, 3) := by decide +kernel
theorem dX12_undo_27 : decode cX12_undo 27 = .ok (.aload_n 0, 1) := by decide +kernel
theorem dX12_undo_28 : decode cX12_undo 28 = .ok (.getfield 39, 3) := by decide +kernel
theorem dX12_undo_31 : decode cX12_undo 31 = .ok (.bipush 10, 2) := by decide +kernel
theorem dX12_undo_33 : decode cX12_undo 33 = .ok (.iload_n 1, 1) := by decide +kernel
theorem dX12_undo_34 : decode cX12_undo 34 = .ok (.iadd, 1) := by decide +kernel
theorem dX12_undo_35 : decode cX12_undo 35 = .ok (.aload_n 0, 1) := by decide +kernel
theorem dX12_undo_36 : decode cX12_undo 36 = .ok (.getfield 52, 3) := by decide +kernel
theorem dX12_undo_39 : decode cX12_undo 39 = .ok (.bipush 99, 2) := by decide +kernel
theorem dX12_undo_41 : decode cX12_undo 41 = .ok (.aload_n 0, 1) := by decide +kernel
theorem dX12_undo_42 : decode cX12_undo 42 = .ok (.getfield 282, 3) := by decide +kernel
theorem dX12_undo_45 : decode cX12_undo 45 = .ok (.imul, 1) := by decide +kernel
theorem dX12_undo_46 : decode cX12_undo 46 = .ok (.iload_n 1, 1) := by decide +kernel
theorem dX12_undo_47 : decode cX12_undo 47 = .ok (.iadd, 1) := by decide +kernel
theorem dX12_undo_48 : decode cX12_undo 48 = .ok (.iaload, 1) := by decide +kernel
theorem dX12_undo_49 : decode cX12_undo 49 = .ok (.iastore, 1) := by decide +kernel
theorem dX12_undo_50 : decode cX12_undo 50 = .ok (.iinc 1 1, 3) := by decide +kernel
theorem dX12_undo_53 : decode cX12_undo 53 = .ok (.goto (-32), 3) := by decide +kernel
theorem dX12_undo_56 : decode cX12_undo 56 = .ok (.aload_n 0, 1) := by decide +kernel
theorem dX12_undo_57 : decode cX12_undo 57 = .ok (.getfield 282, 3) := by decide +kernel
theorem dX12_undo_60 : decode cX12_undo 60 = .ok (.ireturn, 1) := by decide +kernel
theorem dX12_step_0 : decode cX12_step 0 = .ok (.aload_n 0, 1) := by decide +kernel
theorem dX12_step_1 : decode cX12_step 1 = .ok (.invokevirtual 373, 3) := by decide +kernel
theorem dX12_step_4 : decode cX12_step 4 = .ok (.ifCond .eq 16, 3) := by decide +kernel
theorem dX12_step_7 : decode cX12_step 7 = .ok (.aload_n 0, 1) := by decide +kernel
theorem dX12_step_8 : decode cX12_step 8 = .ok (.getfield 39, 3) := by decide +kernel
theorem dX12_step_11 : decode cX12_step 11 = .ok (.bipush 10, 2) := by decide +kernel
theorem dX12_step_13 : decode cX12_step 13 = .ok (.iaload, 1) := by decide +kernel
theorem dX12_step_14 : decode cX12_step 14 = .ok (.sipush 999, 3) := by decide +kernel
theorem dX12_step_17 : decode cX12_step 17 = .ok (.if_icmp .ne 5, 3) := by decide +kernel
theorem dX12_step_20 : decode cX12_step 20 = .ok (.iconst (-1), 1) := by decide +kernel
theorem dX12_step_21 : decode cX12_step 21 = .ok (.ireturn, 1) := by decide +kernel
theorem dX12_step_22 : decode cX12_step 22 = .ok (.aload_n 0, 1) := by decide +kernel
theorem dX12_step_23 : decode cX12_step 23 = .ok (.invokevirtual 376, 3) := by decide +kernel
theorem dX12_step_26 : decode cX12_step 26 = .ok (.aload_n 0, 1) := by decide +kernel
theorem dX12_step_27 : decode cX12_step 27 = .ok (.invokevirtual 370, 3) := by decide +kernel
theorem dX12_step_30 : decode cX12_step 30 = .ok (.pop, 1) := by decide +kernel
theorem dX12_step_31 : decode cX12_step 31 = .ok (.aload_n 0, 1) := by decide +kernel
theorem dX12_step_32 : decode cX12_step 32 = .ok (.getfield 39, 3) := by decide +kernel
theorem dX12_step_35 : decode cX12_step 35 = .ok (.bipush 11, 2) := by decide +kernel
theorem dX12_step_37 : decode cX12_step 37 = .ok (.iaload, 1) := by decide +kernel
theorem dX12_step_38 : decode cX12_step 38 = .ok (.ireturn, 1) := by decide +kernel
theorem dX12_firstOfWay_0 : decode cX12_firstOfWay 0 = .ok (.aload_n 0, 1) := by decide +kernel
