theorem dX10_copyFrom_65 : decode cX10_copyFrom 65 = .ok (.getfield 9, 3) := by decide +kernel
theorem dX10_copyFrom_68 : decode cX10_copyFrom 68 = .ok (.iload_n 2, 1) := by decide +kernel
theorem dX10_copyFrom_69 : decode cX10_copyFrom 69 = .ok (.aload_n 1, 1) := by decide +kernel
theorem dX10_copyFrom_70 : decode cX10_copyFrom 70 = .ok (.getfield 9, 3) := by decide +kernel
theorem dX10_copyFrom_73 : decode cX10_copyFrom 73 = .ok (.iload_n 2, 1) := by decide +kernel
theorem dX10_copyFrom_74 : decode cX10_copyFrom 74 = .ok (.iaload, 1) := by decide +kernel
theorem dX10_copyFrom_75 : decode cX10_copyFrom 75 = .ok (.iastore, 1) := by decide +kernel
theorem dX10_copyFrom_76 : decode cX10_copyFrom 76 = .ok (.aload_n 0, 1) := by decide +kernel
theorem dX10_copyFrom_77 : decode cX10_copyFrom 77 = .ok (.getfield 15, 3) := by decide +kernel
theorem dX10_copyFrom_80 : decode cX10_copyFrom 80 = .ok (.iload_n 2, 1) := by decide +kernel
theorem dX10_copyFrom_81 : decode cX10_copyFrom 81 = .ok (.aload_n 1, 1) := by decide +kernel
theorem dX10_copyFrom_82 : decode cX10_copyFrom 82 = .ok (.getfield 15, 3) := by decide +kernel
theorem dX10_copyFrom_85 : decode cX10_copyFrom 85 = .ok (.iload_n 2, 1) := by decide +kernel
theorem dX10_copyFrom_86 : decode cX10_copyFrom 86 = .ok (.iaload, 1) := by decide +kernel
theorem dX10_copyFrom_87 : decode cX10_copyFrom 87 = .ok (.iastore, 1) := by decide +kernel
theorem dX10_copyFrom_88 : decode cX10_copyFrom 88 = .ok (.aload_n 0, 1) := by decide +kernel
theorem dX10_copyFrom_89 : decode cX10_copyFrom 89 = .ok (.getfield 18, 3) := by decide +kernel
theorem dX10_copyFrom_92 : decode cX10_copyFrom 92 = .ok (.iload_n 2, 1) := by decide +kernel
theorem dX10_copyFrom_93 : decode cX10_copyFrom 93 = .ok (.aload_n 1, 1) := by decide +kernel
theorem dX10_copyFrom_94 : decode cX10_copyFrom 94 = .ok (.getfield 18, 3) := by decide +kernel
theorem dX10_copyFrom_97 : decode cX10_copyFrom 97 = .ok (.iload_n 2, 1) := by decide +kernel
theorem dX10_copyFrom_98 : decode cX10_copyFrom 98 = .ok (.iaload, 1) := by decide +kernel
theorem dX10_copyFrom_99 : decode cX10_copyFrom 99 = .ok (.iastore, 1) := by decide +kernel
theorem dX10_copyFrom_100 : decode cX10_copyFrom 100 = .ok (.aload_n 0, 1) := by decide +kernel
theorem dX10_copyFrom_101 : decode cX10_copyFrom 101 = .ok (.getfield 21, 3) := by decide +kernel
theorem dX10_copyFrom_104 : decode cX10_copyFrom 104 = .ok (.iload_n 2, 1) := by decide +kernel
theorem dX10_copyFrom_105 : decode cX10_copyFrom 105 = .ok (.aload_n 1, 1) := by decide +kernel
theorem dX10_copyFrom_106 : decode cX10_copyFrom 106 = .ok (.getfield 21, 3) := by decide +kernel
theorem dX10_copyFrom_109 : decode cX10_copyFrom 109 = .ok (.iload_n 2, 1) := by decide +kernel
theorem dX10_copyFrom_110 : decode cX10_copyFrom 110 = .ok (.iaload, 1) := by decide +kernel
theorem dX10_copyFrom_111 : decode cX10_copyFrom 111 = .ok (.iastore, 1) := by decide +kernel
theorem dX10_copyFrom_112 : decode cX10_copyFrom 112 = .ok (.iinc 2 1, 3) := by decide +kernel
theorem dX10_copyFrom_115 : decode cX10_copyFrom 115 = .ok (.goto (-57), 3) := by decide +kernel
theorem dX10_copyFrom_118 : decode cX10_copyFrom 118 = .ok (.aload_n 1, 1) := by decide +kernel
theorem dX10_copyFrom_119 : decode cX10_copyFrom 119 = .ok (.getfield 24, 3) := by decide +kernel
theorem dX10_copyFrom_122 : decode cX10_copyFrom 122 = .ok (.iconst 0, 1) := by decide +kernel
theorem dX10_copyFrom_123 : decode cX10_copyFrom 123 = .ok (.aload_n 0, 1) := by decide +kernel
theorem dX10_copyFrom_124 : decode cX10_copyFrom 124 = .ok (.getfield 24, 3) := by decide +kernel
theorem dX10_copyFrom_127 : decode cX10_copyFrom 127 = .ok (.iconst 0, 1) := by decide +kernel
theorem dX10_copyFrom_128 : decode cX10_copyFrom 128 = .ok (.bipush 36, 2) := by decide +kernel
theorem dX10_copyFrom_130 : decode cX10_copyFrom 130 = .ok (.invokestatic 50, 3) := by decide +kernel
theorem dX10_copyFrom_133 : decode cX10_copyFrom 133 = .ok (.return_, 1) := by decide +kernel
theorem dX10_addTent_0 : decode cX10_addTent 0 = .ok (.aload_n 0, 1) := by decide +kernel
theorem dX10_addTent_1 : decode cX10_addTent 1 = .ok (.getfield 43, 3) := by decide +kernel
theorem dX10_addTent_4 : decode cX10_addTent 4 = .ok (.bipush 6, 2) := by decide +kernel
theorem dX10_addTent_6 : decode cX10_addTent 6 = .ok (.if_icmp .ge 58, 3) := by decide +kernel
theorem dX10_addTent_9 : decode cX10_addTent 9 = .ok (.aload_n 0, 1) := by decide +kernel
theorem dX10_addTent_10 : decode cX10_addTent 10 = .ok (.getfield 9, 3) := by decide +kernel
theorem dX10_addTent_13 : decode cX10_addTent 13 = .ok (.aload_n 0, 1) := by decide +kernel
theorem dX10_addTent_14 : decode cX10_addTent 14 = .ok (.getfield 43, 3) := by decide +kernel
theorem dX10_addTent_17 : decode cX10_addTent 17 = .ok (.iload_n 1, 1) := by decide +kernel
theorem dX10_addTent_18 : decode cX10_addTent 18 = .ok (.iastore, 1) := by decide +kernel
theorem dX10_addTent_19 : decode cX10_addTent 19 = .ok (.aload_n 0, 1) := by decide +kernel
theorem dX10_addTent_20 : decode cX10_addTent 20 = .ok (.getfield 15, 3) := by decide +kernel
theorem dX10_addTent_23 : decode cX10_addTent 23 = .ok (.aload_n 0, 1) := by decide +kernel
theorem dX10_addTent_24 : decode cX10_addTent 24 = .ok (.getfield 43, 3) := by decide +kernel
theorem dX10_addTent_27 : decode cX10_addTent 27 = .ok (.iload_n 2, 1) := by decide +kernel
theorem dX10_addTent_28 : decode cX10_addTent 28 = .ok (.iastore, 1) := by decide +kernel
theorem dX10_addTent_29 : decode cX10_addTent 29 = .ok (.aload_n 0, 1) := by decide +kernel
theorem dX10_addTent_30 : decode cX10_addTent 30 = .ok (.getfield 18, 3) := by decide +kernel
theorem dX10_addTent_33 : decode cX10_addTent 33 = .ok (.aload_n 0, 1) := by decide +kernel
theorem dX10_addTent_34 : decode cX10_addTent 34 = .ok (.getfield 43, 3) := by decide +kernel
theorem dX10_addTent_37 : decode cX10_addTent 37 = .ok (.iconst 0, 1) := by decide +kernel
theorem dX10_addTent_38 : decode cX10_addTent 38 = .ok (.iastore, 1) := by decide +kernel
theorem dX10_addTent_39 : decode cX10_addTent 39 = .ok (.aload_n 0, 1) := by decide +kernel
theorem dX10_addTent_40 : decode cX10_addTent 40 = .ok (.getfield 21, 3) := by decide +kernel
theorem dX10_addTent_43 : decode cX10_addTent 43 = .ok (.aload_n 0, 1) := by decide +kernel
theorem dX10_addTent_44 : decode cX10_addTent 44 = .ok (.getfield 43, 3) := by decide +kernel
theorem dX10_addTent_47 : decode cX10_addTent 47 = .ok (.iconst 1, 1) := by decide +kernel
theorem dX10_addTent_48 : decode cX10_addTent 48 = .ok (.aload_n 0, 1) := by decide +kernel
theorem dX10_addTent_49 : decode cX10_addTent 49 = .ok (.getfield 43, 3) := by decide +kernel
theorem dX10_addTent_52 : decode cX10_addTent 52 = .ok (.ishl, 1) := by decide +kernel
theorem dX10_addTent_53 : decode cX10_addTent 53 = .ok (.iastore, 1) := by decide +kernel
theorem dX10_addTent_54 : decode cX10_addTent 54 = .ok (.aload_n 0, 1) := by decide +kernel
theorem dX10_addTent_55 : decode cX10_addTent 55 = .ok (.dup, 1) := by decide +kernel
theorem dX10_addTent_56 : decode cX10_addTent 56 = .ok (.getfield 43, 3) := by decide +kernel
theorem dX10_addTent_59 : decode cX10_addTent 59 = .ok (.iconst 1, 1) := by decide +kernel
theorem dX10_addTent_60 : decode cX10_addTent 60 = .ok (.iadd, 1) := by decide +kernel
theorem dX10_addTent_61 : decode cX10_addTent 61 = .ok (.putfield 43, 3) := by decide +kernel
theorem dX10_addTent_64 : decode cX10_addTent 64 = .ok (.return_, 1) := by decide +kernel
theorem dX10_isPitched_0 : decode cX10_isPitched 0 = .ok (.aload_n 0, 1) := by decide +kernel
theorem dX10_isPitched_1 : decode cX10_isPitched 1 = .ok (.getfield 27, 3) := by decide +kernel
theorem dX10_isPitched_4 : decode cX10_isPitched 4 = .ok (.ifCond .le 7, 3) := by decide +kernel
theorem dX10_isPitched_7 : decode cX10_isPitched 7 = .ok (.iconst 1, 1) := by decide +kernel
theorem dX10_isPitched_8 : decode cX10_isPitched 8 = .ok (.goto 4, 3) := by decide +kernel
theorem dX10_isPitched_11 : decode cX10_isPitched 11 = .ok (.iconst 0, 1) := by decide +kernel
theorem dX10_isPitched_12 : decode cX10_isPitched 12 = .ok (.ireturn, 1) := by decide +kernel
theorem dX10_hasTent_0 : decode cX10_hasTent 0 = .ok (.iload_n 1, 1) := by decide +kernel
theorem dX10_hasTent_1 : decode cX10_hasTent 1 = .ok (.ifCond .lt 15, 3) := by decide +kernel
theorem dX10_hasTent_4 : decode cX10_hasTent 4 = .ok (.iload_n 1, 1) := by decide +kernel
theorem dX10_hasTent_5 : decode cX10_hasTent 5 = .ok (.aload_n 0, 1) := by decide +kernel
theorem dX10_hasTent_6 : decode cX10_hasTent 6 = .ok (.getfield 43, 3) := by decide +kernel
theorem dX10_hasTent_9 : decode cX10_hasTent 9 = .ok (.if_icmp .ge 7, 3) := by decide +kernel
theorem dX10_hasTent_12 : decode cX10_hasTent 12 = .ok (.iconst 1, 1) := by decide +kernel
theorem dX10_hasTent_13 : decode cX10_hasTent 13 = .ok (.goto 4, 3) := by decide +kernel
theorem dX10_hasTent_16 : decode cX10_hasTent 16 = .ok (.iconst 0, 1) := by decide +kernel
theorem dX10_hasTent_17 : decode cX10_hasTent 17 = .ok (.ireturn, 1) := by decide +kernel
theorem dX10_hasCell_0 : decode cX10_hasCell 0 = .ok (.iload_n 1, 1) := by decide +kernel
theorem dX10_hasCell_1 : decode cX10_hasCell 1 = .ok (.ifCond .lt 15, 3) := by decide +kernel
theorem dX10_hasCell_4 : decode cX10_hasCell 4 = .ok (.iload_n 1, 1) := by decide +kernel
theorem dX10_hasCell_5 : decode cX10_hasCell 5 = .ok (.aload_n 0, 1) := by decide +kernel
theorem dX10_hasCell_6 : decode cX10_hasCell 6 = .ok (.getfield 31, 3) := by decide +kernel
theorem dX10_hasCell_9 : decode cX10_hasCell 9 = .ok (.if_icmp .ge 7, 3) := by decide +kernel
theorem dX10_hasCell_12 : decode cX10_hasCell 12 = .ok (.iconst 1, 1) := by decide +kernel
theorem dX10_hasCell_13 : decode cX10_hasCell 13 = .ok (.goto 4, 3) := by decide +kernel
theorem dX10_hasCell_16 : decode cX10_hasCell 16 = .ok (.iconst 0, 1) := by decide +kernel
theorem dX10_hasCell_17 : decode cX10_hasCell 17 = .ok (.ireturn, 1) := by decide +kernel
theorem dX10_isFree_0 : decode cX10_isFree 0 = .ok (.aload_n 0, 1) := by decide +kernel
theorem dX10_isFree_1 : decode cX10_isFree 1 = .ok (.getfield 46, 3) := by decide +kernel
theorem dX10_isFree_4 : decode cX10_isFree 4 = .ok (.iload_n 1, 1) := by decide +kernel
theorem dX10_isFree_5 : decode cX10_isFree 5 = .ok (.lushr, 1) := by decide +kernel
theorem dX10_isFree_6 : decode cX10_isFree 6 = .ok (.lconst 1, 1) := by decide +kernel
theorem dX10_isFree_7 : decode cX10_isFree 7 = .ok (.land, 1) := by decide +kernel
theorem dX10_isFree_8 : decode cX10_isFree 8 = .ok (.lconst 0, 1) := by decide +kernel
theorem dX10_isFree_9 : decode cX10_isFree 9 = .ok (.lcmp, 1) := by decide +kernel
theorem dX10_isFree_10 : decode cX10_isFree 10 = .ok (.ifCond .ne 7, 3) := by decide +kernel
theorem dX10_isFree_13 : decode cX10_isFree 13 = .ok (.iconst 1, 1) := by decide +kernel
theorem dX10_isFree_14 : decode cX10_isFree 14 = .ok (.goto 4, 3) := by decide +kernel
theorem dX10_isFree_17 : decode cX10_isFree 17 = .ok (.iconst 0, 1) := by decide +kernel
theorem dX10_isFree_18 : decode cX10_isFree 18 = .ok (.ireturn, 1) := by decide +kernel
theorem dX10_rowOf_0 : decode cX10_rowOf 0 = .ok (.aload_n 0, 1) := by decide +kernel
theorem dX10_rowOf_1 : decode cX10_rowOf 1 = .ok (.getfield 27, 3) := by decide +kernel
theorem dX10_rowOf_4 : decode cX10_rowOf 4 = .ok (.ifCond .le 12, 3) := by decide +kernel
theorem dX10_rowOf_7 : decode cX10_rowOf 7 = .ok (.iload_n 1, 1) := by decide +kernel
theorem dX10_rowOf_8 : decode cX10_rowOf 8 = .ok (.aload_n 0, 1) := by decide +kernel
theorem dX10_rowOf_9 : decode cX10_rowOf 9 = .ok (.getfield 27, 3) := by decide +kernel
theorem dX10_rowOf_12 : decode cX10_rowOf 12 = .ok (.idiv, 1) := by decide +kernel
theorem dX10_rowOf_13 : decode cX10_rowOf 13 = .ok (.goto 4, 3) := by decide +kernel
theorem dX10_rowOf_16 : decode cX10_rowOf 16 = .ok (.iconst 0, 1) := by decide +kernel
theorem dX10_rowOf_17 : decode cX10_rowOf 17 = .ok (.ireturn, 1) := by decide +kernel
theorem dX10_columnOf_0 : decode cX10_columnOf 0 = .ok (.aload_n 0, 1) := by decide +kernel
theorem dX10_columnOf_1 : decode cX10_columnOf 1 = .ok (.getfield 27, 3) := by decide +kernel
theorem dX10_columnOf_4 : decode cX10_columnOf 4 = .ok (.ifCond .le 12, 3) := by decide +kernel
theorem dX10_columnOf_7 : decode cX10_columnOf 7 = .ok (.iload_n 1, 1) := by decide +kernel
theorem dX10_columnOf_8 : decode cX10_columnOf 8 = .ok (.aload_n 0, 1) := by decide +kernel
theorem dX10_columnOf_9 : decode cX10_columnOf 9 = .ok (.getfield 27, 3) := by decide +kernel
theorem dX10_columnOf_12 : decode cX10_columnOf 12 = .ok (.irem, 1) := by decide +kernel
theorem dX10_columnOf_13 : decode cX10_columnOf 13 = .ok (.goto 4, 3) := by decide +kernel
theorem dX10_columnOf_16 : decode cX10_columnOf 16 = .ok (.iconst 0, 1) := by decide +kernel
theorem dX10_columnOf_17 : decode cX10_columnOf 17 = .ok (.ireturn, 1) := by decide +kernel
theorem dX10_beside_0 : decode cX10_beside 0 = .ok (.aload_n 0, 1) := by decide +kernel
theorem dX10_beside_1 : decode cX10_beside 1 = .ok (.getfield 27, 3) := by decide +kernel
theorem dX10_beside_4 : decode cX10_beside 4 = .ok (.ifCond .le 12, 3) := by decide +kernel
theorem dX10_beside_7 : decode cX10_beside 7 = .ok (.iload_n 1, 1) := by decide +kernel
theorem dX10_beside_8 : decode cX10_beside 8 = .ok (.aload_n 0, 1) := by decide +kernel
theorem dX10_beside_9 : decode cX10_beside 9 = .ok (.getfield 27, 3) := by decide +kernel
theorem dX10_beside_12 : decode cX10_beside 12 = .ok (.irem, 1) := by decide +kernel
theorem dX10_beside_13 : decode cX10_beside 13 = .ok (.goto 4, 3) := by decide +kernel
theorem dX10_beside_16 : decode cX10_beside 16 = .ok (.iconst 0, 1) := by decide +kernel
theorem dX10_beside_17 : decode cX10_beside 17 = .ok (.istore_n 3, 1) := by decide +kernel
theorem dX10_beside_18 : decode cX10_beside 18 = .ok (.iload_n 2, 1) := by decide +kernel
theorem dX10_beside_19 : decode cX10_beside 19 = .ok (.tableswitch 102 0 3 #[29, 41, 59, 78], 29) := by decide +kernel
theorem dX10_beside_48 : decode cX10_beside 48 = .ok (.iload_n 3, 1) := by decide +kernel
theorem dX10_beside_49 : decode cX10_beside 49 = .ok (.ifCond .le 9, 3) := by decide +kernel
theorem dX10_beside_52 : decode cX10_beside 52 = .ok (.iload_n 1, 1) := by decide +kernel
theorem dX10_beside_53 : decode cX10_beside 53 = .ok (.iconst 1, 1) := by decide +kernel
theorem dX10_beside_54 : decode cX10_beside 54 = .ok (.isub, 1) := by decide +kernel
theorem dX10_beside_55 : decode cX10_beside 55 = .ok (.goto 4, 3) := by decide +kernel
theorem dX10_beside_58 : decode cX10_beside 58 = .ok (.iconst (-1), 1) := by decide +kernel
theorem dX10_beside_59 : decode cX10_beside 59 = .ok (.ireturn, 1) := by decide +kernel
theorem dX10_beside_60 : decode cX10_beside 60 = .ok (.iload_n 3, 1) := by decide +kernel
theorem dX10_beside_61 : decode cX10_beside 61 = .ok (.aload_n 0, 1) := by decide +kernel
theorem dX10_beside_62 : decode cX10_beside 62 = .ok (.getfield 27, 3) := by decide +kernel
theorem dX10_beside_65 : decode cX10_beside 65 = .ok (.iconst 1, 1) := by decide +kernel
theorem dX10_beside_66 : decode cX10_beside 66 = .ok (.isub, 1) := by decide +kernel
theorem dX10_beside_67 : decode cX10_beside 67 = .ok (.if_icmp .ge 9, 3) := by decide +kernel
theorem dX10_beside_70 : decode cX10_beside 70 = .ok (.iload_n 1, 1) := by decide +kernel
theorem dX10_beside_71 : decode cX10_beside 71 = .ok (.iconst 1, 1) := by decide +kernel
theorem dX10_beside_72 : decode cX10_beside 72 = .ok (.iadd, 1) := by decide +kernel
theorem dX10_beside_73 : decode cX10_beside 73 = .ok (.goto 4, 3) := by decide +kernel
theorem dX10_beside_76 : decode cX10_beside 76 = .ok (.iconst (-1), 1) := by decide +kernel
theorem dX10_beside_77 : decode cX10_beside 77 = .ok (.ireturn, 1) := by decide +kernel
theorem dX10_beside_78 : decode cX10_beside 78 = .ok (.iload_n 1, 1) := by decide +kernel
theorem dX10_beside_79 : decode cX10_beside 79 = .ok (.aload_n 0, 1) := by decide +kernel
theorem dX10_beside_80 : decode cX10_beside 80 = .ok (.getfield 27, 3) := by decide +kernel
theorem dX10_beside_83 : decode cX10_beside 83 = .ok (.if_icmp .lt 12, 3) := by decide +kernel
theorem dX10_beside_86 : decode cX10_beside 86 = .ok (.iload_n 1, 1) := by decide +kernel
theorem dX10_beside_87 : decode cX10_beside 87 = .ok (.aload_n 0, 1) := by decide +kernel
theorem dX10_beside_88 : decode cX10_beside 88 = .ok (.getfield 27, 3) := by decide +kernel
theorem dX10_beside_91 : decode cX10_beside 91 = .ok (.isub, 1) := by decide +kernel
theorem dX10_beside_92 : decode cX10_beside 92 = .ok (.goto 4, 3) := by decide +kernel
theorem dX10_beside_95 : decode cX10_beside 95 = .ok (.iconst (-1), 1) := by decide +kernel
theorem dX10_beside_96 : decode cX10_beside 96 = .ok (.ireturn, 1) := by decide +kernel
theorem dX10_beside_97 : decode cX10_beside 97 = .ok (.iload_n 1, 1) := by decide +kernel
theorem dX10_beside_98 : decode cX10_beside 98 = .ok (.aload_n 0, 1) := by decide +kernel
theorem dX10_beside_99 : decode cX10_beside 99 = .ok (.getfield 27, 3) := by decide +kernel
theorem dX10_beside_102 : decode cX10_beside 102 = .ok (.iadd, 1) := by decide +kernel
theorem dX10_beside_103 : decode cX10_beside 103 = .ok (.aload_n 0, 1) := by decide +kernel
theorem dX10_beside_104 : decode cX10_beside 104 = .ok (.getfield 31, 3) := by decide +kernel
theorem dX10_beside_107 : decode cX10_beside 107 = .ok (.if_icmp .ge 12, 3) := by decide +kernel
theorem dX10_beside_110 : decode cX10_beside 110 = .ok (.iload_n 1, 1) := by decide +kernel
theorem dX10_beside_111 : decode cX10_beside 111 = .ok (.aload_n 0, 1) := by decide +kernel
theorem dX10_beside_112 : decode cX10_beside 112 = .ok (.getfield 27, 3) := by decide +kernel
theorem dX10_beside_115 : decode cX10_beside 115 = .ok (.iadd, 1) := by decide +kernel
theorem dX10_beside_116 : decode cX10_beside 116 = .ok (.goto 4, 3) := by decide +kernel
theorem dX10_beside_119 : decode cX10_beside 119 = .ok (.iconst (-1), 1) := by decide +kernel
theorem dX10_beside_120 : decode cX10_beside 120 = .ok (.ireturn, 1) := by decide +kernel
theorem dX10_beside_121 : decode cX10_beside 121 = .ok (.iload_n 1, 1) := by decide +kernel
theorem dX10_beside_122 : decode cX10_beside 122 = .ok (.ireturn, 1) := by decide +kernel
theorem dX10_passable_0 : decode cX10_passable 0 = .ok (.aload_n 0, 1) := by decide +kernel
theorem dX10_passable_1 : decode cX10_passable 1 = .ok (.iload_n 1, 1) := by decide +kernel
theorem dX10_passable_2 : decode cX10_passable 2 = .ok (.iload_n 2, 1) := by decide +kernel
theorem dX10_passable_3 : decode cX10_passable 3 = .ok (.invokevirtual 56, 3) := by decide +kernel
theorem dX10_passable_6 : decode cX10_passable 6 = .ok (.istore_n 3, 1) := by decide +kernel
theorem dX10_passable_7 : decode cX10_passable 7 = .ok (.iload_n 3, 1) := by decide +kernel
theorem dX10_passable_8 : decode cX10_passable 8 = .ok (.iconst (-1), 1) := by decide +kernel
theorem dX10_passable_9 : decode cX10_passable 9 = .ok (.if_icmp .eq 16, 3) := by decide +kernel
theorem dX10_passable_12 : decode cX10_passable 12 = .ok (.aload_n 0, 1) := by decide +kernel
theorem dX10_passable_13 : decode cX10_passable 13 = .ok (.iload_n 3, 1) := by decide +kernel
theorem dX10_passable_14 : decode cX10_passable 14 = .ok (.invokevirtual 60, 3) := by decide +kernel
theorem dX10_passable_17 : decode cX10_passable 17 = .ok (.ifCond .ne 8, 3) := by decide +kernel
theorem dX10_passable_20 : decode cX10_passable 20 = .ok (.iload_n 2, 1) := by decide +kernel
theorem dX10_passable_21 : decode cX10_passable 21 = .ok (.iconst 4, 1) := by decide +kernel
theorem dX10_passable_22 : decode cX10_passable 22 = .ok (.if_icmp .ne 7, 3) := by decide +kernel
theorem dX10_passable_25 : decode cX10_passable 25 = .ok (.iload_n 3, 1) := by decide +kernel
theorem dX10_passable_26 : decode cX10_passable 26 = .ok (.goto 4, 3) := by decide +kernel
theorem dX10_passable_29 : decode cX10_passable 29 = .ok (.iconst (-1), 1) := by decide +kernel
theorem dX10_passable_30 : decode cX10_passable 30 = .ok (.ireturn, 1) := by decide +kernel
theorem dX10_spread_0 : decode cX10_spread 0 = .ok (.aload_n 0, 1) := by decide +kernel
theorem dX10_spread_1 : decode cX10_spread 1 = .ok (.getfield 27, 3) := by decide +kernel
theorem dX10_spread_4 : decode cX10_spread 4 = .ok (.ifCond .lt 14, 3) := by decide +kernel
theorem dX10_spread_7 : decode cX10_spread 7 = .ok (.aload_n 0, 1) := by decide +kernel
theorem dX10_spread_8 : decode cX10_spread 8 = .ok (.getfield 27, 3) := by decide +kernel
theorem dX10_spread_11 : decode cX10_spread 11 = .ok (.getstatic 64, 3) := by decide +kernel
theorem dX10_spread_14 : decode cX10_spread 14 = .ok (.arraylength, 1) := by decide +kernel
theorem dX10_spread_15 : decode cX10_spread 15 = .ok (.if_icmp .lt 5, 3) := by decide +kernel
theorem dX10_spread_18 : decode cX10_spread 18 = .ok (.lconst 0, 1) := by decide +kernel
theorem dX10_spread_19 : decode cX10_spread 19 = .ok (.lreturn, 1) := by decide +kernel
theorem dX10_spread_20 : decode cX10_spread 20 = .ok (.getstatic 64, 3) := by decide +kernel
theorem dX10_spread_23 : decode cX10_spread 23 = .ok (.aload_n 0, 1) := by decide +kernel
theorem dX10_spread_24 : decode cX10_spread 24 = .ok (.getfield 27, 3) := by decide +kernel
theorem dX10_spread_27 : decode cX10_spread 27 = .ok (.laload, 1) := by decide +kernel
theorem dX10_spread_28 : decode cX10_spread 28 = .ok (.lstore_n 3, 1) := by decide +kernel
theorem dX10_spread_29 : decode cX10_spread 29 = .ok (.lload_n 3, 1) := by decide +kernel
theorem dX10_spread_30 : decode cX10_spread 30 = .ok (.aload_n 0, 1) := by decide +kernel
theorem dX10_spread_31 : decode cX10_spread 31 = .ok (.getfield 27, 3) := by decide +kernel
theorem dX10_spread_34 : decode cX10_spread 34 = .ok (.iconst 1, 1) := by decide +kernel
theorem dX10_spread_35 : decode cX10_spread 35 = .ok (.isub, 1) := by decide +kernel
theorem dX10_spread_36 : decode cX10_spread 36 = .ok (.lshl, 1) := by decide +kernel
theorem dX10_spread_37 : decode cX10_spread 37 = .ok (.lstore 5, 2) := by decide +kernel
theorem dX10_spread_39 : decode cX10_spread 39 = .ok (.lload_n 1, 1) := by decide +kernel
theorem dX10_spread_40 : decode cX10_spread 40 = .ok (.lload_n 3, 1) := by decide +kernel
theorem dX10_spread_41 : decode cX10_spread 41 = .ok (.ldc2_w 68, 3) := by decide +kernel
theorem dX10_spread_44 : decode cX10_spread 44 = .ok (.lxor, 1) := by decide +kernel
theorem dX10_spread_45 : decode cX10_spread 45 = .ok (.land, 1) := by decide +kernel
theorem dX10_spread_46 : decode cX10_spread 46 = .ok (.iconst 1, 1) := by decide +kernel
theorem dX10_spread_47 : decode cX10_spread 47 = .ok (.lushr, 1) := by decide +kernel
theorem dX10_spread_48 : decode cX10_spread 48 = .ok (.lload_n 1, 1) := by decide +kernel
theorem dX10_spread_49 : decode cX10_spread 49 = .ok (.lload 5, 2) := by decide +kernel
theorem dX10_spread_51 : decode cX10_spread 51 = .ok (.ldc2_w 68, 3) := by decide +kernel
theorem dX10_spread_54 : decode cX10_spread 54 = .ok (.lxor, 1) := by decide +kernel
theorem dX10_spread_55 : decode cX10_spread 55 = .ok (.land, 1) := by decide +kernel
theorem dX10_spread_56 : decode cX10_spread 56 = .ok (.iconst 1, 1) := by decide +kernel
theorem dX10_spread_57 : decode cX10_spread 57 = .ok (.lshl, 1) := by decide +kernel
theorem dX10_spread_58 : decode cX10_spread 58 = .ok (.lor, 1) := by decide +kernel
theorem dX10_spread_59 : decode cX10_spread 59 = .ok (.lstore 7, 2) := by decide +kernel
theorem dX10_spread_61 : decode cX10_spread 61 = .ok (.lload 7, 2) := by decide +kernel
theorem dX10_spread_63 : decode cX10_spread 63 = .ok (.lload_n 1, 1) := by decide +kernel
theorem dX10_spread_64 : decode cX10_spread 64 = .ok (.aload_n 0, 1) := by decide +kernel
theorem dX10_spread_65 : decode cX10_spread 65 = .ok (.getfield 27, 3) := by decide +kernel
theorem dX10_spread_68 : decode cX10_spread 68 = .ok (.lushr, 1) := by decide +kernel
theorem dX10_spread_69 : decode cX10_spread 69 = .ok (.lor, 1) := by decide +kernel
theorem dX10_spread_70 : decode cX10_spread 70 = .ok (.lload_n 1, 1) := by decide +kernel
theorem dX10_spread_71 : decode cX10_spread 71 = .ok (.aload_n 0, 1) := by decide +kernel
theorem dX10_spread_72 : decode cX10_spread 72 = .ok (.getfield 27, 3) := by decide +kernel
theorem dX10_spread_75 : decode cX10_spread 75 = .ok (.lshl, 1) := by decide +kernel
theorem dX10_spread_76 : decode cX10_spread 76 = .ok (.lor, 1) := by decide +kernel
theorem dX10_spread_77 : decode cX10_spread 77 = .ok (.getstatic 70, 3) := by decide +kernel
theorem dX10_spread_80 : decode cX10_spread 80 = .ok (.aload_n 0, 1) := by decide +kernel
theorem dX10_spread_81 : decode cX10_spread 81 = .ok (.getfield 27, 3) := by decide +kernel
theorem dX10_spread_84 : decode cX10_spread 84 = .ok (.laload, 1) := by decide +kernel
theorem dX10_spread_85 : decode cX10_spread 85 = .ok (.land, 1) := by decide +kernel
theorem dX10_spread_86 : decode cX10_spread 86 = .ok (.lreturn, 1) := by decide +kernel
theorem dX10_distance_0 : decode cX10_distance 0 = .ok (.lconst 1, 1) := by decide +kernel
theorem dX10_distance_1 : decode cX10_distance 1 = .ok (.iload_n 1, 1) := by decide +kernel
theorem dX10_distance_2 : decode cX10_distance 2 = .ok (.lshl, 1) := by decide +kernel
theorem dX10_distance_3 : decode cX10_distance 3 = .ok (.lstore 4, 2) := by decide +kernel
theorem dX10_distance_5 : decode cX10_distance 5 = .ok (.iconst 0, 1) := by decide +kernel
theorem dX10_distance_6 : decode cX10_distance 6 = .ok (.istore 6, 2) := by decide +kernel
theorem dX10_distance_8 : decode cX10_distance 8 = .ok (.iload 6, 2) := by decide +kernel
theorem dX10_distance_10 : decode cX10_distance 10 = .ok (.bipush 36, 2) := by decide +kernel
theorem dX10_distance_12 : decode cX10_distance 12 = .ok (.if_icmp .gt 55, 3) := by decide +kernel
theorem dX10_distance_15 : decode cX10_distance 15 = .ok (.lload 4, 2) := by decide +kernel
theorem dX10_distance_17 : decode cX10_distance 17 = .ok (.lload_n 2, 1) := by decide +kernel
theorem dX10_distance_18 : decode cX10_distance 18 = .ok (.land, 1) := by decide +kernel
theorem dX10_distance_19 : decode cX10_distance 19 = .ok (.lconst 0, 1) := by decide +kernel
theorem dX10_distance_20 : decode cX10_distance 20 = .ok (.lcmp, 1) := by decide +kernel
theorem dX10_distance_21 : decode cX10_distance 21 = .ok (.ifCond .eq 6, 3) := by decide +kernel
theorem dX10_distance_24 : decode cX10_distance 24 = .ok (.iload 6, 2) := by decide +kernel
theorem dX10_distance_26 : decode cX10_distance 26 = .ok (.ireturn, 1) := by decide +kernel
theorem dX10_distance_27 : decode cX10_distance 27 = .ok (.lload 4, 2) := by decide +kernel
theorem dX10_distance_29 : decode cX10_distance 29 = .ok (.aload_n 0, 1) := by decide +kernel
theorem dX10_distance_30 : decode cX10_distance 30 = .ok (.lload 4, 2) := by decide +kernel
theorem dX10_distance_32 : decode cX10_distance 32 = .ok (.invokevirtual 73, 3) := by decide +kernel
theorem dX10_distance_35 : decode cX10_distance 35 = .ok (.aload_n 0, 1) := by decide +kernel
theorem dX10_distance_36 : decode cX10_distance 36 = .ok (.getfield 46, 3) := by decide +kernel
theorem dX10_distance_39 : decode cX10_distance 39 = .ok (.ldc2_w 68, 3) := by decide +kernel
theorem dX10_distance_42 : decode cX10_distance 42 = .ok (.lxor, 1) := by decide +kernel
theorem dX10_distance_43 : decode cX10_distance 43 = .ok (.land, 1) := by decide +kernel
theorem dX10_distance_44 : decode cX10_distance 44 = .ok (.lor, 1) := by decide +kernel
theorem dX10_distance_45 : decode cX10_distance 45 = .ok (.lstore 7, 2) := by decide +kernel
theorem dX10_distance_47 : decode cX10_distance 47 = .ok (.lload 7, 2) := by decide +kernel
theorem dX10_distance_49 : decode cX10_distance 49 = .ok (.lload 4, 2) := by decide +kernel
theorem dX10_distance_51 : decode cX10_distance 51 = .ok (.lcmp, 1) := by decide +kernel
theorem dX10_distance_52 : decode cX10_distance 52 = .ok (.ifCond .ne 5, 3) := by decide +kernel
theorem dX10_distance_55 : decode cX10_distance 55 = .ok (.iconst (-1), 1) := by decide +kernel
theorem dX10_distance_56 : decode cX10_distance 56 = .ok (.ireturn, 1) := by decide +kernel
theorem dX10_distance_57 : decode cX10_distance 57 = .ok (.lload 7, 2) := by decide +kernel
theorem dX10_distance_59 : decode cX10_distance 59 = .ok (.lstore 4, 2) := by decide +kernel
theorem dX10_distance_61 : decode cX10_distance 61 = .ok (.iinc 6 1, 3) := by decide +kernel
theorem dX10_distance_64 : decode cX10_distance 64 = .ok (.goto (-56), 3) := by decide +kernel
theorem dX10_distance_67 : decode cX10_distance 67 = .ok (.iconst (-1), 1) := by decide +kernel
theorem dX10_distance_68 : decode cX10_distance 68 = .ok (.ireturn, 1) := by decide +kernel
theorem dX10_reachedIn_0 : decode cX10_reachedIn 0 = .ok (.lconst 1, 1) := by decide +kernel
theorem dX10_reachedIn_1 : decode cX10_reachedIn 1 = .ok (.aload_n 0, 1) := by decide +kernel
theorem dX10_reachedIn_2 : decode cX10_reachedIn 2 = .ok (.getfield 34, 3) := by decide +kernel
theorem dX10_reachedIn_5 : decode cX10_reachedIn 5 = .ok (.lshl, 1) := by decide +kernel
theorem dX10_reachedIn_6 : decode cX10_reachedIn 6 = .ok (.lstore_n 2, 1) := by decide +kernel
theorem dX10_reachedIn_7 : decode cX10_reachedIn 7 = .ok (.iconst 0, 1) := by decide +kernel
theorem dX10_reachedIn_8 : decode cX10_reachedIn 8 = .ok (.istore 4, 2) := by decide +kernel
theorem dX10_reachedIn_10 : decode cX10_reachedIn 10 = .ok (.iload 4, 2) := by decide +kernel
theorem dX10_reachedIn_12 : decode cX10_reachedIn 12 = .ok (.iload_n 1, 1) := by decide +kernel
theorem dX10_reachedIn_13 : decode cX10_reachedIn 13 = .ok (.if_icmp .ge 26, 3) := by decide +kernel
theorem dX10_reachedIn_16 : decode cX10_reachedIn 16 = .ok (.lload_n 2, 1) := by decide +kernel
theorem dX10_reachedIn_17 : decode cX10_reachedIn 17 = .ok (.aload_n 0, 1) := by decide +kernel
theorem dX10_reachedIn_18 : decode cX10_reachedIn 18 = .ok (.lload_n 2, 1) := by decide +kernel
theorem dX10_reachedIn_19 : decode cX10_reachedIn 19 = .ok (.invokevirtual 73, 3) := by decide +kernel
theorem dX10_reachedIn_22 : decode cX10_reachedIn 22 = .ok (.aload_n 0, 1) := by decide +kernel
theorem dX10_reachedIn_23 : decode cX10_reachedIn 23 = .ok (.getfield 46, 3) := by decide +kernel
theorem dX10_reachedIn_26 : decode cX10_reachedIn 26 = .ok (.ldc2_w 68, 3) := by decide +kernel
theorem dX10_reachedIn_29 : decode cX10_reachedIn 29 = .ok (.lxor, 1) := by decide +kernel
theorem dX10_reachedIn_30 : decode cX10_reachedIn 30 = .ok (.land, 1) := by decide +kernel
theorem dX10_reachedIn_31 : decode cX10_reachedIn 31 = .ok (.lor, 1) := by decide +kernel
theorem dX10_reachedIn_32 : decode cX10_reachedIn 32 = .ok (.lstore_n 2, 1) := by decide +kernel
theorem dX10_reachedIn_33 : decode cX10_reachedIn 33 = .ok (.iinc 4 1, 3) := by decide +kernel
theorem dX10_reachedIn_36 : decode cX10_reachedIn 36 = .ok (.goto (-26), 3) := by decide +kernel
theorem dX10_reachedIn_39 : decode cX10_reachedIn 39 = .ok (.lload_n 2, 1) := by decide +kernel
theorem dX10_reachedIn_40 : decode cX10_reachedIn 40 = .ok (.lreturn, 1) := by decide +kernel
theorem dX10_towards_0 : decode cX10_towards 0 = .ok (.lconst 1, 1) := by decide +kernel
theorem dX10_towards_1 : decode cX10_towards 1 = .ok (.aload_n 0, 1) := by decide +kernel
theorem dX10_towards_2 : decode cX10_towards 2 = .ok (.getfield 34, 3) := by decide +kernel
theorem dX10_towards_5 : decode cX10_towards 5 = .ok (.lshl, 1) := by decide +kernel
theorem dX10_towards_6 : decode cX10_towards 6 = .ok (.lload_n 1, 1) := by decide +kernel
theorem dX10_towards_7 : decode cX10_towards 7 = .ok (.land, 1) := by decide +kernel
theorem dX10_towards_8 : decode cX10_towards 8 = .ok (.lconst 0, 1) := by decide +kernel
theorem dX10_towards_9 : decode cX10_towards 9 = .ok (.lcmp, 1) := by decide +kernel
theorem dX10_towards_10 : decode cX10_towards 10 = .ok (.ifCond .eq 8, 3) := by decide +kernel
theorem dX10_towards_13 : decode cX10_towards 13 = .ok (.aload_n 0, 1) := by decide +kernel
theorem dX10_towards_14 : decode cX10_towards 14 = .ok (.getfield 34, 3) := by decide +kernel
theorem dX10_towards_17 : decode cX10_towards 17 = .ok (.ireturn, 1) := by decide +kernel
theorem dX10_towards_18 : decode cX10_towards 18 = .ok (.aload_n 0, 1) := by decide +kernel
theorem dX10_towards_19 : decode cX10_towards 19 = .ok (.getfield 34, 3) := by decide +kernel
theorem dX10_towards_22 : decode cX10_towards 22 = .ok (.istore_n 3, 1) := by decide +kernel
theorem dX10_towards_23 : decode cX10_towards 23 = .ok (.bipush 36, 2) := by decide +kernel
theorem dX10_towards_25 : decode cX10_towards 25 = .ok (.istore 4, 2) := by decide +kernel
theorem dX10_towards_27 : decode cX10_towards 27 = .ok (.iconst 0, 1) := by decide +kernel
theorem dX10_towards_28 : decode cX10_towards 28 = .ok (.istore 5, 2) := by decide +kernel
theorem dX10_towards_30 : decode cX10_towards 30 = .ok (.iload 5, 2) := by decide +kernel
theorem dX10_towards_32 : decode cX10_towards 32 = .ok (.getstatic 77, 3) := by decide +kernel
theorem dX10_towards_35 : decode cX10_towards 35 = .ok (.arraylength, 1) := by decide +kernel
theorem dX10_towards_36 : decode cX10_towards 36 = .ok (.if_icmp .ge 64, 3) := by decide +kernel
theorem dX10_towards_39 : decode cX10_towards 39 = .ok (.aload_n 0, 1) := by decide +kernel
theorem dX10_towards_40 : decode cX10_towards 40 = .ok (.aload_n 0, 1) := by decide +kernel
theorem dX10_towards_41 : decode cX10_towards 41 = .ok (.getfield 34, 3) := by decide +kernel
theorem dX10_towards_44 : decode cX10_towards 44 = .ok (.getstatic 77, 3) := by decide +kernel
theorem dX10_towards_47 : decode cX10_towards 47 = .ok (.iload 5, 2) := by decide +kernel
theorem dX10_towards_49 : decode cX10_towards 49 = .ok (.iaload, 1) := by decide +kernel
theorem dX10_towards_50 : decode cX10_towards 50 = .ok (.invokevirtual 80, 3) := by decide +kernel
theorem dX10_towards_53 : decode cX10_towards 53 = .ok (.istore 6, 2) := by decide +kernel
theorem dX10_towards_55 : decode cX10_towards 55 = .ok (.iload 6, 2) := by decide +kernel
theorem dX10_towards_57 : decode cX10_towards 57 = .ok (.iconst (-1), 1) := by decide +kernel
theorem dX10_towards_58 : decode cX10_towards 58 = .ok (.if_icmp .ne 7, 3) := by decide +kernel
theorem dX10_towards_61 : decode cX10_towards 61 = .ok (.iconst (-1), 1) := by decide +kernel
theorem dX10_towards_62 : decode cX10_towards 62 = .ok (.goto 10, 3) := by decide +kernel
theorem dX10_towards_65 : decode cX10_towards 65 = .ok (.aload_n 0, 1) := by decide +kernel
theorem dX10_towards_66 : decode cX10_towards 66 = .ok (.iload 6, 2) := by decide +kernel
theorem dX10_towards_68 : decode cX10_towards 68 = .ok (.lload_n 1, 1) := by decide +kernel
theorem dX10_towards_69 : decode cX10_towards 69 = .ok (.invokevirtual 83, 3) := by decide +kernel
theorem dX10_towards_72 : decode cX10_towards 72 = .ok (.istore 7, 2) := by decide +kernel
theorem dX10_towards_74 : decode cX10_towards 74 = .ok (.iload 7, 2) := by decide +kernel
theorem dX10_towards_76 : decode cX10_towards 76 = .ok (.iconst (-1), 1) := by decide +kernel
theorem dX10_towards_77 : decode cX10_towards 77 = .ok (.if_icmp .eq 17, 3) := by decide +kernel
theorem dX10_towards_80 : decode cX10_towards 80 = .ok (.iload 7, 2) := by decide +kernel
theorem dX10_towards_82 : decode cX10_towards 82 = .ok (.iload 4, 2) := by decide +kernel
theorem dX10_towards_84 : decode cX10_towards 84 = .ok (.if_icmp .ge 10, 3) := by decide +kernel
theorem dX10_towards_87 : decode cX10_towards 87 = .ok (.iload 7, 2) := by decide +kernel
theorem dX10_towards_89 : decode cX10_towards 89 = .ok (.istore 4, 2) := by decide +kernel
theorem dX10_towards_91 : decode cX10_towards 91 = .ok (.iload 6, 2) := by decide +kernel
theorem dX10_towards_93 : decode cX10_towards 93 = .ok (.istore_n 3, 1) := by decide +kernel
theorem dX10_towards_94 : decode cX10_towards 94 = .ok (.iinc 5 1, 3) := by decide +kernel
theorem dX10_towards_97 : decode cX10_towards 97 = .ok (.goto (-67), 3) := by decide +kernel
theorem dX10_towards_100 : decode cX10_towards 100 = .ok (.iload_n 3, 1) := by decide +kernel
theorem dX10_towards_101 : decode cX10_towards 101 = .ok (.ireturn, 1) := by decide +kernel
theorem dX10_askWhoIsHere_0 : decode cX10_askWhoIsHere 0 = .ok (.iconst 0, 1) := by decide +kernel
theorem dX10_askWhoIsHere_1 : decode cX10_askWhoIsHere 1 = .ok (.istore_n 1, 1) := by decide +kernel
theorem dX10_askWhoIsHere_2 : decode cX10_askWhoIsHere 2 = .ok (.iload_n 1, 1) := by decide +kernel
theorem dX10_askWhoIsHere_3 : decode cX10_askWhoIsHere 3 = .ok (.aload_n 0, 1) := by decide +kernel
theorem dX10_askWhoIsHere_4 : decode cX10_askWhoIsHere 4 = .ok (.getfield 43, 3) := by decide +kernel
theorem dX10_askWhoIsHere_7 : decode cX10_askWhoIsHere 7 = .ok (.if_icmp .ge 78, 3) := by decide +kernel
theorem dX10_askWhoIsHere_10 : decode cX10_askWhoIsHere 10 = .ok (.aload_n 0, 1) := by decide +kernel
theorem dX10_askWhoIsHere_11 : decode cX10_askWhoIsHere 11 = .ok (.getfield 9, 3) := by decide +kernel
theorem dX10_askWhoIsHere_14 : decode cX10_askWhoIsHere 14 = .ok (.iload_n 1, 1) := by decide +kernel
theorem dX10_askWhoIsHere_15 : decode cX10_askWhoIsHere 15 = .ok (.iaload, 1) := by decide +kernel
theorem dX10_askWhoIsHere_16 : decode cX10_askWhoIsHere 16 = .ok (.aload_n 0, 1) := by decide +kernel
theorem dX10_askWhoIsHere_17 : decode cX10_askWhoIsHere 17 = .ok (.getfield 34, 3) := by decide +kernel
theorem dX10_askWhoIsHere_20 : decode cX10_askWhoIsHere 20 = .ok (.if_icmp .ne 59, 3) := by decide +kernel
theorem dX10_askWhoIsHere_23 : decode cX10_askWhoIsHere 23 = .ok (.aload_n 0, 1) := by decide +kernel
theorem dX10_askWhoIsHere_24 : decode cX10_askWhoIsHere 24 = .ok (.getfield 18, 3) := by decide +kernel
theorem dX10_askWhoIsHere_27 : decode cX10_askWhoIsHere 27 = .ok (.iload_n 1, 1) := by decide +kernel
theorem dX10_askWhoIsHere_28 : decode cX10_askWhoIsHere 28 = .ok (.dup2, 1) := by decide +kernel
theorem dX10_askWhoIsHere_29 : decode cX10_askWhoIsHere 29 = .ok (.iaload, 1) := by decide +kernel
theorem dX10_askWhoIsHere_30 : decode cX10_askWhoIsHere 30 = .ok (.iconst 1, 1) := by decide +kernel
theorem dX10_askWhoIsHere_31 : decode cX10_askWhoIsHere 31 = .ok (.iadd, 1) := by decide +kernel
theorem dX10_askWhoIsHere_32 : decode cX10_askWhoIsHere 32 = .ok (.iastore, 1) := by decide +kernel
theorem dX10_askWhoIsHere_33 : decode cX10_askWhoIsHere 33 = .ok (.aload_n 0, 1) := by decide +kernel
theorem dX10_askWhoIsHere_34 : decode cX10_askWhoIsHere 34 = .ok (.getfield 15, 3) := by decide +kernel
theorem dX10_askWhoIsHere_37 : decode cX10_askWhoIsHere 37 = .ok (.iload_n 1, 1) := by decide +kernel
theorem dX10_askWhoIsHere_38 : decode cX10_askWhoIsHere 38 = .ok (.aload_n 0, 1) := by decide +kernel
theorem dX10_askWhoIsHere_39 : decode cX10_askWhoIsHere 39 = .ok (.getfield 15, 3) := by decide +kernel
theorem dX10_askWhoIsHere_42 : decode cX10_askWhoIsHere 42 = .ok (.iload_n 1, 1) := by decide +kernel
theorem dX10_askWhoIsHere_43 : decode cX10_askWhoIsHere 43 = .ok (.iaload, 1) := by decide +kernel
theorem dX10_askWhoIsHere_44 : decode cX10_askWhoIsHere 44 = .ok (.iconst 1, 1) := by decide +kernel
theorem dX10_askWhoIsHere_45 : decode cX10_askWhoIsHere 45 = .ok (.isub, 1) := by decide +kernel
theorem dX10_askWhoIsHere_46 : decode cX10_askWhoIsHere 46 = .ok (.iconst 0, 1) := by decide +kernel
theorem dX10_askWhoIsHere_47 : decode cX10_askWhoIsHere 47 = .ok (.invokestatic 87, 3) := by decide +kernel
theorem dX10_askWhoIsHere_50 : decode cX10_askWhoIsHere 50 = .ok (.iastore, 1) := by decide +kernel
theorem dX10_askWhoIsHere_51 : decode cX10_askWhoIsHere 51 = .ok (.aload_n 0, 1) := by decide +kernel
theorem dX10_askWhoIsHere_52 : decode cX10_askWhoIsHere 52 = .ok (.dup, 1) := by decide +kernel
theorem dX10_askWhoIsHere_53 : decode cX10_askWhoIsHere 53 = .ok (.getfield 40, 3) := by decide +kernel
theorem dX10_askWhoIsHere_56 : decode cX10_askWhoIsHere 56 = .ok (.aload_n 0, 1) := by decide +kernel
theorem dX10_askWhoIsHere_57 : decode cX10_askWhoIsHere 57 = .ok (.getfield 21, 3) := by decide +kernel
theorem dX10_askWhoIsHere_60 : decode cX10_askWhoIsHere 60 = .ok (.iload_n 1, 1) := by decide +kernel
theorem dX10_askWhoIsHere_61 : decode cX10_askWhoIsHere 61 = .ok (.iaload, 1) := by decide +kernel
theorem dX10_askWhoIsHere_62 : decode cX10_askWhoIsHere 62 = .ok (.ior, 1) := by decide +kernel
theorem dX10_askWhoIsHere_63 : decode cX10_askWhoIsHere 63 = .ok (.putfield 40, 3) := by decide +kernel
theorem dX10_askWhoIsHere_66 : decode cX10_askWhoIsHere 66 = .ok (.aload_n 0, 1) := by decide +kernel
theorem dX10_askWhoIsHere_67 : decode cX10_askWhoIsHere 67 = .ok (.getfield 21, 3) := by decide +kernel
theorem dX10_askWhoIsHere_70 : decode cX10_askWhoIsHere 70 = .ok (.iload_n 1, 1) := by decide +kernel
theorem dX10_askWhoIsHere_71 : decode cX10_askWhoIsHere 71 = .ok (.dup2, 1) := by decide +kernel
theorem dX10_askWhoIsHere_72 : decode cX10_askWhoIsHere 72 = .ok (.iaload, 1) := by decide +kernel
theorem dX10_askWhoIsHere_73 : decode cX10_askWhoIsHere 73 = .ok (.aload_n 0, 1) := by decide +kernel
theorem dX10_askWhoIsHere_74 : decode cX10_askWhoIsHere 74 = .ok (.getfield 40, 3) := by decide +kernel
theorem dX10_askWhoIsHere_77 : decode cX10_askWhoIsHere 77 = .ok (.ior, 1) := by decide +kernel
theorem dX10_askWhoIsHere_78 : decode cX10_askWhoIsHere 78 = .ok (.iastore, 1) := by decide +kernel
theorem dX10_askWhoIsHere_79 : decode cX10_askWhoIsHere 79 = .ok (.iinc 1 1, 3) := by decide +kernel
theorem dX10_askWhoIsHere_82 : decode cX10_askWhoIsHere 82 = .ok (.goto (-80), 3) := by decide +kernel
theorem dX10_askWhoIsHere_85 : decode cX10_askWhoIsHere 85 = .ok (.return_, 1) := by decide +kernel
theorem dX10_tentsOn_0 : decode cX10_tentsOn 0 = .ok (.iconst 0, 1) := by decide +kernel
theorem dX10_tentsOn_1 : decode cX10_tentsOn 1 = .ok (.istore_n 2, 1) := by decide +kernel
theorem dX10_tentsOn_2 : decode cX10_tentsOn 2 = .ok (.iconst 0, 1) := by decide +kernel
theorem dX10_tentsOn_3 : decode cX10_tentsOn 3 = .ok (.istore_n 3, 1) := by decide +kernel
theorem dX10_tentsOn_4 : decode cX10_tentsOn 4 = .ok (.iload_n 3, 1) := by decide +kernel
theorem dX10_tentsOn_5 : decode cX10_tentsOn 5 = .ok (.aload_n 0, 1) := by decide +kernel
theorem dX10_tentsOn_6 : decode cX10_tentsOn 6 = .ok (.getfield 43, 3) := by decide +kernel
theorem dX10_tentsOn_9 : decode cX10_tentsOn 9 = .ok (.if_icmp .ge 25, 3) := by decide +kernel
theorem dX10_tentsOn_12 : decode cX10_tentsOn 12 = .ok (.aload_n 0, 1) := by decide +kernel
theorem dX10_tentsOn_13 : decode cX10_tentsOn 13 = .ok (.getfield 9, 3) := by decide +kernel
theorem dX10_tentsOn_16 : decode cX10_tentsOn 16 = .ok (.iload_n 3, 1) := by decide +kernel
theorem dX10_tentsOn_17 : decode cX10_tentsOn 17 = .ok (.iaload, 1) := by decide +kernel
theorem dX10_tentsOn_18 : decode cX10_tentsOn 18 = .ok (.iload_n 1, 1) := by decide +kernel
theorem dX10_tentsOn_19 : decode cX10_tentsOn 19 = .ok (.if_icmp .ne 9, 3) := by decide +kernel
theorem dX10_tentsOn_22 : decode cX10_tentsOn 22 = .ok (.iload_n 2, 1) := by decide +kernel
theorem dX10_tentsOn_23 : decode cX10_tentsOn 23 = .ok (.iconst 1, 1) := by decide +kernel
theorem dX10_tentsOn_24 : decode cX10_tentsOn 24 = .ok (.iload_n 3, 1) := by decide +kernel
theorem dX10_tentsOn_25 : decode cX10_tentsOn 25 = .ok (.ishl, 1) := by decide +kernel
theorem dX10_tentsOn_26 : decode cX10_tentsOn 26 = .ok (.ior, 1) := by decide +kernel
theorem dX10_tentsOn_27 : decode cX10_tentsOn 27 = .ok (.istore_n 2, 1) := by decide +kernel
theorem dX10_tentsOn_28 : decode cX10_tentsOn 28 = .ok (.iinc 3 1, 3) := by decide +kernel
theorem dX10_tentsOn_31 : decode cX10_tentsOn 31 = .ok (.goto (-27), 3) := by decide +kernel
theorem dX10_tentsOn_34 : decode cX10_tentsOn 34 = .ok (.iload_n 2, 1) := by decide +kernel
theorem dX10_tentsOn_35 : decode cX10_tentsOn 35 = .ok (.ireturn, 1) := by decide +kernel
theorem dX10_leastNerveOn_0 : decode cX10_leastNerveOn 0 = .ok (.bipush 99, 2) := by decide +kernel
theorem dX10_leastNerveOn_2 : decode cX10_leastNerveOn 2 = .ok (.istore_n 2, 1) := by decide +kernel
theorem dX10_leastNerveOn_3 : decode cX10_leastNerveOn 3 = .ok (.iconst 0, 1) := by decide +kernel
theorem dX10_leastNerveOn_4 : decode cX10_leastNerveOn 4 = .ok (.istore_n 3, 1) := by decide +kernel
theorem dX10_leastNerveOn_5 : decode cX10_leastNerveOn 5 = .ok (.iload_n 3, 1) := by decide +kernel
theorem dX10_leastNerveOn_6 : decode cX10_leastNerveOn 6 = .ok (.aload_n 0, 1) := by decide +kernel
theorem dX10_leastNerveOn_7 : decode cX10_leastNerveOn 7 = .ok (.getfield 43, 3) := by decide +kernel
theorem dX10_leastNerveOn_10 : decode cX10_leastNerveOn 10 = .ok (.if_icmp .ge 30, 3) := by decide +kernel
theorem dX10_leastNerveOn_13 : decode cX10_leastNerveOn 13 = .ok (.aload_n 0, 1) := by decide +kernel
theorem dX10_leastNerveOn_14 : decode cX10_leastNerveOn 14 = .ok (.getfield 9, 3) := by decide +kernel
theorem dX10_leastNerveOn_17 : decode cX10_leastNerveOn 17 = .ok (.iload_n 3, 1) := by decide +kernel
theorem dX10_leastNerveOn_18 : decode cX10_leastNerveOn 18 = .ok (.iaload, 1) := by decide +kernel
theorem dX10_leastNerveOn_19 : decode cX10_leastNerveOn 19 = .ok (.iload_n 1, 1) := by decide +kernel
theorem dX10_leastNerveOn_20 : decode cX10_leastNerveOn 20 = .ok (.if_icmp .ne 14, 3) := by decide +kernel
theorem dX10_leastNerveOn_23 : decode cX10_leastNerveOn 23 = .ok (.iload_n 2, 1) := by decide +kernel
theorem dX10_leastNerveOn_24 : decode cX10_leastNerveOn 24 = .ok (.aload_n 0, 1) := by decide +kernel
theorem dX10_leastNerveOn_25 : decode cX10_leastNerveOn 25 = .ok (.getfield 15, 3) := by decide +kernel
theorem dX10_leastNerveOn_28 : decode cX10_leastNerveOn 28 = .ok (.iload_n 3, 1) := by decide +kernel
theorem dX10_leastNerveOn_29 : decode cX10_leastNerveOn 29 = .ok (.iaload, 1) := by decide +kernel
theorem dX10_leastNerveOn_30 : decode cX10_leastNerveOn 30 = .ok (.invokestatic 92, 3) := by decide +kernel
theorem dX10_leastNerveOn_33 : decode cX10_leastNerveOn 33 = .ok (.istore_n 2, 1) := by decide +kernel
theorem dX10_leastNerveOn_34 : decode cX10_leastNerveOn 34 = .ok (.iinc 3 1, 3) := by decide +kernel
theorem dX10_leastNerveOn_37 : decode cX10_leastNerveOn 37 = .ok (.goto (-32), 3) := by decide +kernel
theorem dX10_leastNerveOn_40 : decode cX10_leastNerveOn 40 = .ok (.iload_n 2, 1) := by decide +kernel
theorem dX10_leastNerveOn_41 : decode cX10_leastNerveOn 41 = .ok (.ireturn, 1) := by decide +kernel
theorem dX10_cellsToAsk_0 : decode cX10_cellsToAsk 0 = .ok (.lconst 0, 1) := by decide +kernel
theorem dX10_cellsToAsk_1 : decode cX10_cellsToAsk 1 = .ok (.lstore_n 1, 1) := by decide +kernel
theorem dX10_cellsToAsk_2 : decode cX10_cellsToAsk 2 = .ok (.iconst 0, 1) := by decide +kernel
theorem dX10_cellsToAsk_3 : decode cX10_cellsToAsk 3 = .ok (.istore_n 3, 1) := by decide +kernel
theorem dX10_cellsToAsk_4 : decode cX10_cellsToAsk 4 = .ok (.iload_n 3, 1) := by decide +kernel
theorem dX10_cellsToAsk_5 : decode cX10_cellsToAsk 5 = .ok (.aload_n 0, 1) := by decide +kernel
theorem dX10_cellsToAsk_6 : decode cX10_cellsToAsk 6 = .ok (.getfield 43, 3) := by decide +kernel
theorem dX10_cellsToAsk_9 : decode cX10_cellsToAsk 9 = .ok (.if_icmp .ge 29, 3) := by decide +kernel
theorem dX10_cellsToAsk_12 : decode cX10_cellsToAsk 12 = .ok (.aload_n 0, 1) := by decide +kernel
theorem dX10_cellsToAsk_13 : decode cX10_cellsToAsk 13 = .ok (.getfield 18, 3) := by decide +kernel
theorem dX10_cellsToAsk_16 : decode cX10_cellsToAsk 16 = .ok (.iload_n 3, 1) := by decide +kernel
theorem dX10_cellsToAsk_17 : decode cX10_cellsToAsk 17 = .ok (.iaload, 1) := by decide +kernel
theorem dX10_cellsToAsk_18 : decode cX10_cellsToAsk 18 = .ok (.ifCond .ne 14, 3) := by decide +kernel
theorem dX10_cellsToAsk_21 : decode cX10_cellsToAsk 21 = .ok (.lload_n 1, 1) := by decide +kernel
theorem dX10_cellsToAsk_22 : decode cX10_cellsToAsk 22 = .ok (.lconst 1, 1) := by decide +kernel
theorem dX10_cellsToAsk_23 : decode cX10_cellsToAsk 23 = .ok (.aload_n 0, 1) := by decide +kernel
theorem dX10_cellsToAsk_24 : decode cX10_cellsToAsk 24 = .ok (.getfield 9, 3) := by decide +kernel
theorem dX10_cellsToAsk_27 : decode cX10_cellsToAsk 27 = .ok (.iload_n 3, 1) := by decide +kernel
theorem dX10_cellsToAsk_28 : decode cX10_cellsToAsk 28 = .ok (.iaload, 1) := by decide +kernel
theorem dX10_cellsToAsk_29 : decode cX10_cellsToAsk 29 = .ok (.lshl, 1) := by decide +kernel
theorem dX10_cellsToAsk_30 : decode cX10_cellsToAsk 30 = .ok (.lor, 1) := by decide +kernel
theorem dX10_cellsToAsk_31 : decode cX10_cellsToAsk 31 = .ok (.lstore_n 1, 1) := by decide +kernel
theorem dX10_cellsToAsk_32 : decode cX10_cellsToAsk 32 = .ok (.iinc 3 1, 3) := by decide +kernel
theorem dX10_cellsToAsk_35 : decode cX10_cellsToAsk 35 = .ok (.goto (-31), 3) := by decide +kernel
theorem dX10_cellsToAsk_38 : decode cX10_cellsToAsk 38 = .ok (.lload_n 1, 1) := by decide +kernel
theorem dX10_cellsToAsk_39 : decode cX10_cellsToAsk 39 = .ok (.lreturn, 1) := by decide +kernel
theorem dX10_everAsked_0 : decode cX10_everAsked 0 = .ok (.iconst 0, 1) := by decide +kernel
theorem dX10_everAsked_1 : decode cX10_everAsked 1 = .ok (.istore_n 1, 1) := by decide +kernel
theorem dX10_everAsked_2 : decode cX10_everAsked 2 = .ok (.iconst 0, 1) := by decide +kernel
theorem dX10_everAsked_3 : decode cX10_everAsked 3 = .ok (.istore_n 2, 1) := by decide +kernel
theorem dX10_everAsked_4 : decode cX10_everAsked 4 = .ok (.iload_n 2, 1) := by decide +kernel
theorem dX10_everAsked_5 : decode cX10_everAsked 5 = .ok (.aload_n 0, 1) := by decide +kernel
theorem dX10_everAsked_6 : decode cX10_everAsked 6 = .ok (.getfield 43, 3) := by decide +kernel
theorem dX10_everAsked_9 : decode cX10_everAsked 9 = .ok (.if_icmp .ge 24, 3) := by decide +kernel
theorem dX10_everAsked_12 : decode cX10_everAsked 12 = .ok (.aload_n 0, 1) := by decide +kernel
theorem dX10_everAsked_13 : decode cX10_everAsked 13 = .ok (.getfield 18, 3) := by decide +kernel
theorem dX10_everAsked_16 : decode cX10_everAsked 16 = .ok (.iload_n 2, 1) := by decide +kernel
theorem dX10_everAsked_17 : decode cX10_everAsked 17 = .ok (.iaload, 1) := by decide +kernel
theorem dX10_everAsked_18 : decode cX10_everAsked 18 = .ok (.ifCond .le 9, 3) := by decide +kernel
theorem dX10_everAsked_21 : decode cX10_everAsked 21 = .ok (.iload_n 1, 1) := by decide +kernel
theorem dX10_everAsked_22 : decode cX10_everAsked 22 = .ok (.iconst 1, 1) := by decide +kernel
theorem dX10_everAsked_23 : decode cX10_everAsked 23 = .ok (.iload_n 2, 1) := by decide +kernel
theorem dX10_everAsked_24 : decode cX10_everAsked 24 = .ok (.ishl, 1) := by decide +kernel
theorem dX10_everAsked_25 : decode cX10_everAsked 25 = .ok (.ior, 1) := by decide +kernel
theorem dX10_everAsked_26 : decode cX10_everAsked 26 = .ok (.istore_n 1, 1) := by decide +kernel
theorem dX10_everAsked_27 : decode cX10_everAsked 27 = .ok (.iinc 2 1, 3) := by decide +kernel
theorem dX10_everAsked_30 : decode cX10_everAsked 30 = .ok (.goto (-26), 3) := by decide +kernel
theorem dX10_everAsked_33 : decode cX10_everAsked 33 = .ok (.iload_n 1, 1) := by decide +kernel
theorem dX10_everAsked_34 : decode cX10_everAsked 34 = .ok (.ireturn, 1) := by decide +kernel
theorem dX10_askedInAll_0 : decode cX10_askedInAll 0 = .ok (.iconst 0, 1) := by decide +kernel
theorem dX10_askedInAll_1 : decode cX10_askedInAll 1 = .ok (.istore_n 1, 1) := by decide +kernel
theorem dX10_askedInAll_2 : decode cX10_askedInAll 2 = .ok (.iconst 0, 1) := by decide +kernel
theorem dX10_askedInAll_3 : decode cX10_askedInAll 3 = .ok (.istore_n 2, 1) := by decide +kernel
theorem dX10_askedInAll_4 : decode cX10_askedInAll 4 = .ok (.iload_n 2, 1) := by decide +kernel
theorem dX10_askedInAll_5 : decode cX10_askedInAll 5 = .ok (.aload_n 0, 1) := by decide +kernel
theorem dX10_askedInAll_6 : decode cX10_askedInAll 6 = .ok (.getfield 43, 3) := by decide +kernel
theorem dX10_askedInAll_9 : decode cX10_askedInAll 9 = .ok (.if_icmp .ge 18, 3) := by decide +kernel
theorem dX10_askedInAll_12 : decode cX10_askedInAll 12 = .ok (.iload_n 1, 1) := by decide +kernel
theorem dX10_askedInAll_13 : decode cX10_askedInAll 13 = .ok (.aload_n 0, 1) := by decide +kernel
theorem dX10_askedInAll_14 : decode cX10_askedInAll 14 = .ok (.getfield 18, 3) := by decide +kernel
theorem dX10_askedInAll_17 : decode cX10_askedInAll 17 = .ok (.iload_n 2, 1) := by decide +kernel
theorem dX10_askedInAll_18 : decode cX10_askedInAll 18 = .ok (.iaload, 1) := by decide +kernel
theorem dX10_askedInAll_19 : decode cX10_askedInAll 19 = .ok (.iadd, 1) := by decide +kernel
theorem dX10_askedInAll_20 : decode cX10_askedInAll 20 = .ok (.istore_n 1, 1) := by decide +kernel
theorem dX10_askedInAll_21 : decode cX10_askedInAll 21 = .ok (.iinc 2 1, 3) := by decide +kernel
theorem dX10_askedInAll_24 : decode cX10_askedInAll 24 = .ok (.goto (-20), 3) := by decide +kernel
theorem dX10_askedInAll_27 : decode cX10_askedInAll 27 = .ok (.iload_n 1, 1) := by decide +kernel
theorem dX10_askedInAll_28 : decode cX10_askedInAll 28 = .ok (.ireturn, 1) := by decide +kernel
theorem dX10_gapBetween_0 : decode cX10_gapBetween 0 = .ok (.aload_n 0, 1) := by decide +kernel
theorem dX10_gapBetween_1 : decode cX10_gapBetween 1 = .ok (.iload_n 1, 1) := by decide +kernel
theorem dX10_gapBetween_2 : decode cX10_gapBetween 2 = .ok (.invokevirtual 95, 3) := by decide +kernel
theorem dX10_gapBetween_5 : decode cX10_gapBetween 5 = .ok (.aload_n 0, 1) := by decide +kernel
theorem dX10_gapBetween_6 : decode cX10_gapBetween 6 = .ok (.iload_n 2, 1) := by decide +kernel
theorem dX10_gapBetween_7 : decode cX10_gapBetween 7 = .ok (.invokevirtual 95, 3) := by decide +kernel
theorem dX10_gapBetween_10 : decode cX10_gapBetween 10 = .ok (.isub, 1) := by decide +kernel
theorem dX10_gapBetween_11 : decode cX10_gapBetween 11 = .ok (.invokestatic 99, 3) := by decide +kernel
theorem dX10_gapBetween_14 : decode cX10_gapBetween 14 = .ok (.aload_n 0, 1) := by decide +kernel
theorem dX10_gapBetween_15 : decode cX10_gapBetween 15 = .ok (.iload_n 1, 1) := by decide +kernel
theorem dX10_gapBetween_16 : decode cX10_gapBetween 16 = .ok (.invokevirtual 102, 3) := by decide +kernel
theorem dX10_gapBetween_19 : decode cX10_gapBetween 19 = .ok (.aload_n 0, 1) := by decide +kernel
theorem dX10_gapBetween_20 : decode cX10_gapBetween 20 = .ok (.iload_n 2, 1) := by decide +kernel
theorem dX10_gapBetween_21 : decode cX10_gapBetween 21 = .ok (.invokevirtual 102, 3) := by decide +kernel
theorem dX10_gapBetween_24 : decode cX10_gapBetween 24 = .ok (.isub, 1) := by decide +kernel
theorem dX10_gapBetween_25 : decode cX10_gapBetween 25 = .ok (.invokestatic 99, 3) := by decide +kernel
theorem dX10_gapBetween_28 : decode cX10_gapBetween 28 = .ok (.iadd, 1) := by decide +kernel
theorem dX10_gapBetween_29 : decode cX10_gapBetween 29 = .ok (.ireturn, 1) := by decide +kernel
theorem dX10_penceOf_0 : decode cX10_penceOf 0 = .ok (.aload_n 0, 1) := by decide +kernel
theorem dX10_penceOf_1 : decode cX10_penceOf 1 = .ok (.invokevirtual 105, 3) := by decide +kernel
theorem dX10_penceOf_4 : decode cX10_penceOf 4 = .ok (.istore_n 3, 1) := by decide +kernel
theorem dX10_penceOf_5 : decode cX10_penceOf 5 = .ok (.iload_n 3, 1) := by decide +kernel
theorem dX10_penceOf_6 : decode cX10_penceOf 6 = .ok (.ifCond .ne 5, 3) := by decide +kernel
theorem dX10_penceOf_9 : decode cX10_penceOf 9 = .ok (.iconst 0, 1) := by decide +kernel
theorem dX10_penceOf_10 : decode cX10_penceOf 10 = .ok (.ireturn, 1) := by decide +kernel
theorem dX10_penceOf_11 : decode cX10_penceOf 11 = .ok (.iload_n 1, 1) := by decide +kernel
theorem dX10_penceOf_12 : decode cX10_penceOf 12 = .ok (.istore 4, 2) := by decide +kernel
theorem dX10_penceOf_14 : decode cX10_penceOf 14 = .ok (.iconst 0, 1) := by decide +kernel
theorem dX10_penceOf_15 : decode cX10_penceOf 15 = .ok (.istore 5, 2) := by decide +kernel
theorem dX10_penceOf_17 : decode cX10_penceOf 17 = .ok (.iload_n 1, 1) := by decide +kernel
theorem dX10_penceOf_18 : decode cX10_penceOf 18 = .ok (.aload_n 0, 1) := by decide +kernel
theorem dX10_penceOf_19 : decode cX10_penceOf 19 = .ok (.getfield 18, 3) := by decide +kernel
theorem dX10_penceOf_22 : decode cX10_penceOf 22 = .ok (.iload_n 2, 1) := by decide +kernel
theorem dX10_penceOf_23 : decode cX10_penceOf 23 = .ok (.iaload, 1) := by decide +kernel
theorem dX10_penceOf_24 : decode cX10_penceOf 24 = .ok (.imul, 1) := by decide +kernel
theorem dX10_penceOf_25 : decode cX10_penceOf 25 = .ok (.iload_n 3, 1) := by decide +kernel
theorem dX10_penceOf_26 : decode cX10_penceOf 26 = .ok (.irem, 1) := by decide +kernel
theorem dX10_penceOf_27 : decode cX10_penceOf 27 = .ok (.istore 6, 2) := by decide +kernel
theorem dX10_penceOf_29 : decode cX10_penceOf 29 = .ok (.iconst 0, 1) := by decide +kernel
theorem dX10_penceOf_30 : decode cX10_penceOf 30 = .ok (.istore 7, 2) := by decide +kernel
theorem dX10_penceOf_32 : decode cX10_penceOf 32 = .ok (.iload 7, 2) := by decide +kernel
theorem dX10_penceOf_34 : decode cX10_penceOf 34 = .ok (.aload_n 0, 1) := by decide +kernel
theorem dX10_penceOf_35 : decode cX10_penceOf 35 = .ok (.getfield 43, 3) := by decide +kernel
theorem dX10_penceOf_38 : decode cX10_penceOf 38 = .ok (.if_icmp .ge 61, 3) := by decide +kernel
theorem dX10_penceOf_41 : decode cX10_penceOf 41 = .ok (.iload 4, 2) := by decide +kernel
theorem dX10_penceOf_43 : decode cX10_penceOf 43 = .ok (.iload_n 1, 1) := by decide +kernel
theorem dX10_penceOf_44 : decode cX10_penceOf 44 = .ok (.aload_n 0, 1) := by decide +kernel
theorem dX10_penceOf_45 : decode cX10_penceOf 45 = .ok (.getfield 18, 3) := by decide +kernel
theorem dX10_penceOf_48 : decode cX10_penceOf 48 = .ok (.iload 7, 2) := by decide +kernel
theorem dX10_penceOf_50 : decode cX10_penceOf 50 = .ok (.iaload, 1) := by decide +kernel
theorem dX10_penceOf_51 : decode cX10_penceOf 51 = .ok (.imul, 1) := by decide +kernel
theorem dX10_penceOf_52 : decode cX10_penceOf 52 = .ok (.iload_n 3, 1) := by decide +kernel
theorem dX10_penceOf_53 : decode cX10_penceOf 53 = .ok (.idiv, 1) := by decide +kernel
theorem dX10_penceOf_54 : decode cX10_penceOf 54 = .ok (.isub, 1) := by decide +kernel
theorem dX10_penceOf_55 : decode cX10_penceOf 55 = .ok (.istore 4, 2) := by decide +kernel
theorem dX10_penceOf_57 : decode cX10_penceOf 57 = .ok (.iload_n 1, 1) := by decide +kernel
theorem dX10_penceOf_58 : decode cX10_penceOf 58 = .ok (.aload_n 0, 1) := by decide +kernel
theorem dX10_penceOf_59 : decode cX10_penceOf 59 = .ok (.getfield 18, 3) := by decide +kernel
theorem dX10_penceOf_62 : decode cX10_penceOf 62 = .ok (.iload 7, 2) := by decide +kernel
theorem dX10_penceOf_64 : decode cX10_penceOf 64 = .ok (.iaload, 1) := by decide +kernel
theorem dX10_penceOf_65 : decode cX10_penceOf 65 = .ok (.imul, 1) := by decide +kernel
theorem dX10_penceOf_66 : decode cX10_penceOf 66 = .ok (.iload_n 3, 1) := by decide +kernel
theorem dX10_penceOf_67 : decode cX10_penceOf 67 = .ok (.irem, 1) := by decide +kernel
theorem dX10_penceOf_68 : decode cX10_penceOf 68 = .ok (.istore 8, 2) := by decide +kernel
theorem dX10_penceOf_70 : decode cX10_penceOf 70 = .ok (.iload 8, 2) := by decide +kernel
theorem dX10_penceOf_72 : decode cX10_penceOf 72 = .ok (.iload 6, 2) := by decide +kernel
theorem dX10_penceOf_74 : decode cX10_penceOf 74 = .ok (.if_icmp .gt 16, 3) := by decide +kernel
theorem dX10_penceOf_77 : decode cX10_penceOf 77 = .ok (.iload 8, 2) := by decide +kernel
theorem dX10_penceOf_79 : decode cX10_penceOf 79 = .ok (.iload 6, 2) := by decide +kernel
theorem dX10_penceOf_81 : decode cX10_penceOf 81 = .ok (.if_icmp .ne 12, 3) := by decide +kernel
theorem dX10_penceOf_84 : decode cX10_penceOf 84 = .ok (.iload 7, 2) := by decide +kernel
theorem dX10_penceOf_86 : decode cX10_penceOf 86 = .ok (.iload_n 2, 1) := by decide +kernel
theorem dX10_penceOf_87 : decode cX10_penceOf 87 = .ok (.if_icmp .ge 6, 3) := by decide +kernel
theorem dX10_penceOf_90 : decode cX10_penceOf 90 = .ok (.iinc 5 1, 3) := by decide +kernel
theorem dX10_penceOf_93 : decode cX10_penceOf 93 = .ok (.iinc 7 1, 3) := by decide +kernel
theorem dX10_penceOf_96 : decode cX10_penceOf 96 = .ok (.goto (-64), 3) := by decide +kernel
theorem dX10_penceOf_99 : decode cX10_penceOf 99 = .ok (.iload_n 1, 1) := by decide +kernel
theorem dX10_penceOf_100 : decode cX10_penceOf 100 = .ok (.aload_n 0, 1) := by decide +kernel
theorem dX10_penceOf_101 : decode cX10_penceOf 101 = .ok (.getfield 18, 3) := by decide +kernel
theorem dX10_penceOf_104 : decode cX10_penceOf 104 = .ok (.iload_n 2, 1) := by decide +kernel
theorem dX10_penceOf_105 : decode cX10_penceOf 105 = .ok (.iaload, 1) := by decide +kernel
theorem dX10_penceOf_106 : decode cX10_penceOf 106 = .ok (.imul, 1) := by decide +kernel
theorem dX10_penceOf_107 : decode cX10_penceOf 107 = .ok (.iload_n 3, 1) := by decide +kernel
theorem dX10_penceOf_108 : decode cX10_penceOf 108 = .ok (.idiv, 1) := by decide +kernel
theorem dX10_penceOf_109 : decode cX10_penceOf 109 = .ok (.iload 5, 2) := by decide +kernel
theorem dX10_penceOf_111 : decode cX10_penceOf 111 = .ok (.iload 4, 2) := by decide +kernel
theorem dX10_penceOf_113 : decode cX10_penceOf 113 = .ok (.if_icmp .ge 7, 3) := by decide +kernel
theorem dX10_penceOf_116 : decode cX10_penceOf 116 = .ok (.iconst 1, 1) := by decide +kernel
theorem dX10_penceOf_117 : decode cX10_penceOf 117 = .ok (.goto 4, 3) := by decide +kernel
theorem dX10_penceOf_120 : decode cX10_penceOf 120 = .ok (.iconst 0, 1) := by decide +kernel
theorem dX10_penceOf_121 : decode cX10_penceOf 121 = .ok (.iadd, 1) := by decide +kernel
theorem dX10_penceOf_122 : decode cX10_penceOf 122 = .ok (.ireturn, 1) := by decide +kernel
theorem dX11_init_0 : decode cX11_init 0 = .ok (.aload_n 0, 1) := by decide +kernel
theorem dX11_init_1 : decode cX11_init 1 = .ok (.invokespecial 1, 3) := by decide +kernel
theorem dX11_init_4 : decode cX11_init 4 = .ok (.aload_n 0, 1) := by decide +kernel
theorem dX11_init_5 : decode cX11_init 5 = .ok (.new 7, 3) := by decide +kernel
theorem dX11_init_8 : decode cX11_init 8 = .ok (.dup, 1) := by decide +kernel
theorem dX11_init_9 : decode cX11_init 9 = .ok (.invokespecial 9, 3) := by decide +kernel
theorem dX11_init_12 : decode cX11_init 12 = .ok (.putfield 10, 3) := by decide +kernel
theorem dX11_init_15 : decode cX11_init 15 = .ok (.aload_n 0, 1) := by decide +kernel
theorem dX11_init_16 : decode cX11_init 16 = .ok (.new 16, 3) := by decide +kernel
theorem dX11_init_19 : decode cX11_init 19 = .ok (.dup, 1) := by decide +kernel
theorem dX11_init_20 : decode cX11_init 20 = .ok (.aload_n 0, 1) := by decide +kernel
theorem dX11_init_21 : decode cX11_init 21 = .ok (.getfield 10, 3) := by decide +kernel
theorem dX11_init_24 : decode cX11_init 24 = .ok (.invokespecial 18, 3) := by decide +kernel
theorem dX11_init_27 : decode cX11_init 27 = .ok (.putfield 21, 3) := by decide +kernel
theorem dX11_init_30 : decode cX11_init 30 = .ok (.aload_n 0, 1) := by decide +kernel
theorem dX11_init_31 : decode cX11_init 31 = .ok (.new 25, 3) := by decide +kernel
theorem dX11_init_34 : decode cX11_init 34 = .ok (.dup, 1) := by decide +kernel
theorem dX11_init_35 : decode cX11_init 35 = .ok (.aload_n 0, 1) := by decide +kernel
theorem dX11_init_36 : decode cX11_init 36 = .ok (.getfield 10, 3) := by decide +kernel
theorem dX11_init_39 : decode cX11_init 39 = .ok (.invokespecial 27, 3) := by decide +kernel
theorem dX11_init_42 : decode cX11_init 42 = .ok (.putfield 28, 3) := by decide +kernel
theorem dX11_init_45 : decode cX11_init 45 = .ok (.aload_n 0, 1) := by decide +kernel
theorem dX11_init_46 : decode cX11_init 46 = .ok (.new 32, 3) := by decide +kernel
theorem dX11_init_49 : decode cX11_init 49 = .ok (.dup, 1) := by decide +kernel
theorem dX11_init_50 : decode cX11_init 50 = .ok (.invokespecial 34, 3) := by decide +kernel
theorem dX11_init_53 : decode cX11_init 53 = .ok (.putfield 35, 3) := by decide +kernel
theorem dX11_init_56 : decode cX11_init 56 = .ok (.aload_n 0, 1) := by decide +kernel
theorem dX11_init_57 : decode cX11_init 57 = .ok (.new 39, 3) := by decide +kernel
theorem dX11_init_60 : decode cX11_init 60 = .ok (.dup, 1) := by decide +kernel
theorem dX11_init_61 : decode cX11_init 61 = .ok (.invokespecial 41, 3) := by decide +kernel
theorem dX11_init_64 : decode cX11_init 64 = .ok (.putfield 42, 3) := by decide +kernel
theorem dX11_init_67 : decode cX11_init 67 = .ok (.aload_n 0, 1) := by decide +kernel
theorem dX11_init_68 : decode cX11_init 68 = .ok (.iconst 4, 1) := by decide +kernel
theorem dX11_init_69 : decode cX11_init 69 = .ok (.anewarray 39, 3) := by decide +kernel
theorem dX11_init_72 : decode cX11_init 72 = .ok (.putfield 46, 3) := by decide +kernel
theorem dX11_init_75 : decode cX11_init 75 = .ok (.iconst 0, 1) := by decide +kernel
theorem dX11_init_76 : decode cX11_init 76 = .ok (.istore_n 1, 1) := by decide +kernel
theorem dX11_init_77 : decode cX11_init 77 = .ok (.iload_n 1, 1) := by decide +kernel
theorem dX11_init_78 : decode cX11_init 78 = .ok (.iconst 4, 1) := by decide +kernel
theorem dX11_init_79 : decode cX11_init 79 = .ok (.if_icmp .ge 22, 3) := by decide +kernel
theorem dX11_init_82 : decode cX11_init 82 = .ok (.aload_n 0, 1) := by decide +kernel
theorem dX11_init_83 : decode cX11_init 83 = .ok (.getfield 46, 3) := by decide +kernel
theorem dX11_init_86 : decode cX11_init 86 = .ok (.iload_n 1, 1) := by decide +kernel
theorem dX11_init_87 : decode cX11_init 87 = .ok (.new 39, 3) := by decide +kernel
theorem dX11_init_90 : decode cX11_init 90 = .ok (.dup, 1) := by decide +kernel
theorem dX11_init_91 : decode cX11_init 91 = .ok (.invokespecial 41, 3) := by decide +kernel
theorem dX11_init_94 : decode cX11_init 94 = .ok (.aastore, 1) := by decide +kernel
theorem dX11_init_95 : decode cX11_init 95 = .ok (.iinc 1 1, 3) := by decide +kernel
theorem dX11_init_98 : decode cX11_init 98 = .ok (.goto (-21), 3) := by decide +kernel
theorem dX11_init_101 : decode cX11_init 101 = .ok (.aload_n 0, 1) := by decide +kernel
theorem dX11_init_102 : decode cX11_init 102 = .ok (.new 50, 3) := by decide +kernel
theorem dX11_init_105 : decode cX11_init 105 = .ok (.dup, 1) := by decide +kernel
theorem dX11_init_106 : decode cX11_init 106 = .ok (.invokespecial 52, 3) := by decide +kernel
theorem dX11_init_109 : decode cX11_init 109 = .ok (.putfield 53, 3) := by decide +kernel
theorem dX11_init_112 : decode cX11_init 112 = .ok (.aload_n 0, 1) := by decide +kernel
theorem dX11_init_113 : decode cX11_init 113 = .ok (.new 57, 3) := by decide +kernel
theorem dX11_init_116 : decode cX11_init 116 = .ok (.dup, 1) := by decide +kernel
theorem dX11_init_117 : decode cX11_init 117 = .ok (.aload_n 0, 1) := by decide +kernel
theorem dX11_init_118 : decode cX11_init 118 = .ok (.getfield 35, 3) := by decide +kernel
theorem dX11_init_121 : decode cX11_init 121 = .ok (.invokespecial 59, 3) := by decide +kernel
theorem dX11_init_124 : decode cX11_init 124 = .ok (.putfield 62, 3) := by decide +kernel
theorem dX11_init_127 : decode cX11_init 127 = .ok (.aload_n 0, 1) := by decide +kernel
theorem dX11_init_128 : decode cX11_init 128 = .ok (.new 66, 3) := by decide +kernel
theorem dX11_init_131 : decode cX11_init 131 = .ok (.dup, 1) := by decide +kernel
theorem dX11_init_132 : decode cX11_init 132 = .ok (.aload_n 0, 1) := by decide +kernel
theorem dX11_init_133 : decode cX11_init 133 = .ok (.getfield 35, 3) := by decide +kernel
theorem dX11_init_136 : decode cX11_init 136 = .ok (.invokespecial 68, 3) := by decide +kernel
theorem dX11_init_139 : decode cX11_init 139 = .ok (.putfield 69, 3) := by decide +kernel
theorem dX11_init_142 : decode cX11_init 142 = .ok (.aload_n 0, 1) := by decide +kernel
theorem dX11_init_143 : decode cX11_init 143 = .ok (.new 73, 3) := by decide +kernel
theorem dX11_init_146 : decode cX11_init 146 = .ok (.dup, 1) := by decide +kernel
theorem dX11_init_147 : decode cX11_init 147 = .ok (.invokespecial 75, 3) := by decide +kernel
theorem dX11_init_150 : decode cX11_init 150 = .ok (.putfield 76, 3) := by decide +kernel
theorem dX11_init_153 : decode cX11_init 153 = .ok (.return_, 1) := by decide +kernel
theorem dX11_feed_0 : decode cX11_feed 0 = .ok (.aload_n 0, 1) := by decide +kernel
theorem dX11_feed_1 : decode cX11_feed 1 = .ok (.getfield 10, 3) := by decide +kernel
theorem dX11_feed_4 : decode cX11_feed 4 = .ok (.invokevirtual 80, 3) := by decide +kernel
theorem dX11_feed_7 : decode cX11_feed 7 = .ok (.ifCond .ne 5, 3) := by decide +kernel
theorem dX11_feed_10 : decode cX11_feed 10 = .ok (.iconst (-1), 1) := by decide +kernel
theorem dX11_feed_11 : decode cX11_feed 11 = .ok (.ireturn, 1) := by decide +kernel
theorem dX11_feed_12 : decode cX11_feed 12 = .ok (.aload_n 0, 1) := by decide +kernel
theorem dX11_feed_13 : decode cX11_feed 13 = .ok (.getfield 10, 3) := by decide +kernel
theorem dX11_feed_16 : decode cX11_feed 16 = .ok (.iload_n 1, 1) := by decide +kernel
theorem dX11_feed_17 : decode cX11_feed 17 = .ok (.invokevirtual 84, 3) := by decide +kernel
theorem dX11_feed_20 : decode cX11_feed 20 = .ok (.aload_n 0, 1) := by decide +kernel
theorem dX11_feed_21 : decode cX11_feed 21 = .ok (.getfield 10, 3) := by decide +kernel
theorem dX11_feed_24 : decode cX11_feed 24 = .ok (.iload_n 2, 1) := by decide +kernel
theorem dX11_feed_25 : decode cX11_feed 25 = .ok (.invokevirtual 84, 3) := by decide +kernel
theorem dX11_feed_28 : decode cX11_feed 28 = .ok (.aload_n 0, 1) := by decide +kernel
theorem dX11_feed_29 : decode cX11_feed 29 = .ok (.getfield 10, 3) := by decide +kernel
theorem dX11_feed_32 : decode cX11_feed 32 = .ok (.iload_n 3, 1) := by decide +kernel
theorem dX11_feed_33 : decode cX11_feed 33 = .ok (.invokevirtual 84, 3) := by decide +kernel
theorem dX11_feed_36 : decode cX11_feed 36 = .ok (.aload_n 0, 1) := by decide +kernel
theorem dX11_feed_37 : decode cX11_feed 37 = .ok (.getfield 10, 3) := by decide +kernel
theorem dX11_feed_40 : decode cX11_feed 40 = .ok (.iload 4, 2) := by decide +kernel
theorem dX11_feed_42 : decode cX11_feed 42 = .ok (.invokevirtual 84, 3) := by decide +kernel
theorem dX11_feed_45 : decode cX11_feed 45 = .ok (.aload_n 0, 1) := by decide +kernel
theorem dX11_feed_46 : decode cX11_feed 46 = .ok (.getfield 10, 3) := by decide +kernel
theorem dX11_feed_49 : decode cX11_feed 49 = .ok (.iload 5, 2) := by decide +kernel
theorem dX11_feed_51 : decode cX11_feed 51 = .ok (.invokevirtual 84, 3) := by decide +kernel
theorem dX11_feed_54 : decode cX11_feed 54 = .ok (.aload_n 0, 1) := by decide +kernel
theorem dX11_feed_55 : decode cX11_feed 55 = .ok (.getfield 10, 3) := by decide +kernel
theorem dX11_feed_58 : decode cX11_feed 58 = .ok (.getfield 88, 3) := by decide +kernel
theorem dX11_feed_61 : decode cX11_feed 61 = .ok (.ireturn, 1) := by decide +kernel
theorem dX11_end_0 : decode cX11_end 0 = .ok (.iload_n 1, 1) := by decide +kernel
theorem dX11_end_1 : decode cX11_end 1 = .ok (.ifCond .lt 14, 3) := by decide +kernel
theorem dX11_end_4 : decode cX11_end 4 = .ok (.iload_n 1, 1) := by decide +kernel
theorem dX11_end_5 : decode cX11_end 5 = .ok (.aload_n 0, 1) := by decide +kernel
theorem dX11_end_6 : decode cX11_end 6 = .ok (.getfield 10, 3) := by decide +kernel
theorem dX11_end_9 : decode cX11_end 9 = .ok (.getfield 88, 3) := by decide +kernel
theorem dX11_end_12 : decode cX11_end 12 = .ok (.if_icmp .le 5, 3) := by decide +kernel
theorem dX11_end_15 : decode cX11_end 15 = .ok (.iconst (-1), 1) := by decide +kernel
theorem dX11_end_16 : decode cX11_end 16 = .ok (.ireturn, 1) := by decide +kernel
theorem dX11_end_17 : decode cX11_end 17 = .ok (.aload_n 0, 1) := by decide +kernel
theorem dX11_end_18 : decode cX11_end 18 = .ok (.getfield 10, 3) := by decide +kernel
theorem dX11_end_21 : decode cX11_end 21 = .ok (.iload_n 1, 1) := by decide +kernel
theorem dX11_end_22 : decode cX11_end 22 = .ok (.putfield 88, 3) := by decide +kernel
theorem dX11_end_25 : decode cX11_end 25 = .ok (.iload_n 1, 1) := by decide +kernel
theorem dX11_end_26 : decode cX11_end 26 = .ok (.ireturn, 1) := by decide +kernel
theorem dX11_camp_0 : decode cX11_camp 0 = .ok (.aload_n 0, 1) := by decide +kernel
theorem dX11_camp_1 : decode cX11_camp 1 = .ok (.getfield 62, 3) := by decide +kernel
theorem dX11_camp_4 : decode cX11_camp 4 = .ok (.getfield 92, 3) := by decide +kernel
theorem dX11_camp_7 : decode cX11_camp 7 = .ok (.astore_n 1, 1) := by decide +kernel
theorem dX11_camp_8 : decode cX11_camp 8 = .ok (.aload_n 0, 1) := by decide +kernel
theorem dX11_camp_9 : decode cX11_camp 9 = .ok (.getfield 21, 3) := by decide +kernel
theorem dX11_camp_12 : decode cX11_camp 12 = .ok (.aload_n 1, 1) := by decide +kernel
theorem dX11_camp_13 : decode cX11_camp 13 = .ok (.invokevirtual 96, 3) := by decide +kernel
theorem dX11_camp_16 : decode cX11_camp 16 = .ok (.aload_n 0, 1) := by decide +kernel
theorem dX11_camp_17 : decode cX11_camp 17 = .ok (.getfield 10, 3) := by decide +kernel
theorem dX11_camp_20 : decode cX11_camp 20 = .ok (.iconst 0, 1) := by decide +kernel
theorem dX11_camp_21 : decode cX11_camp 21 = .ok (.putfield 88, 3) := by decide +kernel
theorem dX11_camp_24 : decode cX11_camp 24 = .ok (.aload_n 0, 1) := by decide +kernel
theorem dX11_camp_25 : decode cX11_camp 25 = .ok (.getfield 10, 3) := by decide +kernel
theorem dX11_camp_28 : decode cX11_camp 28 = .ok (.getfield 100, 3) := by decide +kernel
theorem dX11_camp_31 : decode cX11_camp 31 = .ok (.ifCond .eq 14, 3) := by decide +kernel
theorem dX11_camp_34 : decode cX11_camp 34 = .ok (.bipush (-2), 2) := by decide +kernel
theorem dX11_camp_36 : decode cX11_camp 36 = .ok (.aload_n 0, 1) := by decide +kernel
theorem dX11_camp_37 : decode cX11_camp 37 = .ok (.getfield 10, 3) := by decide +kernel
theorem dX11_camp_40 : decode cX11_camp 40 = .ok (.getfield 100, 3) := by decide +kernel
theorem dX11_camp_43 : decode cX11_camp 43 = .ok (.isub, 1) := by decide +kernel
theorem dX11_camp_44 : decode cX11_camp 44 = .ok (.ireturn, 1) := by decide +kernel
theorem dX11_camp_45 : decode cX11_camp 45 = .ok (.aload_n 0, 1) := by decide +kernel
theorem dX11_camp_46 : decode cX11_camp 46 = .ok (.getfield 42, 3) := by decide +kernel
theorem dX11_camp_49 : decode cX11_camp 49 = .ok (.getfield 103, 3) := by decide +kernel
theorem dX11_camp_52 : decode cX11_camp 52 = .ok (.aload_n 1, 1) := by decide +kernel
theorem dX11_camp_53 : decode cX11_camp 53 = .ok (.invokevirtual 106, 3) := by decide +kernel
theorem dX11_camp_56 : decode cX11_camp 56 = .ok (.aload_n 0, 1) := by decide +kernel
theorem dX11_camp_57 : decode cX11_camp 57 = .ok (.getfield 42, 3) := by decide +kernel
theorem dX11_camp_60 : decode cX11_camp 60 = .ok (.getfield 111, 3) := by decide +kernel
theorem dX11_camp_63 : decode cX11_camp 63 = .ok (.aload_n 1, 1) := by decide +kernel
theorem dX11_camp_64 : decode cX11_camp 64 = .ok (.invokevirtual 106, 3) := by decide +kernel
theorem dX11_camp_67 : decode cX11_camp 67 = .ok (.aload_n 0, 1) := by decide +kernel
theorem dX11_camp_68 : decode cX11_camp 68 = .ok (.getfield 42, 3) := by decide +kernel
theorem dX11_camp_71 : decode cX11_camp 71 = .ok (.iconst 0, 1) := by decide +kernel
theorem dX11_camp_72 : decode cX11_camp 72 = .ok (.putfield 114, 3) := by decide +kernel
theorem dX11_camp_75 : decode cX11_camp 75 = .ok (.aload_n 0, 1) := by decide +kernel
theorem dX11_camp_76 : decode cX11_camp 76 = .ok (.getfield 53, 3) := by decide +kernel
theorem dX11_camp_79 : decode cX11_camp 79 = .ok (.invokevirtual 117, 3) := by decide +kernel
theorem dX11_camp_82 : decode cX11_camp 82 = .ok (.aload_n 1, 1) := by decide +kernel
theorem dX11_camp_83 : decode cX11_camp 83 = .ok (.getfield 120, 3) := by decide +kernel
theorem dX11_camp_86 : decode cX11_camp 86 = .ok (.ireturn, 1) := by decide +kernel
theorem dX11_rule_0 : decode cX11_rule 0 = .ok (.aload_n 0, 1) := by decide +kernel
theorem dX11_rule_1 : decode cX11_rule 1 = .ok (.getfield 35, 3) := by decide +kernel
theorem dX11_rule_4 : decode cX11_rule 4 = .ok (.invokevirtual 123, 3) := by decide +kernel
theorem dX11_rule_7 : decode cX11_rule 7 = .ok (.ifCond .eq 5, 3) := by decide +kernel
theorem dX11_rule_10 : decode cX11_rule 10 = .ok (.iconst (-1), 1) := by decide +kernel
theorem dX11_rule_11 : decode cX11_rule 11 = .ok (.ireturn, 1) := by decide +kernel
theorem dX11_rule_12 : decode cX11_rule 12 = .ok (.aload_n 0, 1) := by decide +kernel
theorem dX11_rule_13 : decode cX11_rule 13 = .ok (.getfield 28, 3) := by decide +kernel
theorem dX11_rule_16 : decode cX11_rule 16 = .ok (.invokevirtual 126, 3) := by decide +kernel
theorem dX11_rule_19 : decode cX11_rule 19 = .ok (.aload_n 0, 1) := by decide +kernel
theorem dX11_rule_20 : decode cX11_rule 20 = .ok (.getfield 10, 3) := by decide +kernel
theorem dX11_rule_23 : decode cX11_rule 23 = .ok (.iconst 0, 1) := by decide +kernel
theorem dX11_rule_24 : decode cX11_rule 24 = .ok (.putfield 88, 3) := by decide +kernel
theorem dX11_rule_27 : decode cX11_rule 27 = .ok (.aload_n 0, 1) := by decide +kernel
theorem dX11_rule_28 : decode cX11_rule 28 = .ok (.getfield 10, 3) := by decide +kernel
theorem dX11_rule_31 : decode cX11_rule 31 = .ok (.getfield 100, 3) := by decide +kernel
theorem dX11_rule_34 : decode cX11_rule 34 = .ok (.ifCond .eq 14, 3) := by decide +kernel
theorem dX11_rule_37 : decode cX11_rule 37 = .ok (.bipush (-2), 2) := by decide +kernel
theorem dX11_rule_39 : decode cX11_rule 39 = .ok (.aload_n 0, 1) := by decide +kernel
theorem dX11_rule_40 : decode cX11_rule 40 = .ok (.getfield 10, 3) := by decide +kernel
theorem dX11_rule_43 : decode cX11_rule 43 = .ok (.getfield 100, 3) := by decide +kernel
theorem dX11_rule_46 : decode cX11_rule 46 = .ok (.isub, 1) := by decide +kernel
theorem dX11_rule_47 : decode cX11_rule 47 = .ok (.ireturn, 1) := by decide +kernel
theorem dX11_rule_48 : decode cX11_rule 48 = .ok (.aload_n 0, 1) := by decide +kernel
theorem dX11_rule_49 : decode cX11_rule 49 = .ok (.getfield 35, 3) := by decide +kernel
theorem dX11_rule_52 : decode cX11_rule 52 = .ok (.aload_n 0, 1) := by decide +kernel
theorem dX11_rule_53 : decode cX11_rule 53 = .ok (.getfield 28, 3) := by decide +kernel
theorem dX11_rule_56 : decode cX11_rule 56 = .ok (.getfield 128, 3) := by decide +kernel
theorem dX11_rule_59 : decode cX11_rule 59 = .ok (.aload_n 0, 1) := by decide +kernel
theorem dX11_rule_60 : decode cX11_rule 60 = .ok (.getfield 28, 3) := by decide +kernel
theorem dX11_rule_63 : decode cX11_rule 63 = .ok (.getfield 132, 3) := by decide +kernel
theorem dX11_rule_66 : decode cX11_rule 66 = .ok (.invokevirtual 133, 3) := by decide +kernel
theorem dX11_rule_69 : decode cX11_rule 69 = .ok (.ireturn, 1) := by decide +kernel
theorem dX11_force_0 : decode cX11_force 0 = .ok (.iload_n 1, 1) := by decide +kernel
theorem dX11_force_1 : decode cX11_force 1 = .ok (.iconst (-1), 1) := by decide +kernel
theorem dX11_force_2 : decode cX11_force 2 = .ok (.if_icmp .eq 17, 3) := by decide +kernel
theorem dX11_force_5 : decode cX11_force 5 = .ok (.aload_n 0, 1) := by decide +kernel
theorem dX11_force_6 : decode cX11_force 6 = .ok (.getfield 35, 3) := by decide +kernel
theorem dX11_force_9 : decode cX11_force 9 = .ok (.iload_n 1, 1) := by decide +kernel
theorem dX11_force_10 : decode cX11_force 10 = .ok (.invokevirtual 137, 3) := by decide +kernel
theorem dX11_force_13 : decode cX11_force 13 = .ok (.ifCond .ne 6, 3) := by decide +kernel
theorem dX11_force_16 : decode cX11_force 16 = .ok (.bipush (-2), 2) := by decide +kernel
theorem dX11_force_18 : decode cX11_force 18 = .ok (.ireturn, 1) := by decide +kernel
theorem dX11_force_19 : decode cX11_force 19 = .ok (.aload_n 0, 1) := by decide +kernel
theorem dX11_force_20 : decode cX11_force 20 = .ok (.getfield 42, 3) := by decide +kernel
theorem dX11_force_23 : decode cX11_force 23 = .ok (.getfield 141, 3) := by decide +kernel
theorem dX11_force_26 : decode cX11_force 26 = .ok (.istore_n 2, 1) := by decide +kernel
theorem dX11_force_27 : decode cX11_force 27 = .ok (.aload_n 0, 1) := by decide +kernel
theorem dX11_force_28 : decode cX11_force 28 = .ok (.getfield 42, 3) := by decide +kernel
theorem dX11_force_31 : decode cX11_force 31 = .ok (.iload_n 1, 1) := by decide +kernel
theorem dX11_force_32 : decode cX11_force 32 = .ok (.putfield 141, 3) := by decide +kernel
theorem dX11_force_35 : decode cX11_force 35 = .ok (.iload_n 2, 1) := by decide +kernel
theorem dX11_force_36 : decode cX11_force 36 = .ok (.ireturn, 1) := by decide +kernel
theorem dX11_tent_0 : decode cX11_tent 0 = .ok (.aload_n 0, 1) := by decide +kernel
theorem dX11_tent_1 : decode cX11_tent 1 = .ok (.getfield 42, 3) := by decide +kernel
theorem dX11_tent_4 : decode cX11_tent 4 = .ok (.getfield 111, 3) := by decide +kernel
theorem dX11_tent_7 : decode cX11_tent 7 = .ok (.astore_n 3, 1) := by decide +kernel
theorem dX11_tent_8 : decode cX11_tent 8 = .ok (.aload_n 3, 1) := by decide +kernel
theorem dX11_tent_9 : decode cX11_tent 9 = .ok (.iload_n 1, 1) := by decide +kernel
theorem dX11_tent_10 : decode cX11_tent 10 = .ok (.invokevirtual 144, 3) := by decide +kernel
theorem dX11_tent_13 : decode cX11_tent 13 = .ok (.ifCond .ne 5, 3) := by decide +kernel
theorem dX11_tent_16 : decode cX11_tent 16 = .ok (.iconst (-1), 1) := by decide +kernel
theorem dX11_tent_17 : decode cX11_tent 17 = .ok (.ireturn, 1) := by decide +kernel
theorem dX11_tent_18 : decode cX11_tent 18 = .ok (.iload_n 2, 1) := by decide +kernel
theorem dX11_tent_19 : decode cX11_tent 19 = .ok (.tableswitch 57 0 3 #[29, 36, 43, 50], 29) := by decide +kernel
theorem dX11_tent_48 : decode cX11_tent 48 = .ok (.aload_n 3, 1) := by decide +kernel
theorem dX11_tent_49 : decode cX11_tent 49 = .ok (.getfield 147, 3) := by decide +kernel
theorem dX11_tent_52 : decode cX11_tent 52 = .ok (.iload_n 1, 1) := by decide +kernel
theorem dX11_tent_53 : decode cX11_tent 53 = .ok (.iaload, 1) := by decide +kernel
theorem dX11_tent_54 : decode cX11_tent 54 = .ok (.ireturn, 1) := by decide +kernel
theorem dX11_tent_55 : decode cX11_tent 55 = .ok (.aload_n 3, 1) := by decide +kernel
theorem dX11_tent_56 : decode cX11_tent 56 = .ok (.getfield 150, 3) := by decide +kernel
theorem dX11_tent_59 : decode cX11_tent 59 = .ok (.iload_n 1, 1) := by decide +kernel
theorem dX11_tent_60 : decode cX11_tent 60 = .ok (.iaload, 1) := by decide +kernel
theorem dX11_tent_61 : decode cX11_tent 61 = .ok (.ireturn, 1) := by decide +kernel
theorem dX11_tent_62 : decode cX11_tent 62 = .ok (.aload_n 3, 1) := by decide +kernel
theorem dX11_tent_63 : decode cX11_tent 63 = .ok (.getfield 153, 3) := by decide +kernel
theorem dX11_tent_66 : decode cX11_tent 66 = .ok (.iload_n 1, 1) := by decide +kernel
theorem dX11_tent_67 : decode cX11_tent 67 = .ok (.iaload, 1) := by decide +kernel
theorem dX11_tent_68 : decode cX11_tent 68 = .ok (.ireturn, 1) := by decide +kernel
theorem dX11_tent_69 : decode cX11_tent 69 = .ok (.aload_n 3, 1) := by decide +kernel
theorem dX11_tent_70 : decode cX11_tent 70 = .ok (.getfield 156, 3) := by decide +kernel
theorem dX11_tent_73 : decode cX11_tent 73 = .ok (.iload_n 1, 1) := by decide +kernel
theorem dX11_tent_74 : decode cX11_tent 74 = .ok (.iaload, 1) := by decide +kernel
theorem dX11_tent_75 : decode cX11_tent 75 = .ok (.ireturn, 1) := by decide +kernel
theorem dX11_tent_76 : decode cX11_tent 76 = .ok (.iconst (-1), 1) := by decide +kernel
theorem dX11_tent_77 : decode cX11_tent 77 = .ok (.ireturn, 1) := by decide +kernel
theorem dX11_cell_0 : decode cX11_cell 0 = .ok (.aload_n 0, 1) := by decide +kernel
theorem dX11_cell_1 : decode cX11_cell 1 = .ok (.getfield 42, 3) := by decide +kernel
theorem dX11_cell_4 : decode cX11_cell 4 = .ok (.getfield 111, 3) := by decide +kernel
theorem dX11_cell_7 : decode cX11_cell 7 = .ok (.astore_n 3, 1) := by decide +kernel
theorem dX11_cell_8 : decode cX11_cell 8 = .ok (.aload_n 3, 1) := by decide +kernel
theorem dX11_cell_9 : decode cX11_cell 9 = .ok (.iload_n 1, 1) := by decide +kernel
theorem dX11_cell_10 : decode cX11_cell 10 = .ok (.invokevirtual 159, 3) := by decide +kernel
theorem dX11_cell_13 : decode cX11_cell 13 = .ok (.ifCond .ne 5, 3) := by decide +kernel
theorem dX11_cell_16 : decode cX11_cell 16 = .ok (.iconst (-1), 1) := by decide +kernel
theorem dX11_cell_17 : decode cX11_cell 17 = .ok (.ireturn, 1) := by decide +kernel
theorem dX11_cell_18 : decode cX11_cell 18 = .ok (.iload_n 2, 1) := by decide +kernel
theorem dX11_cell_19 : decode cX11_cell 19 = .ok (.tableswitch 52 0 2 #[25, 39, 46], 25) := by decide +kernel
theorem dX11_cell_44 : decode cX11_cell 44 = .ok (.aload_n 3, 1) := by decide +kernel
theorem dX11_cell_45 : decode cX11_cell 45 = .ok (.iload_n 1, 1) := by decide +kernel
theorem dX11_cell_46 : decode cX11_cell 46 = .ok (.invokevirtual 162, 3) := by decide +kernel
theorem dX11_cell_49 : decode cX11_cell 49 = .ok (.ifCond .eq 7, 3) := by decide +kernel
theorem dX11_cell_52 : decode cX11_cell 52 = .ok (.iconst 0, 1) := by decide +kernel
theorem dX11_cell_53 : decode cX11_cell 53 = .ok (.goto 4, 3) := by decide +kernel
theorem dX11_cell_56 : decode cX11_cell 56 = .ok (.iconst 1, 1) := by decide +kernel
theorem dX11_cell_57 : decode cX11_cell 57 = .ok (.ireturn, 1) := by decide +kernel
theorem dX11_cell_58 : decode cX11_cell 58 = .ok (.aload_n 3, 1) := by decide +kernel
theorem dX11_cell_59 : decode cX11_cell 59 = .ok (.getfield 165, 3) := by decide +kernel
theorem dX11_cell_62 : decode cX11_cell 62 = .ok (.iload_n 1, 1) := by decide +kernel
theorem dX11_cell_63 : decode cX11_cell 63 = .ok (.iaload, 1) := by decide +kernel
theorem dX11_cell_64 : decode cX11_cell 64 = .ok (.ireturn, 1) := by decide +kernel
theorem dX11_cell_65 : decode cX11_cell 65 = .ok (.aload_n 3, 1) := by decide +kernel
theorem dX11_cell_66 : decode cX11_cell 66 = .ok (.iload_n 1, 1) := by decide +kernel
theorem dX11_cell_67 : decode cX11_cell 67 = .ok (.invokevirtual 168, 3) := by decide +kernel
theorem dX11_cell_70 : decode cX11_cell 70 = .ok (.ireturn, 1) := by decide +kernel
theorem dX11_cell_71 : decode cX11_cell 71 = .ok (.iconst (-1), 1) := by decide +kernel
theorem dX11_cell_72 : decode cX11_cell 72 = .ok (.ireturn, 1) := by decide +kernel
theorem dX11_count_0 : decode cX11_count 0 = .ok (.aload_n 0, 1) := by decide +kernel
theorem dX11_count_1 : decode cX11_count 1 = .ok (.getfield 42, 3) := by decide +kernel
theorem dX11_count_4 : decode cX11_count 4 = .ok (.getfield 111, 3) := by decide +kernel
theorem dX11_count_7 : decode cX11_count 7 = .ok (.astore_n 2, 1) := by decide +kernel
theorem dX11_count_8 : decode cX11_count 8 = .ok (.iload_n 1, 1) := by decide +kernel
theorem dX11_count_9 : decode cX11_count 9 = .ok (.tableswitch 173 0 13 #[71, 76, 81, 89, 97, 102, 118, 123, 128, 133, 141, 149, 157, 165], 71) := by decide +kernel
theorem dX11_count_80 : decode cX11_count 80 = .ok (.aload_n 2, 1) := by decide +kernel
theorem dX11_count_81 : decode cX11_count 81 = .ok (.getfield 172, 3) := by decide +kernel
theorem dX11_count_84 : decode cX11_count 84 = .ok (.ireturn, 1) := by decide +kernel
theorem dX11_count_85 : decode cX11_count 85 = .ok (.aload_n 2, 1) := by decide +kernel
theorem dX11_count_86 : decode cX11_count 86 = .ok (.getfield 120, 3) := by decide +kernel
theorem dX11_count_89 : decode cX11_count 89 = .ok (.ireturn, 1) := by decide +kernel
theorem dX11_count_90 : decode cX11_count 90 = .ok (.aload_n 0, 1) := by decide +kernel
theorem dX11_count_91 : decode cX11_count 91 = .ok (.getfield 35, 3) := by decide +kernel
theorem dX11_count_94 : decode cX11_count 94 = .ok (.getfield 175, 3) := by decide +kernel
theorem dX11_count_97 : decode cX11_count 97 = .ok (.ireturn, 1) := by decide +kernel
theorem dX11_count_98 : decode cX11_count 98 = .ok (.aload_n 0, 1) := by decide +kernel
theorem dX11_count_99 : decode cX11_count 99 = .ok (.getfield 42, 3) := by decide +kernel
theorem dX11_count_102 : decode cX11_count 102 = .ok (.getfield 141, 3) := by decide +kernel
theorem dX11_count_105 : decode cX11_count 105 = .ok (.ireturn, 1) := by decide +kernel
theorem dX11_count_106 : decode cX11_count 106 = .ok (.aload_n 2, 1) := by decide +kernel
theorem dX11_count_107 : decode cX11_count 107 = .ok (.getfield 176, 3) := by decide +kernel
theorem dX11_count_110 : decode cX11_count 110 = .ok (.ireturn, 1) := by decide +kernel
theorem dX11_count_111 : decode cX11_count 111 = .ok (.aload_n 2, 1) := by decide +kernel
theorem dX11_count_112 : decode cX11_count 112 = .ok (.invokevirtual 179, 3) := by decide +kernel
theorem dX11_count_115 : decode cX11_count 115 = .ok (.ifCond .eq 10, 3) := by decide +kernel
theorem dX11_count_118 : decode cX11_count 118 = .ok (.aload_n 2, 1) := by decide +kernel
theorem dX11_count_119 : decode cX11_count 119 = .ok (.getfield 182, 3) := by decide +kernel
theorem dX11_count_122 : decode cX11_count 122 = .ok (.goto 4, 3) := by decide +kernel
theorem dX11_count_125 : decode cX11_count 125 = .ok (.iconst (-1), 1) := by decide +kernel
theorem dX11_count_126 : decode cX11_count 126 = .ok (.ireturn, 1) := by decide +kernel
theorem dX11_count_127 : decode cX11_count 127 = .ok (.aload_n 2, 1) := by decide +kernel
theorem dX11_count_128 : decode cX11_count 128 = .ok (.getfield 185, 3) := by decide +kernel
theorem dX11_count_131 : decode cX11_count 131 = .ok (.ireturn, 1) := by decide +kernel
theorem dX11_count_132 : decode cX11_count 132 = .ok (.aload_n 2, 1) := by decide +kernel
theorem dX11_count_133 : decode cX11_count 133 = .ok (.invokevirtual 188, 3) := by decide +kernel
theorem dX11_count_136 : decode cX11_count 136 = .ok (.ireturn, 1) := by decide +kernel
theorem dX11_count_137 : decode cX11_count 137 = .ok (.aload_n 2, 1) := by decide +kernel
theorem dX11_count_138 : decode cX11_count 138 = .ok (.invokevirtual 192, 3) := by decide +kernel
theorem dX11_count_141 : decode cX11_count 141 = .ok (.ireturn, 1) := by decide +kernel
theorem dX11_count_142 : decode cX11_count 142 = .ok (.aload_n 2, 1) := by decide +kernel
theorem dX11_count_143 : decode cX11_count 143 = .ok (.getfield 195, 3) := by decide +kernel
theorem dX11_count_146 : decode cX11_count 146 = .ok (.invokestatic 199, 3) := by decide +kernel
theorem dX11_count_149 : decode cX11_count 149 = .ok (.ireturn, 1) := by decide +kernel
theorem dX11_count_150 : decode cX11_count 150 = .ok (.aload_n 0, 1) := by decide +kernel
theorem dX11_count_151 : decode cX11_count 151 = .ok (.getfield 42, 3) := by decide +kernel
theorem dX11_count_154 : decode cX11_count 154 = .ok (.getfield 114, 3) := by decide +kernel
theorem dX11_count_157 : decode cX11_count 157 = .ok (.ireturn, 1) := by decide +kernel
theorem dX11_count_158 : decode cX11_count 158 = .ok (.aload_n 0, 1) := by decide +kernel
theorem dX11_count_159 : decode cX11_count 159 = .ok (.getfield 53, 3) := by decide +kernel
theorem dX11_count_162 : decode cX11_count 162 = .ok (.getfield 205, 3) := by decide +kernel
theorem dX11_count_165 : decode cX11_count 165 = .ok (.ireturn, 1) := by decide +kernel
theorem dX11_count_166 : decode cX11_count 166 = .ok (.aload_n 0, 1) := by decide +kernel
theorem dX11_count_167 : decode cX11_count 167 = .ok (.getfield 42, 3) := by decide +kernel
theorem dX11_count_170 : decode cX11_count 170 = .ok (.getfield 208, 3) := by decide +kernel
theorem dX11_count_173 : decode cX11_count 173 = .ok (.ireturn, 1) := by decide +kernel
theorem dX11_count_174 : decode cX11_count 174 = .ok (.aload_n 0, 1) := by decide +kernel
theorem dX11_count_175 : decode cX11_count 175 = .ok (.getfield 10, 3) := by decide +kernel
theorem dX11_count_178 : decode cX11_count 178 = .ok (.getfield 88, 3) := by decide +kernel
theorem dX11_count_181 : decode cX11_count 181 = .ok (.ireturn, 1) := by decide +kernel
theorem dX11_count_182 : decode cX11_count 182 = .ok (.iconst (-1), 1) := by decide +kernel
theorem dX11_count_183 : decode cX11_count 183 = .ok (.ireturn, 1) := by decide +kernel
theorem dX11_step_0 : decode cX11_step 0 = .ok (.aload_n 0, 1) := by decide +kernel
theorem dX11_step_1 : decode cX11_step 1 = .ok (.getfield 42, 3) := by decide +kernel
theorem dX11_step_4 : decode cX11_step 4 = .ok (.getfield 111, 3) := by decide +kernel
theorem dX11_step_7 : decode cX11_step 7 = .ok (.astore_n 1, 1) := by decide +kernel
theorem dX11_step_8 : decode cX11_step 8 = .ok (.aload_n 1, 1) := by decide +kernel
theorem dX11_step_9 : decode cX11_step 9 = .ok (.invokevirtual 179, 3) := by decide +kernel
theorem dX11_step_12 : decode cX11_step 12 = .ok (.ifCond .eq 13, 3) := by decide +kernel
theorem dX11_step_15 : decode cX11_step 15 = .ok (.aload_n 1, 1) := by decide +kernel
theorem dX11_step_16 : decode cX11_step 16 = .ok (.getfield 176, 3) := by decide +kernel
theorem dX11_step_19 : decode cX11_step 19 = .ok (.sipush 999, 3) := by decide +kernel
theorem dX11_step_22 : decode cX11_step 22 = .ok (.if_icmp .lt 5, 3) := by decide +kernel
theorem dX11_step_25 : decode cX11_step 25 = .ok (.iconst (-1), 1) := by decide +kernel
theorem dX11_step_26 : decode cX11_step 26 = .ok (.ireturn, 1) := by decide +kernel
theorem dX11_step_27 : decode cX11_step 27 = .ok (.aload_n 0, 1) := by decide +kernel
theorem dX11_step_28 : decode cX11_step 28 = .ok (.getfield 53, 3) := by decide +kernel
theorem dX11_step_31 : decode cX11_step 31 = .ok (.aload_n 1, 1) := by decide +kernel
theorem dX11_step_32 : decode cX11_step 32 = .ok (.invokevirtual 211, 3) := by decide +kernel
theorem dX11_step_35 : decode cX11_step 35 = .ok (.aload_n 0, 1) := by decide +kernel
theorem dX11_step_36 : decode cX11_step 36 = .ok (.getfield 35, 3) := by decide +kernel
theorem dX11_step_39 : decode cX11_step 39 = .ok (.aload_n 1, 1) := by decide +kernel
theorem dX11_step_40 : decode cX11_step 40 = .ok (.aload_n 0, 1) := by decide +kernel
theorem dX11_step_41 : decode cX11_step 41 = .ok (.getfield 42, 3) := by decide +kernel
theorem dX11_step_44 : decode cX11_step 44 = .ok (.getfield 141, 3) := by decide +kernel
theorem dX11_step_47 : decode cX11_step 47 = .ok (.iconst 1, 1) := by decide +kernel
theorem dX11_step_48 : decode cX11_step 48 = .ok (.invokevirtual 214, 3) := by decide +kernel
theorem dX11_step_51 : decode cX11_step 51 = .ok (.aload_n 1, 1) := by decide +kernel
theorem dX11_step_52 : decode cX11_step 52 = .ok (.getfield 182, 3) := by decide +kernel
theorem dX11_step_55 : decode cX11_step 55 = .ok (.ireturn, 1) := by decide +kernel
theorem dX11_whistle_0 : decode cX11_whistle 0 = .ok (.aload_n 0, 1) := by decide +kernel
theorem dX11_whistle_1 : decode cX11_whistle 1 = .ok (.getfield 42, 3) := by decide +kernel
theorem dX11_whistle_4 : decode cX11_whistle 4 = .ok (.getfield 111, 3) := by decide +kernel
theorem dX11_whistle_7 : decode cX11_whistle 7 = .ok (.astore_n 2, 1) := by decide +kernel
theorem dX11_whistle_8 : decode cX11_whistle 8 = .ok (.aload_n 2, 1) := by decide +kernel
theorem dX11_whistle_9 : decode cX11_whistle 9 = .ok (.iload_n 1, 1) := by decide +kernel
theorem dX11_whistle_10 : decode cX11_whistle 10 = .ok (.invokevirtual 159, 3) := by decide +kernel
theorem dX11_whistle_13 : decode cX11_whistle 13 = .ok (.ifCond .ne 5, 3) := by decide +kernel
theorem dX11_whistle_16 : decode cX11_whistle 16 = .ok (.iconst (-1), 1) := by decide +kernel
theorem dX11_whistle_17 : decode cX11_whistle 17 = .ok (.ireturn, 1) := by decide +kernel
theorem dX11_whistle_18 : decode cX11_whistle 18 = .ok (.aload_n 2, 1) := by decide +kernel
theorem dX11_whistle_19 : decode cX11_whistle 19 = .ok (.lconst 1, 1) := by decide +kernel
theorem dX11_whistle_20 : decode cX11_whistle 20 = .ok (.iload_n 1, 1) := by decide +kernel
theorem dX11_whistle_21 : decode cX11_whistle 21 = .ok (.lshl, 1) := by decide +kernel
theorem dX11_whistle_22 : decode cX11_whistle 22 = .ok (.invokevirtual 218, 3) := by decide +kernel
theorem dX11_whistle_25 : decode cX11_whistle 25 = .ok (.istore_n 3, 1) := by decide +kernel
theorem dX11_whistle_26 : decode cX11_whistle 26 = .ok (.iload_n 3, 1) := by decide +kernel
theorem dX11_whistle_27 : decode cX11_whistle 27 = .ok (.aload_n 2, 1) := by decide +kernel
theorem dX11_whistle_28 : decode cX11_whistle 28 = .ok (.getfield 182, 3) := by decide +kernel
theorem dX11_whistle_31 : decode cX11_whistle 31 = .ok (.if_icmp .ne 5, 3) := by decide +kernel
theorem dX11_whistle_34 : decode cX11_whistle 34 = .ok (.iconst (-1), 1) := by decide +kernel
theorem dX11_whistle_35 : decode cX11_whistle 35 = .ok (.ireturn, 1) := by decide +kernel
theorem dX11_whistle_36 : decode cX11_whistle 36 = .ok (.aload_n 0, 1) := by decide +kernel
theorem dX11_whistle_37 : decode cX11_whistle 37 = .ok (.getfield 53, 3) := by decide +kernel
theorem dX11_whistle_40 : decode cX11_whistle 40 = .ok (.aload_n 2, 1) := by decide +kernel
theorem dX11_whistle_41 : decode cX11_whistle 41 = .ok (.invokevirtual 211, 3) := by decide +kernel
theorem dX11_whistle_44 : decode cX11_whistle 44 = .ok (.aload_n 2, 1) := by decide +kernel
theorem dX11_whistle_45 : decode cX11_whistle 45 = .ok (.iload_n 3, 1) := by decide +kernel
theorem dX11_whistle_46 : decode cX11_whistle 46 = .ok (.putfield 182, 3) := by decide +kernel
theorem dX11_whistle_49 : decode cX11_whistle 49 = .ok (.iload_n 3, 1) := by decide +kernel
theorem dX11_whistle_50 : decode cX11_whistle 50 = .ok (.ireturn, 1) := by decide +kernel
theorem dX11_pitch_0 : decode cX11_pitch 0 = .ok (.aload_n 0, 1) := by decide +kernel
theorem dX11_pitch_1 : decode cX11_pitch 1 = .ok (.getfield 42, 3) := by decide +kernel
theorem dX11_pitch_4 : decode cX11_pitch 4 = .ok (.getfield 111, 3) := by decide +kernel
theorem dX11_pitch_7 : decode cX11_pitch 7 = .ok (.astore_n 3, 1) := by decide +kernel
theorem dX11_pitch_8 : decode cX11_pitch 8 = .ok (.aload_n 3, 1) := by decide +kernel
theorem dX11_pitch_9 : decode cX11_pitch 9 = .ok (.iload_n 1, 1) := by decide +kernel
theorem dX11_pitch_10 : decode cX11_pitch 10 = .ok (.invokevirtual 144, 3) := by decide +kernel
theorem dX11_pitch_13 : decode cX11_pitch 13 = .ok (.ifCond .eq 21, 3) := by decide +kernel
theorem dX11_pitch_16 : decode cX11_pitch 16 = .ok (.aload_n 3, 1) := by decide +kernel
theorem dX11_pitch_17 : decode cX11_pitch 17 = .ok (.iload_n 2, 1) := by decide +kernel
theorem dX11_pitch_18 : decode cX11_pitch 18 = .ok (.invokevirtual 159, 3) := by decide +kernel
theorem dX11_pitch_21 : decode cX11_pitch 21 = .ok (.ifCond .eq 13, 3) := by decide +kernel
theorem dX11_pitch_24 : decode cX11_pitch 24 = .ok (.aload_n 3, 1) := by decide +kernel
theorem dX11_pitch_25 : decode cX11_pitch 25 = .ok (.getfield 147, 3) := by decide +kernel
theorem dX11_pitch_28 : decode cX11_pitch 28 = .ok (.iload_n 1, 1) := by decide +kernel
theorem dX11_pitch_29 : decode cX11_pitch 29 = .ok (.iaload, 1) := by decide +kernel
theorem dX11_pitch_30 : decode cX11_pitch 30 = .ok (.iload_n 2, 1) := by decide +kernel
theorem dX11_pitch_31 : decode cX11_pitch 31 = .ok (.if_icmp .ne 5, 3) := by decide +kernel
theorem dX11_pitch_34 : decode cX11_pitch 34 = .ok (.iconst (-1), 1) := by decide +kernel
theorem dX11_pitch_35 : decode cX11_pitch 35 = .ok (.ireturn, 1) := by decide +kernel
theorem dX11_pitch_36 : decode cX11_pitch 36 = .ok (.aload_n 0, 1) := by decide +kernel
theorem dX11_pitch_37 : decode cX11_pitch 37 = .ok (.getfield 53, 3) := by decide +kernel
theorem dX11_pitch_40 : decode cX11_pitch 40 = .ok (.aload_n 3, 1) := by decide +kernel
theorem dX11_pitch_41 : decode cX11_pitch 41 = .ok (.invokevirtual 211, 3) := by decide +kernel
theorem dX11_pitch_44 : decode cX11_pitch 44 = .ok (.aload_n 3, 1) := by decide +kernel
theorem dX11_pitch_45 : decode cX11_pitch 45 = .ok (.getfield 147, 3) := by decide +kernel
theorem dX11_pitch_48 : decode cX11_pitch 48 = .ok (.iload_n 1, 1) := by decide +kernel
theorem dX11_pitch_49 : decode cX11_pitch 49 = .ok (.iaload, 1) := by decide +kernel
theorem dX11_pitch_50 : decode cX11_pitch 50 = .ok (.istore 4, 2) := by decide +kernel
theorem dX11_pitch_52 : decode cX11_pitch 52 = .ok (.aload_n 3, 1) := by decide +kernel
theorem dX11_pitch_53 : decode cX11_pitch 53 = .ok (.getfield 147, 3) := by decide +kernel
theorem dX11_pitch_56 : decode cX11_pitch 56 = .ok (.iload_n 1, 1) := by decide +kernel
theorem dX11_pitch_57 : decode cX11_pitch 57 = .ok (.iload_n 2, 1) := by decide +kernel
theorem dX11_pitch_58 : decode cX11_pitch 58 = .ok (.iastore, 1) := by decide +kernel
theorem dX11_pitch_59 : decode cX11_pitch 59 = .ok (.iload 4, 2) := by decide +kernel
theorem dX11_pitch_61 : decode cX11_pitch 61 = .ok (.ireturn, 1) := by decide +kernel
theorem dX11_steady_0 : decode cX11_steady 0 = .ok (.aload_n 0, 1) := by decide +kernel
theorem dX11_steady_1 : decode cX11_steady 1 = .ok (.getfield 42, 3) := by decide +kernel
theorem dX11_steady_4 : decode cX11_steady 4 = .ok (.getfield 111, 3) := by decide +kernel
theorem dX11_steady_7 : decode cX11_steady 7 = .ok (.astore_n 3, 1) := by decide +kernel
theorem dX11_steady_8 : decode cX11_steady 8 = .ok (.aload_n 3, 1) := by decide +kernel
theorem dX11_steady_9 : decode cX11_steady 9 = .ok (.iload_n 1, 1) := by decide +kernel
theorem dX11_steady_10 : decode cX11_steady 10 = .ok (.invokevirtual 144, 3) := by decide +kernel
theorem dX11_steady_13 : decode cX11_steady 13 = .ok (.ifCond .eq 14, 3) := by decide +kernel
theorem dX11_steady_16 : decode cX11_steady 16 = .ok (.iload_n 2, 1) := by decide +kernel
theorem dX11_steady_17 : decode cX11_steady 17 = .ok (.iconst 1, 1) := by decide +kernel
theorem dX11_steady_18 : decode cX11_steady 18 = .ok (.if_icmp .lt 9, 3) := by decide +kernel
theorem dX11_steady_21 : decode cX11_steady 21 = .ok (.iload_n 2, 1) := by decide +kernel
theorem dX11_steady_22 : decode cX11_steady 22 = .ok (.bipush 9, 2) := by decide +kernel
theorem dX11_steady_24 : decode cX11_steady 24 = .ok (.if_icmp .le 5, 3) := by decide +kernel
theorem dX11_steady_27 : decode cX11_steady 27 = .ok (.iconst (-1), 1) := by decide +kernel
theorem dX11_steady_28 : decode cX11_steady 28 = .ok (.ireturn, 1) := by decide +kernel
theorem dX11_steady_29 : decode cX11_steady 29 = .ok (.aload_n 0, 1) := by decide +kernel
theorem dX11_steady_30 : decode cX11_steady 30 = .ok (.getfield 53, 3) := by decide +kernel
theorem dX11_steady_33 : decode cX11_steady 33 = .ok (.aload_n 3, 1) := by decide +kernel
theorem dX11_steady_34 : decode cX11_steady 34 = .ok (.invokevirtual 211, 3) := by decide +kernel
theorem dX11_steady_37 : decode cX11_steady 37 = .ok (.aload_n 3, 1) := by decide +kernel
theorem dX11_steady_38 : decode cX11_steady 38 = .ok (.getfield 150, 3) := by decide +kernel
theorem dX11_steady_41 : decode cX11_steady 41 = .ok (.iload_n 1, 1) := by decide +kernel
theorem dX11_steady_42 : decode cX11_steady 42 = .ok (.aload_n 3, 1) := by decide +kernel
theorem dX11_steady_43 : decode cX11_steady 43 = .ok (.getfield 150, 3) := by decide +kernel
theorem dX11_steady_46 : decode cX11_steady 46 = .ok (.iload_n 1, 1) := by decide +kernel
theorem dX11_steady_47 : decode cX11_steady 47 = .ok (.iaload, 1) := by decide +kernel
theorem dX11_steady_48 : decode cX11_steady 48 = .ok (.iload_n 2, 1) := by decide +kernel
theorem dX11_steady_49 : decode cX11_steady 49 = .ok (.iadd, 1) := by decide +kernel
theorem dX11_steady_50 : decode cX11_steady 50 = .ok (.bipush 99, 2) := by decide +kernel
theorem dX11_steady_52 : decode cX11_steady 52 = .ok (.invokestatic 221, 3) := by decide +kernel
theorem dX11_steady_55 : decode cX11_steady 55 = .ok (.iastore, 1) := by decide +kernel
theorem dX11_steady_56 : decode cX11_steady 56 = .ok (.aload_n 3, 1) := by decide +kernel
theorem dX11_steady_57 : decode cX11_steady 57 = .ok (.getfield 150, 3) := by decide +kernel
theorem dX11_steady_60 : decode cX11_steady 60 = .ok (.iload_n 1, 1) := by decide +kernel
theorem dX11_steady_61 : decode cX11_steady 61 = .ok (.iaload, 1) := by decide +kernel
theorem dX11_steady_62 : decode cX11_steady 62 = .ok (.ireturn, 1) := by decide +kernel
theorem dX11_bush_0 : decode cX11_bush 0 = .ok (.aload_n 0, 1) := by decide +kernel
theorem dX11_bush_1 : decode cX11_bush 1 = .ok (.getfield 42, 3) := by decide +kernel
theorem dX11_bush_4 : decode cX11_bush 4 = .ok (.getfield 111, 3) := by decide +kernel
theorem dX11_bush_7 : decode cX11_bush 7 = .ok (.astore_n 2, 1) := by decide +kernel
theorem dX11_bush_8 : decode cX11_bush 8 = .ok (.aload_n 2, 1) := by decide +kernel
theorem dX11_bush_9 : decode cX11_bush 9 = .ok (.iload_n 1, 1) := by decide +kernel
theorem dX11_bush_10 : decode cX11_bush 10 = .ok (.invokevirtual 159, 3) := by decide +kernel
theorem dX11_bush_13 : decode cX11_bush 13 = .ok (.ifCond .ne 5, 3) := by decide +kernel
theorem dX11_bush_16 : decode cX11_bush 16 = .ok (.iconst (-1), 1) := by decide +kernel
theorem dX11_bush_17 : decode cX11_bush 17 = .ok (.ireturn, 1) := by decide +kernel
theorem dX11_bush_18 : decode cX11_bush 18 = .ok (.aload_n 0, 1) := by decide +kernel
theorem dX11_bush_19 : decode cX11_bush 19 = .ok (.getfield 53, 3) := by decide +kernel
theorem dX11_bush_22 : decode cX11_bush 22 = .ok (.aload_n 2, 1) := by decide +kernel
theorem dX11_bush_23 : decode cX11_bush 23 = .ok (.invokevirtual 211, 3) := by decide +kernel
theorem dX11_bush_26 : decode cX11_bush 26 = .ok (.aload_n 2, 1) := by decide +kernel
theorem dX11_bush_27 : decode cX11_bush 27 = .ok (.dup, 1) := by decide +kernel
theorem dX11_bush_28 : decode cX11_bush 28 = .ok (.getfield 195, 3) := by decide +kernel
theorem dX11_bush_31 : decode cX11_bush 31 = .ok (.lconst 1, 1) := by decide +kernel
theorem dX11_bush_32 : decode cX11_bush 32 = .ok (.iload_n 1, 1) := by decide +kernel
theorem dX11_bush_33 : decode cX11_bush 33 = .ok (.lshl, 1) := by decide +kernel
theorem dX11_bush_34 : decode cX11_bush 34 = .ok (.lxor, 1) := by decide +kernel
theorem dX11_bush_35 : decode cX11_bush 35 = .ok (.putfield 195, 3) := by decide +kernel
theorem dX11_bush_38 : decode cX11_bush 38 = .ok (.aload_n 2, 1) := by decide +kernel
theorem dX11_bush_39 : decode cX11_bush 39 = .ok (.iload_n 1, 1) := by decide +kernel
theorem dX11_bush_40 : decode cX11_bush 40 = .ok (.invokevirtual 162, 3) := by decide +kernel
theorem dX11_bush_43 : decode cX11_bush 43 = .ok (.ifCond .eq 7, 3) := by decide +kernel
theorem dX11_bush_46 : decode cX11_bush 46 = .ok (.iconst 0, 1) := by decide +kernel
theorem dX11_bush_47 : decode cX11_bush 47 = .ok (.goto 4, 3) := by decide +kernel
theorem dX11_bush_50 : decode cX11_bush 50 = .ok (.iconst 1, 1) := by decide +kernel
theorem dX11_bush_51 : decode cX11_bush 51 = .ok (.ireturn, 1) := by decide +kernel
theorem dX11_undo_0 : decode cX11_undo 0 = .ok (.aload_n 0, 1) := by decide +kernel
theorem dX11_undo_1 : decode cX11_undo 1 = .ok (.getfield 53, 3) := by decide +kernel
theorem dX11_undo_4 : decode cX11_undo 4 = .ok (.getfield 205, 3) := by decide +kernel
theorem dX11_undo_7 : decode cX11_undo 7 = .ok (.ifCond .ne 5, 3) := by decide +kernel
theorem dX11_undo_10 : decode cX11_undo 10 = .ok (.iconst (-1), 1) := by decide +kernel
theorem dX11_undo_11 : decode cX11_undo 11 = .ok (.ireturn, 1) := by decide +kernel
theorem dX11_undo_12 : decode cX11_undo 12 = .ok (.aload_n 0, 1) := by decide +kernel
theorem dX11_undo_13 : decode cX11_undo 13 = .ok (.getfield 53, 3) := by decide +kernel
theorem dX11_undo_16 : decode cX11_undo 16 = .ok (.aload_n 0, 1) := by decide +kernel
theorem dX11_undo_17 : decode cX11_undo 17 = .ok (.getfield 42, 3) := by decide +kernel
theorem dX11_undo_20 : decode cX11_undo 20 = .ok (.getfield 111, 3) := by decide +kernel
theorem dX11_undo_23 : decode cX11_undo 23 = .ok (.invokevirtual 227, 3) := by decide +kernel
theorem dX11_undo_26 : decode cX11_undo 26 = .ok (.aload_n 0, 1) := by decide +kernel
theorem dX11_undo_27 : decode cX11_undo 27 = .ok (.getfield 53, 3) := by decide +kernel
theorem dX11_undo_30 : decode cX11_undo 30 = .ok (.getfield 205, 3) := by decide +kernel
theorem dX11_undo_33 : decode cX11_undo 33 = .ok (.ireturn, 1) := by decide +kernel
theorem dX11_ahead_0 : decode cX11_ahead 0 = .ok (.aload_n 0, 1) := by decide +kernel
theorem dX11_ahead_1 : decode cX11_ahead 1 = .ok (.getfield 42, 3) := by decide +kernel
theorem dX11_ahead_4 : decode cX11_ahead 4 = .ok (.getfield 111, 3) := by decide +kernel
theorem dX11_ahead_7 : decode cX11_ahead 7 = .ok (.astore 4, 2) := by decide +kernel
theorem dX11_ahead_9 : decode cX11_ahead 9 = .ok (.aload 4, 2) := by decide +kernel
theorem dX11_ahead_11 : decode cX11_ahead 11 = .ok (.invokevirtual 179, 3) := by decide +kernel
theorem dX11_ahead_14 : decode cX11_ahead 14 = .ok (.ifCond .eq 22, 3) := by decide +kernel
theorem dX11_ahead_17 : decode cX11_ahead 17 = .ok (.iload_n 2, 1) := by decide +kernel
theorem dX11_ahead_18 : decode cX11_ahead 18 = .ok (.ifCond .lt 18, 3) := by decide +kernel
theorem dX11_ahead_21 : decode cX11_ahead 21 = .ok (.iload_n 2, 1) := by decide +kernel
theorem dX11_ahead_22 : decode cX11_ahead 22 = .ok (.bipush 100, 2) := by decide +kernel
theorem dX11_ahead_24 : decode cX11_ahead 24 = .ok (.if_icmp .gt 12, 3) := by decide +kernel
theorem dX11_ahead_27 : decode cX11_ahead 27 = .ok (.iload_n 3, 1) := by decide +kernel
theorem dX11_ahead_28 : decode cX11_ahead 28 = .ok (.ifCond .lt 8, 3) := by decide +kernel
theorem dX11_ahead_31 : decode cX11_ahead 31 = .ok (.iload_n 3, 1) := by decide +kernel
theorem dX11_ahead_32 : decode cX11_ahead 32 = .ok (.iconst 2, 1) := by decide +kernel
theorem dX11_ahead_33 : decode cX11_ahead 33 = .ok (.if_icmp .le 5, 3) := by decide +kernel
theorem dX11_ahead_36 : decode cX11_ahead 36 = .ok (.iconst (-1), 1) := by decide +kernel
theorem dX11_ahead_37 : decode cX11_ahead 37 = .ok (.ireturn, 1) := by decide +kernel
theorem dX11_ahead_38 : decode cX11_ahead 38 = .ok (.iload_n 3, 1) := by decide +kernel
theorem dX11_ahead_39 : decode cX11_ahead 39 = .ok (.ifCond .eq 14, 3) := by decide +kernel
theorem dX11_ahead_42 : decode cX11_ahead 42 = .ok (.aload 4, 2) := by decide +kernel
theorem dX11_ahead_44 : decode cX11_ahead 44 = .ok (.iload_n 1, 1) := by decide +kernel
theorem dX11_ahead_45 : decode cX11_ahead 45 = .ok (.invokevirtual 144, 3) := by decide +kernel
theorem dX11_ahead_48 : decode cX11_ahead 48 = .ok (.ifCond .ne 5, 3) := by decide +kernel
theorem dX11_ahead_51 : decode cX11_ahead 51 = .ok (.iconst (-1), 1) := by decide +kernel
theorem dX11_ahead_52 : decode cX11_ahead 52 = .ok (.ireturn, 1) := by decide +kernel
theorem dX11_ahead_53 : decode cX11_ahead 53 = .ok (.aload_n 0, 1) := by decide +kernel
theorem dX11_ahead_54 : decode cX11_ahead 54 = .ok (.getfield 62, 3) := by decide +kernel
theorem dX11_ahead_57 : decode cX11_ahead 57 = .ok (.aload_n 0, 1) := by decide +kernel
theorem dX11_ahead_58 : decode cX11_ahead 58 = .ok (.getfield 42, 3) := by decide +kernel
theorem dX11_ahead_61 : decode cX11_ahead 61 = .ok (.iload_n 2, 1) := by decide +kernel
theorem dX11_ahead_62 : decode cX11_ahead 62 = .ok (.invokevirtual 230, 3) := by decide +kernel
theorem dX11_ahead_65 : decode cX11_ahead 65 = .ok (.astore 5, 2) := by decide +kernel
theorem dX11_ahead_67 : decode cX11_ahead 67 = .ok (.iload_n 3, 1) := by decide +kernel
theorem dX11_ahead_68 : decode cX11_ahead 68 = .ok (.ifCond .ne 9, 3) := by decide +kernel
theorem dX11_ahead_71 : decode cX11_ahead 71 = .ok (.aload 5, 2) := by decide +kernel
theorem dX11_ahead_73 : decode cX11_ahead 73 = .ok (.getfield 182, 3) := by decide +kernel
theorem dX11_ahead_76 : decode cX11_ahead 76 = .ok (.ireturn, 1) := by decide +kernel
theorem dX11_ahead_77 : decode cX11_ahead 77 = .ok (.iload_n 3, 1) := by decide +kernel
theorem dX11_ahead_78 : decode cX11_ahead 78 = .ok (.iconst 1, 1) := by decide +kernel
theorem dX11_ahead_79 : decode cX11_ahead 79 = .ok (.if_icmp .ne 13, 3) := by decide +kernel
theorem dX11_ahead_82 : decode cX11_ahead 82 = .ok (.aload 5, 2) := by decide +kernel
theorem dX11_ahead_84 : decode cX11_ahead 84 = .ok (.getfield 153, 3) := by decide +kernel
theorem dX11_ahead_87 : decode cX11_ahead 87 = .ok (.iload_n 1, 1) := by decide +kernel
theorem dX11_ahead_88 : decode cX11_ahead 88 = .ok (.iaload, 1) := by decide +kernel
theorem dX11_ahead_89 : decode cX11_ahead 89 = .ok (.goto 10, 3) := by decide +kernel
theorem dX11_ahead_92 : decode cX11_ahead 92 = .ok (.aload 5, 2) := by decide +kernel
theorem dX11_ahead_94 : decode cX11_ahead 94 = .ok (.getfield 156, 3) := by decide +kernel
theorem dX11_ahead_97 : decode cX11_ahead 97 = .ok (.iload_n 1, 1) := by decide +kernel
theorem dX11_ahead_98 : decode cX11_ahead 98 = .ok (.iaload, 1) := by decide +kernel
theorem dX11_ahead_99 : decode cX11_ahead 99 = .ok (.ireturn, 1) := by decide +kernel
theorem dX11_first_0 : decode cX11_first 0 = .ok (.aload_n 0, 1) := by decide +kernel
theorem dX11_first_1 : decode cX11_first 1 = .ok (.getfield 42, 3) := by decide +kernel
theorem dX11_first_4 : decode cX11_first 4 = .ok (.getfield 111, 3) := by decide +kernel
theorem dX11_first_7 : decode cX11_first 7 = .ok (.iload_n 1, 1) := by decide +kernel
theorem dX11_first_8 : decode cX11_first 8 = .ok (.invokevirtual 144, 3) := by decide +kernel
theorem dX11_first_11 : decode cX11_first 11 = .ok (.ifCond .eq 18, 3) := by decide +kernel
theorem dX11_first_14 : decode cX11_first 14 = .ok (.aload_n 0, 1) := by decide +kernel
theorem dX11_first_15 : decode cX11_first 15 = .ok (.getfield 62, 3) := by decide +kernel
theorem dX11_first_18 : decode cX11_first 18 = .ok (.aload_n 0, 1) := by decide +kernel
theorem dX11_first_19 : decode cX11_first 19 = .ok (.getfield 42, 3) := by decide +kernel
theorem dX11_first_22 : decode cX11_first 22 = .ok (.iload_n 1, 1) := by decide +kernel
theorem dX11_first_23 : decode cX11_first 23 = .ok (.invokevirtual 234, 3) := by decide +kernel
theorem dX11_first_26 : decode cX11_first 26 = .ok (.goto 4, 3) := by decide +kernel
theorem dX11_first_29 : decode cX11_first 29 = .ok (.iconst (-1), 1) := by decide +kernel
theorem dX11_first_30 : decode cX11_first 30 = .ok (.ireturn, 1) := by decide +kernel
theorem dX11_knowsAll_0 : decode cX11_knowsAll 0 = .ok (.aload_n 0, 1) := by decide +kernel
theorem dX11_knowsAll_1 : decode cX11_knowsAll 1 = .ok (.getfield 42, 3) := by decide +kernel
theorem dX11_knowsAll_4 : decode cX11_knowsAll 4 = .ok (.getfield 111, 3) := by decide +kernel
theorem dX11_knowsAll_7 : decode cX11_knowsAll 7 = .ok (.iload_n 1, 1) := by decide +kernel
theorem dX11_knowsAll_8 : decode cX11_knowsAll 8 = .ok (.invokevirtual 144, 3) := by decide +kernel
theorem dX11_knowsAll_11 : decode cX11_knowsAll 11 = .ok (.ifCond .eq 18, 3) := by decide +kernel
theorem dX11_knowsAll_14 : decode cX11_knowsAll 14 = .ok (.aload_n 0, 1) := by decide +kernel
theorem dX11_knowsAll_15 : decode cX11_knowsAll 15 = .ok (.getfield 62, 3) := by decide +kernel
theorem dX11_knowsAll_18 : decode cX11_knowsAll 18 = .ok (.aload_n 0, 1) := by decide +kernel
theorem dX11_knowsAll_19 : decode cX11_knowsAll 19 = .ok (.getfield 42, 3) := by decide +kernel
theorem dX11_knowsAll_22 : decode cX11_knowsAll 22 = .ok (.iload_n 1, 1) := by decide +kernel
theorem dX11_knowsAll_23 : decode cX11_knowsAll 23 = .ok (.invokevirtual 238, 3) := by decide +kernel
theorem dX11_knowsAll_26 : decode cX11_knowsAll 26 = .ok (.goto 5, 3) := by decide +kernel
theorem dX11_knowsAll_29 : decode cX11_knowsAll 29 = .ok (.bipush (-3), 2) := by decide +kernel
theorem dX11_knowsAll_31 : decode cX11_knowsAll 31 = .ok (.ireturn, 1) := by decide +kernel
theorem dX11_most_0 : decode cX11_most 0 = .ok (.aload_n 0, 1) := by decide +kernel
theorem dX11_most_1 : decode cX11_most 1 = .ok (.getfield 42, 3) := by decide +kernel
theorem dX11_most_4 : decode cX11_most 4 = .ok (.getfield 111, 3) := by decide +kernel
theorem dX11_most_7 : decode cX11_most 7 = .ok (.invokevirtual 179, 3) := by decide +kernel
theorem dX11_most_10 : decode cX11_most 10 = .ok (.ifCond .eq 23, 3) := by decide +kernel
theorem dX11_most_13 : decode cX11_most 13 = .ok (.iload_n 1, 1) := by decide +kernel
theorem dX11_most_14 : decode cX11_most 14 = .ok (.iconst 1, 1) := by decide +kernel
theorem dX11_most_15 : decode cX11_most 15 = .ok (.if_icmp .lt 18, 3) := by decide +kernel
theorem dX11_most_18 : decode cX11_most 18 = .ok (.iload_n 1, 1) := by decide +kernel
theorem dX11_most_19 : decode cX11_most 19 = .ok (.bipush 100, 2) := by decide +kernel
theorem dX11_most_21 : decode cX11_most 21 = .ok (.if_icmp .gt 12, 3) := by decide +kernel
theorem dX11_most_24 : decode cX11_most 24 = .ok (.iload_n 2, 1) := by decide +kernel
theorem dX11_most_25 : decode cX11_most 25 = .ok (.ifCond .lt 8, 3) := by decide +kernel
theorem dX11_most_28 : decode cX11_most 28 = .ok (.iload_n 2, 1) := by decide +kernel
theorem dX11_most_29 : decode cX11_most 29 = .ok (.iconst 1, 1) := by decide +kernel
theorem dX11_most_30 : decode cX11_most 30 = .ok (.if_icmp .le 5, 3) := by decide +kernel
theorem dX11_most_33 : decode cX11_most 33 = .ok (.iconst (-1), 1) := by decide +kernel
theorem dX11_most_34 : decode cX11_most 34 = .ok (.ireturn, 1) := by decide +kernel
theorem dX11_most_35 : decode cX11_most 35 = .ok (.aload_n 0, 1) := by decide +kernel
theorem dX11_most_36 : decode cX11_most 36 = .ok (.getfield 62, 3) := by decide +kernel
theorem dX11_most_39 : decode cX11_most 39 = .ok (.aload_n 0, 1) := by decide +kernel
theorem dX11_most_40 : decode cX11_most 40 = .ok (.getfield 42, 3) := by decide +kernel
theorem dX11_most_43 : decode cX11_most 43 = .ok (.iload_n 1, 1) := by decide +kernel
theorem dX11_most_44 : decode cX11_most 44 = .ok (.invokevirtual 241, 3) := by decide +kernel
theorem dX11_most_47 : decode cX11_most 47 = .ok (.iload_n 2, 1) := by decide +kernel
theorem dX11_most_48 : decode cX11_most 48 = .ok (.ifCond .ne 13, 3) := by decide +kernel
theorem dX11_most_51 : decode cX11_most 51 = .ok (.aload_n 0, 1) := by decide +kernel
theorem dX11_most_52 : decode cX11_most 52 = .ok (.getfield 62, 3) := by decide +kernel
theorem dX11_most_55 : decode cX11_most 55 = .ok (.getfield 245, 3) := by decide +kernel
theorem dX11_most_58 : decode cX11_most 58 = .ok (.goto 10, 3) := by decide +kernel
theorem dX11_most_61 : decode cX11_most 61 = .ok (.aload_n 0, 1) := by decide +kernel
theorem dX11_most_62 : decode cX11_most 62 = .ok (.getfield 62, 3) := by decide +kernel
theorem dX11_most_65 : decode cX11_most 65 = .ok (.getfield 248, 3) := by decide +kernel
theorem dX11_most_68 : decode cX11_most 68 = .ok (.ireturn, 1) := by decide +kernel
theorem dX11_hide_0 : decode cX11_hide 0 = .ok (.aload_n 0, 1) := by decide +kernel
theorem dX11_hide_1 : decode cX11_hide 1 = .ok (.getfield 42, 3) := by decide +kernel
theorem dX11_hide_4 : decode cX11_hide 4 = .ok (.getfield 111, 3) := by decide +kernel
theorem dX11_hide_7 : decode cX11_hide 7 = .ok (.iload_n 1, 1) := by decide +kernel
theorem dX11_hide_8 : decode cX11_hide 8 = .ok (.invokevirtual 144, 3) := by decide +kernel
theorem dX11_hide_11 : decode cX11_hide 11 = .ok (.ifCond .eq 23, 3) := by decide +kernel
theorem dX11_hide_14 : decode cX11_hide 14 = .ok (.iload_n 2, 1) := by decide +kernel
theorem dX11_hide_15 : decode cX11_hide 15 = .ok (.iconst 1, 1) := by decide +kernel
theorem dX11_hide_16 : decode cX11_hide 16 = .ok (.if_icmp .lt 18, 3) := by decide +kernel
theorem dX11_hide_19 : decode cX11_hide 19 = .ok (.iload_n 2, 1) := by decide +kernel
theorem dX11_hide_20 : decode cX11_hide 20 = .ok (.bipush 30, 2) := by decide +kernel
theorem dX11_hide_22 : decode cX11_hide 22 = .ok (.if_icmp .gt 12, 3) := by decide +kernel
theorem dX11_hide_25 : decode cX11_hide 25 = .ok (.iload_n 3, 1) := by decide +kernel
theorem dX11_hide_26 : decode cX11_hide 26 = .ok (.ifCond .lt 8, 3) := by decide +kernel
theorem dX11_hide_29 : decode cX11_hide 29 = .ok (.iload_n 3, 1) := by decide +kernel
theorem dX11_hide_30 : decode cX11_hide 30 = .ok (.iconst 1, 1) := by decide +kernel
theorem dX11_hide_31 : decode cX11_hide 31 = .ok (.if_icmp .le 5, 3) := by decide +kernel
theorem dX11_hide_34 : decode cX11_hide 34 = .ok (.iconst (-1), 1) := by decide +kernel
theorem dX11_hide_35 : decode cX11_hide 35 = .ok (.ireturn, 1) := by decide +kernel
theorem dX11_hide_36 : decode cX11_hide 36 = .ok (.aload_n 0, 1) := by decide +kernel
theorem dX11_hide_37 : decode cX11_hide 37 = .ok (.getfield 62, 3) := by decide +kernel
theorem dX11_hide_40 : decode cX11_hide 40 = .ok (.aload_n 0, 1) := by decide +kernel
theorem dX11_hide_41 : decode cX11_hide 41 = .ok (.getfield 42, 3) := by decide +kernel
theorem dX11_hide_44 : decode cX11_hide 44 = .ok (.iload_n 1, 1) := by decide +kernel
theorem dX11_hide_45 : decode cX11_hide 45 = .ok (.iload_n 2, 1) := by decide +kernel
theorem dX11_hide_46 : decode cX11_hide 46 = .ok (.invokevirtual 251, 3) := by decide +kernel
theorem dX11_hide_49 : decode cX11_hide 49 = .ok (.iload_n 3, 1) := by decide +kernel
theorem dX11_hide_50 : decode cX11_hide 50 = .ok (.ifCond .ne 13, 3) := by decide +kernel
theorem dX11_hide_53 : decode cX11_hide 53 = .ok (.aload_n 0, 1) := by decide +kernel
theorem dX11_hide_54 : decode cX11_hide 54 = .ok (.getfield 62, 3) := by decide +kernel
theorem dX11_hide_57 : decode cX11_hide 57 = .ok (.getfield 245, 3) := by decide +kernel
theorem dX11_hide_60 : decode cX11_hide 60 = .ok (.goto 10, 3) := by decide +kernel
theorem dX11_hide_63 : decode cX11_hide 63 = .ok (.aload_n 0, 1) := by decide +kernel
theorem dX11_hide_64 : decode cX11_hide 64 = .ok (.getfield 62, 3) := by decide +kernel
theorem dX11_hide_67 : decode cX11_hide 67 = .ok (.getfield 248, 3) := by decide +kernel
theorem dX11_hide_70 : decode cX11_hide 70 = .ok (.ireturn, 1) := by decide +kernel
theorem dX11_wake_0 : decode cX11_wake 0 = .ok (.aload_n 0, 1) := by decide +kernel
theorem dX11_wake_1 : decode cX11_wake 1 = .ok (.getfield 42, 3) := by decide +kernel
theorem dX11_wake_4 : decode cX11_wake 4 = .ok (.getfield 111, 3) := by decide +kernel
theorem dX11_wake_7 : decode cX11_wake 7 = .ok (.invokevirtual 179, 3) := by decide +kernel
theorem dX11_wake_10 : decode cX11_wake 10 = .ok (.ifCond .eq 23, 3) := by decide +kernel
theorem dX11_wake_13 : decode cX11_wake 13 = .ok (.iload_n 1, 1) := by decide +kernel
theorem dX11_wake_14 : decode cX11_wake 14 = .ok (.iconst 1, 1) := by decide +kernel
theorem dX11_wake_15 : decode cX11_wake 15 = .ok (.if_icmp .lt 18, 3) := by decide +kernel
theorem dX11_wake_18 : decode cX11_wake 18 = .ok (.iload_n 1, 1) := by decide +kernel
theorem dX11_wake_19 : decode cX11_wake 19 = .ok (.bipush 30, 2) := by decide +kernel
theorem dX11_wake_21 : decode cX11_wake 21 = .ok (.if_icmp .gt 12, 3) := by decide +kernel
theorem dX11_wake_24 : decode cX11_wake 24 = .ok (.iload_n 2, 1) := by decide +kernel
theorem dX11_wake_25 : decode cX11_wake 25 = .ok (.ifCond .lt 8, 3) := by decide +kernel
theorem dX11_wake_28 : decode cX11_wake 28 = .ok (.iload_n 2, 1) := by decide +kernel
theorem dX11_wake_29 : decode cX11_wake 29 = .ok (.iconst 1, 1) := by decide +kernel
theorem dX11_wake_30 : decode cX11_wake 30 = .ok (.if_icmp .le 6, 3) := by decide +kernel
theorem dX11_wake_33 : decode cX11_wake 33 = .ok (.bipush (-2), 2) := by decide +kernel
theorem dX11_wake_35 : decode cX11_wake 35 = .ok (.ireturn, 1) := by decide +kernel
theorem dX11_wake_36 : decode cX11_wake 36 = .ok (.aload_n 0, 1) := by decide +kernel
theorem dX11_wake_37 : decode cX11_wake 37 = .ok (.getfield 62, 3) := by decide +kernel
theorem dX11_wake_40 : decode cX11_wake 40 = .ok (.aload_n 0, 1) := by decide +kernel
theorem dX11_wake_41 : decode cX11_wake 41 = .ok (.getfield 42, 3) := by decide +kernel
theorem dX11_wake_44 : decode cX11_wake 44 = .ok (.iload_n 1, 1) := by decide +kernel
theorem dX11_wake_45 : decode cX11_wake 45 = .ok (.invokevirtual 255, 3) := by decide +kernel
theorem dX11_wake_48 : decode cX11_wake 48 = .ok (.iload_n 2, 1) := by decide +kernel
theorem dX11_wake_49 : decode cX11_wake 49 = .ok (.ifCond .ne 13, 3) := by decide +kernel
theorem dX11_wake_52 : decode cX11_wake 52 = .ok (.aload_n 0, 1) := by decide +kernel
theorem dX11_wake_53 : decode cX11_wake 53 = .ok (.getfield 62, 3) := by decide +kernel
theorem dX11_wake_56 : decode cX11_wake 56 = .ok (.getfield 245, 3) := by decide +kernel
theorem dX11_wake_59 : decode cX11_wake 59 = .ok (.goto 10, 3) := by decide +kernel
theorem dX11_wake_62 : decode cX11_wake 62 = .ok (.aload_n 0, 1) := by decide +kernel
theorem dX11_wake_63 : decode cX11_wake 63 = .ok (.getfield 62, 3) := by decide +kernel
theorem dX11_wake_66 : decode cX11_wake 66 = .ok (.getfield 248, 3) := by decide +kernel
theorem dX11_wake_69 : decode cX11_wake 69 = .ok (.ireturn, 1) := by decide +kernel
theorem dX11_ring_0 : decode cX11_ring 0 = .ok (.aload_n 0, 1) := by decide +kernel
theorem dX11_ring_1 : decode cX11_ring 1 = .ok (.getfield 42, 3) := by decide +kernel
theorem dX11_ring_4 : decode cX11_ring 4 = .ok (.getfield 111, 3) := by decide +kernel
theorem dX11_ring_7 : decode cX11_ring 7 = .ok (.invokevirtual 179, 3) := by decide +kernel
theorem dX11_ring_10 : decode cX11_ring 10 = .ok (.ifCond .eq 12, 3) := by decide +kernel
theorem dX11_ring_13 : decode cX11_ring 13 = .ok (.iload_n 1, 1) := by decide +kernel
theorem dX11_ring_14 : decode cX11_ring 14 = .ok (.ifCond .lt 8, 3) := by decide +kernel
theorem dX11_ring_17 : decode cX11_ring 17 = .ok (.iload_n 1, 1) := by decide +kernel
theorem dX11_ring_18 : decode cX11_ring 18 = .ok (.iconst 1, 1) := by decide +kernel
theorem dX11_ring_19 : decode cX11_ring 19 = .ok (.if_icmp .le 5, 3) := by decide +kernel
theorem dX11_ring_22 : decode cX11_ring 22 = .ok (.iconst (-1), 1) := by decide +kernel
theorem dX11_ring_23 : decode cX11_ring 23 = .ok (.ireturn, 1) := by decide +kernel
theorem dX11_ring_24 : decode cX11_ring 24 = .ok (.aload_n 0, 1) := by decide +kernel
theorem dX11_ring_25 : decode cX11_ring 25 = .ok (.getfield 62, 3) := by decide +kernel
theorem dX11_ring_28 : decode cX11_ring 28 = .ok (.aload_n 0, 1) := by decide +kernel
theorem dX11_ring_29 : decode cX11_ring 29 = .ok (.getfield 42, 3) := by decide +kernel
theorem dX11_ring_32 : decode cX11_ring 32 = .ok (.invokevirtual 258, 3) := by decide +kernel
theorem dX11_ring_35 : decode cX11_ring 35 = .ok (.iload_n 1, 1) := by decide +kernel
theorem dX11_ring_36 : decode cX11_ring 36 = .ok (.ifCond .ne 13, 3) := by decide +kernel
theorem dX11_ring_39 : decode cX11_ring 39 = .ok (.aload_n 0, 1) := by decide +kernel
theorem dX11_ring_40 : decode cX11_ring 40 = .ok (.getfield 62, 3) := by decide +kernel
theorem dX11_ring_43 : decode cX11_ring 43 = .ok (.getfield 245, 3) := by decide +kernel
theorem dX11_ring_46 : decode cX11_ring 46 = .ok (.goto 10, 3) := by decide +kernel
theorem dX11_ring_49 : decode cX11_ring 49 = .ok (.aload_n 0, 1) := by decide +kernel
theorem dX11_ring_50 : decode cX11_ring 50 = .ok (.getfield 62, 3) := by decide +kernel
theorem dX11_ring_53 : decode cX11_ring 53 = .ok (.getfield 248, 3) := by decide +kernel
theorem dX11_ring_56 : decode cX11_ring 56 = .ok (.ireturn, 1) := by decide +kernel
theorem dX11_winds_0 : decode cX11_winds 0 = .ok (.aload_n 0, 1) := by decide +kernel
theorem dX11_winds_1 : decode cX11_winds 1 = .ok (.getfield 42, 3) := by decide +kernel
theorem dX11_winds_4 : decode cX11_winds 4 = .ok (.getfield 111, 3) := by decide +kernel
theorem dX11_winds_7 : decode cX11_winds 7 = .ok (.invokevirtual 179, 3) := by decide +kernel
theorem dX11_winds_10 : decode cX11_winds 10 = .ok (.ifCond .eq 25, 3) := by decide +kernel
theorem dX11_winds_13 : decode cX11_winds 13 = .ok (.iload_n 1, 1) := by decide +kernel
theorem dX11_winds_14 : decode cX11_winds 14 = .ok (.iconst 1, 1) := by decide +kernel
theorem dX11_winds_15 : decode cX11_winds 15 = .ok (.if_icmp .lt 20, 3) := by decide +kernel
theorem dX11_winds_18 : decode cX11_winds 18 = .ok (.iload_n 1, 1) := by decide +kernel
theorem dX11_winds_19 : decode cX11_winds 19 = .ok (.bipush 10, 2) := by decide +kernel
theorem dX11_winds_21 : decode cX11_winds 21 = .ok (.if_icmp .gt 14, 3) := by decide +kernel
theorem dX11_winds_24 : decode cX11_winds 24 = .ok (.iload_n 2, 1) := by decide +kernel
theorem dX11_winds_25 : decode cX11_winds 25 = .ok (.iconst 1, 1) := by decide +kernel
theorem dX11_winds_26 : decode cX11_winds 26 = .ok (.if_icmp .lt 9, 3) := by decide +kernel
theorem dX11_winds_29 : decode cX11_winds 29 = .ok (.iload_n 2, 1) := by decide +kernel
theorem dX11_winds_30 : decode cX11_winds 30 = .ok (.bipush 60, 2) := by decide +kernel
theorem dX11_winds_32 : decode cX11_winds 32 = .ok (.if_icmp .le 5, 3) := by decide +kernel
theorem dX11_winds_35 : decode cX11_winds 35 = .ok (.iconst (-1), 1) := by decide +kernel
theorem dX11_winds_36 : decode cX11_winds 36 = .ok (.ireturn, 1) := by decide +kernel
theorem dX11_winds_37 : decode cX11_winds 37 = .ok (.iload_n 3, 1) := by decide +kernel
theorem dX11_winds_38 : decode cX11_winds 38 = .ok (.ifCond .lt 20, 3) := by decide +kernel
theorem dX11_winds_41 : decode cX11_winds 41 = .ok (.iload_n 3, 1) := by decide +kernel
theorem dX11_winds_42 : decode cX11_winds 42 = .ok (.bipush 100, 2) := by decide +kernel
theorem dX11_winds_44 : decode cX11_winds 44 = .ok (.if_icmp .gt 14, 3) := by decide +kernel
theorem dX11_winds_47 : decode cX11_winds 47 = .ok (.iload 4, 2) := by decide +kernel
theorem dX11_winds_49 : decode cX11_winds 49 = .ok (.ifCond .lt 9, 3) := by decide +kernel
theorem dX11_winds_52 : decode cX11_winds 52 = .ok (.iload 4, 2) := by decide +kernel
theorem dX11_winds_54 : decode cX11_winds 54 = .ok (.iconst 1, 1) := by decide +kernel
theorem dX11_winds_55 : decode cX11_winds 55 = .ok (.if_icmp .le 5, 3) := by decide +kernel
theorem dX11_winds_58 : decode cX11_winds 58 = .ok (.iconst (-1), 1) := by decide +kernel
theorem dX11_winds_59 : decode cX11_winds 59 = .ok (.ireturn, 1) := by decide +kernel
theorem dX11_winds_60 : decode cX11_winds 60 = .ok (.aload_n 0, 1) := by decide +kernel
theorem dX11_winds_61 : decode cX11_winds 61 = .ok (.getfield 62, 3) := by decide +kernel
theorem dX11_winds_64 : decode cX11_winds 64 = .ok (.aload_n 0, 1) := by decide +kernel
theorem dX11_winds_65 : decode cX11_winds 65 = .ok (.getfield 42, 3) := by decide +kernel
theorem dX11_winds_68 : decode cX11_winds 68 = .ok (.iload_n 1, 1) := by decide +kernel
theorem dX11_winds_69 : decode cX11_winds 69 = .ok (.iload_n 2, 1) := by decide +kernel
theorem dX11_winds_70 : decode cX11_winds 70 = .ok (.iload_n 3, 1) := by decide +kernel
theorem dX11_winds_71 : decode cX11_winds 71 = .ok (.invokevirtual 262, 3) := by decide +kernel
theorem dX11_winds_74 : decode cX11_winds 74 = .ok (.iload 4, 2) := by decide +kernel
theorem dX11_winds_76 : decode cX11_winds 76 = .ok (.ifCond .ne 13, 3) := by decide +kernel
theorem dX11_winds_79 : decode cX11_winds 79 = .ok (.aload_n 0, 1) := by decide +kernel
theorem dX11_winds_80 : decode cX11_winds 80 = .ok (.getfield 62, 3) := by decide +kernel
theorem dX11_winds_83 : decode cX11_winds 83 = .ok (.getfield 248, 3) := by decide +kernel
theorem dX11_winds_86 : decode cX11_winds 86 = .ok (.goto 10, 3) := by decide +kernel
theorem dX11_winds_89 : decode cX11_winds 89 = .ok (.aload_n 0, 1) := by decide +kernel
theorem dX11_winds_90 : decode cX11_winds 90 = .ok (.getfield 62, 3) := by decide +kernel
theorem dX11_winds_93 : decode cX11_winds 93 = .ok (.getfield 266, 3) := by decide +kernel
theorem dX11_winds_96 : decode cX11_winds 96 = .ok (.ireturn, 1) := by decide +kernel
theorem dX11_seed_0 : decode cX11_seed 0 = .ok (.iload_n 1, 1) := by decide +kernel
theorem dX11_seed_1 : decode cX11_seed 1 = .ok (.ifCond .ge 5, 3) := by decide +kernel
theorem dX11_seed_4 : decode cX11_seed 4 = .ok (.iconst (-1), 1) := by decide +kernel
theorem dX11_seed_5 : decode cX11_seed 5 = .ok (.ireturn, 1) := by decide +kernel
theorem dX11_seed_6 : decode cX11_seed 6 = .ok (.aload_n 0, 1) := by decide +kernel
theorem dX11_seed_7 : decode cX11_seed 7 = .ok (.getfield 42, 3) := by decide +kernel
theorem dX11_seed_10 : decode cX11_seed 10 = .ok (.getfield 208, 3) := by decide +kernel
theorem dX11_seed_13 : decode cX11_seed 13 = .ok (.istore_n 2, 1) := by decide +kernel
theorem dX11_seed_14 : decode cX11_seed 14 = .ok (.aload_n 0, 1) := by decide +kernel
theorem dX11_seed_15 : decode cX11_seed 15 = .ok (.getfield 42, 3) := by decide +kernel
theorem dX11_seed_18 : decode cX11_seed 18 = .ok (.iload_n 1, 1) := by decide +kernel
theorem dX11_seed_19 : decode cX11_seed 19 = .ok (.putfield 208, 3) := by decide +kernel
theorem dX11_seed_22 : decode cX11_seed 22 = .ok (.iload_n 2, 1) := by decide +kernel
theorem dX11_seed_23 : decode cX11_seed 23 = .ok (.ireturn, 1) := by decide +kernel
theorem dX11_way_0 : decode cX11_way 0 = .ok (.aload_n 0, 1) := by decide +kernel
theorem dX11_way_1 : decode cX11_way 1 = .ok (.getfield 42, 3) := by decide +kernel
theorem dX11_way_4 : decode cX11_way 4 = .ok (.getfield 111, 3) := by decide +kernel
theorem dX11_way_7 : decode cX11_way 7 = .ok (.astore_n 2, 1) := by decide +kernel
theorem dX11_way_8 : decode cX11_way 8 = .ok (.aload_n 2, 1) := by decide +kernel
theorem dX11_way_9 : decode cX11_way 9 = .ok (.iload_n 1, 1) := by decide +kernel
theorem dX11_way_10 : decode cX11_way 10 = .ok (.invokevirtual 159, 3) := by decide +kernel
theorem dX11_way_13 : decode cX11_way 13 = .ok (.ifCond .ne 5, 3) := by decide +kernel
theorem dX11_way_16 : decode cX11_way 16 = .ok (.iconst (-1), 1) := by decide +kernel
theorem dX11_way_17 : decode cX11_way 17 = .ok (.ireturn, 1) := by decide +kernel
theorem dX11_way_18 : decode cX11_way 18 = .ok (.aload_n 2, 1) := by decide +kernel
theorem dX11_way_19 : decode cX11_way 19 = .ok (.aload_n 2, 1) := by decide +kernel
theorem dX11_way_20 : decode cX11_way 20 = .ok (.getfield 182, 3) := by decide +kernel
theorem dX11_way_23 : decode cX11_way 23 = .ok (.lconst 1, 1) := by decide +kernel
theorem dX11_way_24 : decode cX11_way 24 = .ok (.iload_n 1, 1) := by decide +kernel
theorem dX11_way_25 : decode cX11_way 25 = .ok (.lshl, 1) := by decide +kernel
theorem dX11_way_26 : decode cX11_way 26 = .ok (.invokevirtual 269, 3) := by decide +kernel
theorem dX11_way_29 : decode cX11_way 29 = .ok (.istore_n 3, 1) := by decide +kernel
theorem dX11_way_30 : decode cX11_way 30 = .ok (.iload_n 3, 1) := by decide +kernel
theorem dX11_way_31 : decode cX11_way 31 = .ok (.iconst (-1), 1) := by decide +kernel
theorem dX11_way_32 : decode cX11_way 32 = .ok (.if_icmp .ne 8, 3) := by decide +kernel
theorem dX11_way_35 : decode cX11_way 35 = .ok (.bipush (-2), 2) := by decide +kernel
theorem dX11_way_37 : decode cX11_way 37 = .ok (.goto 4, 3) := by decide +kernel
theorem dX11_way_40 : decode cX11_way 40 = .ok (.iload_n 3, 1) := by decide +kernel
theorem dX11_way_41 : decode cX11_way 41 = .ok (.ireturn, 1) := by decide +kernel
theorem dX11_reach_0 : decode cX11_reach 0 = .ok (.aload_n 0, 1) := by decide +kernel
theorem dX11_reach_1 : decode cX11_reach 1 = .ok (.getfield 42, 3) := by decide +kernel
theorem dX11_reach_4 : decode cX11_reach 4 = .ok (.getfield 111, 3) := by decide +kernel
theorem dX11_reach_7 : decode cX11_reach 7 = .ok (.invokevirtual 179, 3) := by decide +kernel
theorem dX11_reach_10 : decode cX11_reach 10 = .ok (.ifCond .eq 13, 3) := by decide +kernel
theorem dX11_reach_13 : decode cX11_reach 13 = .ok (.iload_n 1, 1) := by decide +kernel
theorem dX11_reach_14 : decode cX11_reach 14 = .ok (.ifCond .lt 9, 3) := by decide +kernel
theorem dX11_reach_17 : decode cX11_reach 17 = .ok (.iload_n 1, 1) := by decide +kernel
theorem dX11_reach_18 : decode cX11_reach 18 = .ok (.bipush 36, 2) := by decide +kernel
theorem dX11_reach_20 : decode cX11_reach 20 = .ok (.if_icmp .le 5, 3) := by decide +kernel
theorem dX11_reach_23 : decode cX11_reach 23 = .ok (.iconst (-1), 1) := by decide +kernel
theorem dX11_reach_24 : decode cX11_reach 24 = .ok (.ireturn, 1) := by decide +kernel
theorem dX11_reach_25 : decode cX11_reach 25 = .ok (.aload_n 0, 1) := by decide +kernel
theorem dX11_reach_26 : decode cX11_reach 26 = .ok (.getfield 42, 3) := by decide +kernel
theorem dX11_reach_29 : decode cX11_reach 29 = .ok (.getfield 111, 3) := by decide +kernel
theorem dX11_reach_32 : decode cX11_reach 32 = .ok (.iload_n 1, 1) := by decide +kernel
theorem dX11_reach_33 : decode cX11_reach 33 = .ok (.invokevirtual 273, 3) := by decide +kernel
theorem dX11_reach_36 : decode cX11_reach 36 = .ok (.invokestatic 199, 3) := by decide +kernel
theorem dX11_reach_39 : decode cX11_reach 39 = .ok (.ireturn, 1) := by decide +kernel
theorem dX11_cut_0 : decode cX11_cut 0 = .ok (.aload_n 0, 1) := by decide +kernel
theorem dX11_cut_1 : decode cX11_cut 1 = .ok (.getfield 42, 3) := by decide +kernel
theorem dX11_cut_4 : decode cX11_cut 4 = .ok (.getfield 111, 3) := by decide +kernel
theorem dX11_cut_7 : decode cX11_cut 7 = .ok (.iload_n 1, 1) := by decide +kernel
theorem dX11_cut_8 : decode cX11_cut 8 = .ok (.invokevirtual 144, 3) := by decide +kernel
