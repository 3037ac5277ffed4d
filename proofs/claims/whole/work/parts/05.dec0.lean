theorem dX0_init_0 : decode cX0_init 0 = .ok (.aload_n 0, 1) := by decide +kernel
theorem dX0_init_1 : decode cX0_init 1 = .ok (.invokespecial 3, 3) := by decide +kernel
theorem dX0_init_4 : decode cX0_init 4 = .ok (.aload_n 0, 1) := by decide +kernel
theorem dX0_init_5 : decode cX0_init 5 = .ok (.new 9, 3) := by decide +kernel
theorem dX0_init_8 : decode cX0_init 8 = .ok (.dup, 1) := by decide +kernel
theorem dX0_init_9 : decode cX0_init 9 = .ok (.bipush 12, 2) := by decide +kernel
theorem dX0_init_11 : decode cX0_init 11 = .ok (.bipush 91, 2) := by decide +kernel
theorem dX0_init_13 : decode cX0_init 13 = .ok (.invokespecial 11, 3) := by decide +kernel
theorem dX0_init_16 : decode cX0_init 16 = .ok (.putfield 14, 3) := by decide +kernel
theorem dX0_init_19 : decode cX0_init 19 = .ok (.aload_n 0, 1) := by decide +kernel
theorem dX0_init_20 : decode cX0_init 20 = .ok (.aload_n 1, 1) := by decide +kernel
theorem dX0_init_21 : decode cX0_init 21 = .ok (.putfield 20, 3) := by decide +kernel
theorem dX0_init_24 : decode cX0_init 24 = .ok (.return_, 1) := by decide +kernel
theorem dX0_fitPoints_0 : decode cX0_fitPoints 0 = .ok (.aload_n 0, 1) := by decide +kernel
theorem dX0_fitPoints_1 : decode cX0_fitPoints 1 = .ok (.aload_n 1, 1) := by decide +kernel
theorem dX0_fitPoints_2 : decode cX0_fitPoints 2 = .ok (.invokevirtual 24, 3) := by decide +kernel
theorem dX0_fitPoints_5 : decode cX0_fitPoints 5 = .ok (.aload_n 0, 1) := by decide +kernel
theorem dX0_fitPoints_6 : decode cX0_fitPoints 6 = .ok (.getfield 14, 3) := by decide +kernel
theorem dX0_fitPoints_9 : decode cX0_fitPoints 9 = .ok (.aload_n 1, 1) := by decide +kernel
theorem dX0_fitPoints_10 : decode cX0_fitPoints 10 = .ok (.getfield 28, 3) := by decide +kernel
theorem dX0_fitPoints_13 : decode cX0_fitPoints 13 = .ok (.invokevirtual 34, 3) := by decide +kernel
theorem dX0_fitPoints_16 : decode cX0_fitPoints 16 = .ok (.istore_n 3, 1) := by decide +kernel
theorem dX0_fitPoints_17 : decode cX0_fitPoints 17 = .ok (.aload_n 2, 1) := by decide +kernel
theorem dX0_fitPoints_18 : decode cX0_fitPoints 18 = .ok (.aload_n 1, 1) := by decide +kernel
theorem dX0_fitPoints_19 : decode cX0_fitPoints 19 = .ok (.invokevirtual 38, 3) := by decide +kernel
theorem dX0_fitPoints_22 : decode cX0_fitPoints 22 = .ok (.aload_n 2, 1) := by decide +kernel
theorem dX0_fitPoints_23 : decode cX0_fitPoints 23 = .ok (.getfield 41, 3) := by decide +kernel
theorem dX0_fitPoints_26 : decode cX0_fitPoints 26 = .ok (.iconst 0, 1) := by decide +kernel
theorem dX0_fitPoints_27 : decode cX0_fitPoints 27 = .ok (.invokestatic 45, 3) := by decide +kernel
theorem dX0_fitPoints_30 : decode cX0_fitPoints 30 = .ok (.iconst 0, 1) := by decide +kernel
theorem dX0_fitPoints_31 : decode cX0_fitPoints 31 = .ok (.istore 4, 2) := by decide +kernel
theorem dX0_fitPoints_33 : decode cX0_fitPoints 33 = .ok (.iload 4, 2) := by decide +kernel
theorem dX0_fitPoints_35 : decode cX0_fitPoints 35 = .ok (.iload_n 3, 1) := by decide +kernel
theorem dX0_fitPoints_36 : decode cX0_fitPoints 36 = .ok (.if_icmp .ge 35, 3) := by decide +kernel
theorem dX0_fitPoints_39 : decode cX0_fitPoints 39 = .ok (.aload_n 0, 1) := by decide +kernel
theorem dX0_fitPoints_40 : decode cX0_fitPoints 40 = .ok (.getfield 14, 3) := by decide +kernel
theorem dX0_fitPoints_43 : decode cX0_fitPoints 43 = .ok (.getfield 51, 3) := by decide +kernel
theorem dX0_fitPoints_46 : decode cX0_fitPoints 46 = .ok (.iload 4, 2) := by decide +kernel
theorem dX0_fitPoints_48 : decode cX0_fitPoints 48 = .ok (.iaload, 1) := by decide +kernel
theorem dX0_fitPoints_49 : decode cX0_fitPoints 49 = .ok (.invokestatic 54, 3) := by decide +kernel
theorem dX0_fitPoints_52 : decode cX0_fitPoints 52 = .ok (.istore 5, 2) := by decide +kernel
theorem dX0_fitPoints_54 : decode cX0_fitPoints 54 = .ok (.aload_n 2, 1) := by decide +kernel
theorem dX0_fitPoints_55 : decode cX0_fitPoints 55 = .ok (.getfield 41, 3) := by decide +kernel
theorem dX0_fitPoints_58 : decode cX0_fitPoints 58 = .ok (.iload 5, 2) := by decide +kernel
theorem dX0_fitPoints_60 : decode cX0_fitPoints 60 = .ok (.dup2, 1) := by decide +kernel
theorem dX0_fitPoints_61 : decode cX0_fitPoints 61 = .ok (.iaload, 1) := by decide +kernel
theorem dX0_fitPoints_62 : decode cX0_fitPoints 62 = .ok (.iconst 1, 1) := by decide +kernel
theorem dX0_fitPoints_63 : decode cX0_fitPoints 63 = .ok (.iadd, 1) := by decide +kernel
theorem dX0_fitPoints_64 : decode cX0_fitPoints 64 = .ok (.iastore, 1) := by decide +kernel
theorem dX0_fitPoints_65 : decode cX0_fitPoints 65 = .ok (.iinc 4 1, 3) := by decide +kernel
theorem dX0_fitPoints_68 : decode cX0_fitPoints 68 = .ok (.goto (-35), 3) := by decide +kernel
theorem dX0_fitPoints_71 : decode cX0_fitPoints 71 = .ok (.aload_n 2, 1) := by decide +kernel
theorem dX0_fitPoints_72 : decode cX0_fitPoints 72 = .ok (.invokevirtual 57, 3) := by decide +kernel
theorem dX0_fitPoints_75 : decode cX0_fitPoints 75 = .ok (.aload_n 2, 1) := by decide +kernel
theorem dX0_fitPoints_76 : decode cX0_fitPoints 76 = .ok (.getfield 60, 3) := by decide +kernel
theorem dX0_fitPoints_79 : decode cX0_fitPoints 79 = .ok (.iconst 0, 1) := by decide +kernel
theorem dX0_fitPoints_80 : decode cX0_fitPoints 80 = .ok (.invokestatic 45, 3) := by decide +kernel
theorem dX0_fitPoints_83 : decode cX0_fitPoints 83 = .ok (.iconst 0, 1) := by decide +kernel
theorem dX0_fitPoints_84 : decode cX0_fitPoints 84 = .ok (.istore 4, 2) := by decide +kernel
theorem dX0_fitPoints_86 : decode cX0_fitPoints 86 = .ok (.iload 4, 2) := by decide +kernel
theorem dX0_fitPoints_88 : decode cX0_fitPoints 88 = .ok (.aload_n 2, 1) := by decide +kernel
theorem dX0_fitPoints_89 : decode cX0_fitPoints 89 = .ok (.getfield 63, 3) := by decide +kernel
theorem dX0_fitPoints_92 : decode cX0_fitPoints 92 = .ok (.if_icmp .ge 62, 3) := by decide +kernel
theorem dX0_fitPoints_95 : decode cX0_fitPoints 95 = .ok (.aload_n 2, 1) := by decide +kernel
theorem dX0_fitPoints_96 : decode cX0_fitPoints 96 = .ok (.getfield 66, 3) := by decide +kernel
theorem dX0_fitPoints_99 : decode cX0_fitPoints 99 = .ok (.iload 4, 2) := by decide +kernel
theorem dX0_fitPoints_101 : decode cX0_fitPoints 101 = .ok (.iaload, 1) := by decide +kernel
theorem dX0_fitPoints_102 : decode cX0_fitPoints 102 = .ok (.aload_n 2, 1) := by decide +kernel
theorem dX0_fitPoints_103 : decode cX0_fitPoints 103 = .ok (.getfield 69, 3) := by decide +kernel
theorem dX0_fitPoints_106 : decode cX0_fitPoints 106 = .ok (.iload 4, 2) := by decide +kernel
theorem dX0_fitPoints_108 : decode cX0_fitPoints 108 = .ok (.iaload, 1) := by decide +kernel
theorem dX0_fitPoints_109 : decode cX0_fitPoints 109 = .ok (.invokestatic 72, 3) := by decide +kernel
theorem dX0_fitPoints_112 : decode cX0_fitPoints 112 = .ok (.istore 5, 2) := by decide +kernel
theorem dX0_fitPoints_114 : decode cX0_fitPoints 114 = .ok (.iconst 0, 1) := by decide +kernel
theorem dX0_fitPoints_115 : decode cX0_fitPoints 115 = .ok (.istore 6, 2) := by decide +kernel
theorem dX0_fitPoints_117 : decode cX0_fitPoints 117 = .ok (.iload 6, 2) := by decide +kernel
theorem dX0_fitPoints_119 : decode cX0_fitPoints 119 = .ok (.iload_n 3, 1) := by decide +kernel
theorem dX0_fitPoints_120 : decode cX0_fitPoints 120 = .ok (.if_icmp .ge 28, 3) := by decide +kernel
theorem dX0_fitPoints_123 : decode cX0_fitPoints 123 = .ok (.aload_n 2, 1) := by decide +kernel
theorem dX0_fitPoints_124 : decode cX0_fitPoints 124 = .ok (.iload 4, 2) := by decide +kernel
theorem dX0_fitPoints_126 : decode cX0_fitPoints 126 = .ok (.iload 6, 2) := by decide +kernel
theorem dX0_fitPoints_128 : decode cX0_fitPoints 128 = .ok (.aload_n 0, 1) := by decide +kernel
theorem dX0_fitPoints_129 : decode cX0_fitPoints 129 = .ok (.getfield 14, 3) := by decide +kernel
theorem dX0_fitPoints_132 : decode cX0_fitPoints 132 = .ok (.iload 6, 2) := by decide +kernel
theorem dX0_fitPoints_134 : decode cX0_fitPoints 134 = .ok (.iload 5, 2) := by decide +kernel
theorem dX0_fitPoints_136 : decode cX0_fitPoints 136 = .ok (.invokevirtual 76, 3) := by decide +kernel
theorem dX0_fitPoints_139 : decode cX0_fitPoints 139 = .ok (.invokevirtual 79, 3) := by decide +kernel
theorem dX0_fitPoints_142 : decode cX0_fitPoints 142 = .ok (.iinc 6 1, 3) := by decide +kernel
theorem dX0_fitPoints_145 : decode cX0_fitPoints 145 = .ok (.goto (-28), 3) := by decide +kernel
theorem dX0_fitPoints_148 : decode cX0_fitPoints 148 = .ok (.iinc 4 1, 3) := by decide +kernel
theorem dX0_fitPoints_151 : decode cX0_fitPoints 151 = .ok (.goto (-65), 3) := by decide +kernel
theorem dX0_fitPoints_154 : decode cX0_fitPoints 154 = .ok (.return_, 1) := by decide +kernel
theorem dX0_fillValues_0 : decode cX0_fillValues 0 = .ok (.aload_n 1, 1) := by decide +kernel
theorem dX0_fillValues_1 : decode cX0_fillValues 1 = .ok (.getfield 83, 3) := by decide +kernel
theorem dX0_fillValues_4 : decode cX0_fillValues 4 = .ok (.istore_n 2, 1) := by decide +kernel
theorem dX0_fillValues_5 : decode cX0_fillValues 5 = .ok (.aload_n 0, 1) := by decide +kernel
theorem dX0_fillValues_6 : decode cX0_fillValues 6 = .ok (.getfield 14, 3) := by decide +kernel
theorem dX0_fillValues_9 : decode cX0_fillValues 9 = .ok (.aload_n 1, 1) := by decide +kernel
theorem dX0_fillValues_10 : decode cX0_fillValues 10 = .ok (.getfield 83, 3) := by decide +kernel
theorem dX0_fillValues_13 : decode cX0_fillValues 13 = .ok (.iload_n 2, 1) := by decide +kernel
theorem dX0_fillValues_14 : decode cX0_fillValues 14 = .ok (.iconst 1, 1) := by decide +kernel
theorem dX0_fillValues_15 : decode cX0_fillValues 15 = .ok (.iadd, 1) := by decide +kernel
theorem dX0_fillValues_16 : decode cX0_fillValues 16 = .ok (.iload_n 2, 1) := by decide +kernel
theorem dX0_fillValues_17 : decode cX0_fillValues 17 = .ok (.iconst 2, 1) := by decide +kernel
theorem dX0_fillValues_18 : decode cX0_fillValues 18 = .ok (.iadd, 1) := by decide +kernel
theorem dX0_fillValues_19 : decode cX0_fillValues 19 = .ok (.imul, 1) := by decide +kernel
theorem dX0_fillValues_20 : decode cX0_fillValues 20 = .ok (.iconst 2, 1) := by decide +kernel
theorem dX0_fillValues_21 : decode cX0_fillValues 21 = .ok (.idiv, 1) := by decide +kernel
theorem dX0_fillValues_22 : decode cX0_fillValues 22 = .ok (.invokevirtual 86, 3) := by decide +kernel
theorem dX0_fillValues_25 : decode cX0_fillValues 25 = .ok (.iconst 0, 1) := by decide +kernel
theorem dX0_fillValues_26 : decode cX0_fillValues 26 = .ok (.istore_n 3, 1) := by decide +kernel
theorem dX0_fillValues_27 : decode cX0_fillValues 27 = .ok (.iload_n 3, 1) := by decide +kernel
theorem dX0_fillValues_28 : decode cX0_fillValues 28 = .ok (.aload_n 1, 1) := by decide +kernel
theorem dX0_fillValues_29 : decode cX0_fillValues 29 = .ok (.getfield 83, 3) := by decide +kernel
theorem dX0_fillValues_32 : decode cX0_fillValues 32 = .ok (.if_icmp .ge 96, 3) := by decide +kernel
theorem dX0_fillValues_35 : decode cX0_fillValues 35 = .ok (.aload_n 0, 1) := by decide +kernel
theorem dX0_fillValues_36 : decode cX0_fillValues 36 = .ok (.getfield 20, 3) := by decide +kernel
theorem dX0_fillValues_39 : decode cX0_fillValues 39 = .ok (.aload_n 1, 1) := by decide +kernel
theorem dX0_fillValues_40 : decode cX0_fillValues 40 = .ok (.getfield 89, 3) := by decide +kernel
theorem dX0_fillValues_43 : decode cX0_fillValues 43 = .ok (.iload_n 3, 1) := by decide +kernel
theorem dX0_fillValues_44 : decode cX0_fillValues 44 = .ok (.iaload, 1) := by decide +kernel
theorem dX0_fillValues_45 : decode cX0_fillValues 45 = .ok (.aload_n 1, 1) := by decide +kernel
theorem dX0_fillValues_46 : decode cX0_fillValues 46 = .ok (.getfield 92, 3) := by decide +kernel
theorem dX0_fillValues_49 : decode cX0_fillValues 49 = .ok (.iload_n 3, 1) := by decide +kernel
theorem dX0_fillValues_50 : decode cX0_fillValues 50 = .ok (.iaload, 1) := by decide +kernel
theorem dX0_fillValues_51 : decode cX0_fillValues 51 = .ok (.aload_n 1, 1) := by decide +kernel
theorem dX0_fillValues_52 : decode cX0_fillValues 52 = .ok (.getfield 28, 3) := by decide +kernel
theorem dX0_fillValues_55 : decode cX0_fillValues 55 = .ok (.invokevirtual 95, 3) := by decide +kernel
theorem dX0_fillValues_58 : decode cX0_fillValues 58 = .ok (.iconst 0, 1) := by decide +kernel
theorem dX0_fillValues_59 : decode cX0_fillValues 59 = .ok (.istore 4, 2) := by decide +kernel
theorem dX0_fillValues_61 : decode cX0_fillValues 61 = .ok (.iload 4, 2) := by decide +kernel
theorem dX0_fillValues_63 : decode cX0_fillValues 63 = .ok (.iload_n 2, 1) := by decide +kernel
theorem dX0_fillValues_64 : decode cX0_fillValues 64 = .ok (.if_icmp .gt 58, 3) := by decide +kernel
theorem dX0_fillValues_67 : decode cX0_fillValues 67 = .ok (.iconst 0, 1) := by decide +kernel
theorem dX0_fillValues_68 : decode cX0_fillValues 68 = .ok (.istore 5, 2) := by decide +kernel
theorem dX0_fillValues_70 : decode cX0_fillValues 70 = .ok (.iload 5, 2) := by decide +kernel
theorem dX0_fillValues_72 : decode cX0_fillValues 72 = .ok (.iload 4, 2) := by decide +kernel
theorem dX0_fillValues_74 : decode cX0_fillValues 74 = .ok (.if_icmp .gt 42, 3) := by decide +kernel
theorem dX0_fillValues_77 : decode cX0_fillValues 77 = .ok (.iload 4, 2) := by decide +kernel
theorem dX0_fillValues_79 : decode cX0_fillValues 79 = .ok (.iload 5, 2) := by decide +kernel
theorem dX0_fillValues_81 : decode cX0_fillValues 81 = .ok (.isub, 1) := by decide +kernel
theorem dX0_fillValues_82 : decode cX0_fillValues 82 = .ok (.istore 6, 2) := by decide +kernel
theorem dX0_fillValues_84 : decode cX0_fillValues 84 = .ok (.aload_n 0, 1) := by decide +kernel
theorem dX0_fillValues_85 : decode cX0_fillValues 85 = .ok (.getfield 14, 3) := by decide +kernel
theorem dX0_fillValues_88 : decode cX0_fillValues 88 = .ok (.iload_n 3, 1) := by decide +kernel
theorem dX0_fillValues_89 : decode cX0_fillValues 89 = .ok (.iload 6, 2) := by decide +kernel
theorem dX0_fillValues_91 : decode cX0_fillValues 91 = .ok (.iload 5, 2) := by decide +kernel
theorem dX0_fillValues_93 : decode cX0_fillValues 93 = .ok (.invokestatic 72, 3) := by decide +kernel
theorem dX0_fillValues_96 : decode cX0_fillValues 96 = .ok (.aload_n 0, 1) := by decide +kernel
theorem dX0_fillValues_97 : decode cX0_fillValues 97 = .ok (.getfield 20, 3) := by decide +kernel
theorem dX0_fillValues_100 : decode cX0_fillValues 100 = .ok (.iload 6, 2) := by decide +kernel
theorem dX0_fillValues_102 : decode cX0_fillValues 102 = .ok (.iload 5, 2) := by decide +kernel
theorem dX0_fillValues_104 : decode cX0_fillValues 104 = .ok (.invokevirtual 100, 3) := by decide +kernel
theorem dX0_fillValues_107 : decode cX0_fillValues 107 = .ok (.invokevirtual 103, 3) := by decide +kernel
theorem dX0_fillValues_110 : decode cX0_fillValues 110 = .ok (.iinc 5 1, 3) := by decide +kernel
theorem dX0_fillValues_113 : decode cX0_fillValues 113 = .ok (.goto (-43), 3) := by decide +kernel
theorem dX0_fillValues_116 : decode cX0_fillValues 116 = .ok (.iinc 4 1, 3) := by decide +kernel
theorem dX0_fillValues_119 : decode cX0_fillValues 119 = .ok (.goto (-58), 3) := by decide +kernel
theorem dX0_fillValues_122 : decode cX0_fillValues 122 = .ok (.iinc 3 1, 3) := by decide +kernel
theorem dX0_fillValues_125 : decode cX0_fillValues 125 = .ok (.goto (-98), 3) := by decide +kernel
theorem dX0_fillValues_128 : decode cX0_fillValues 128 = .ok (.return_, 1) := by decide +kernel
theorem dX0_columnOf_0 : decode cX0_columnOf 0 = .ok (.iload_n 0, 1) := by decide +kernel
theorem dX0_columnOf_1 : decode cX0_columnOf 1 = .ok (.iload_n 1, 1) := by decide +kernel
theorem dX0_columnOf_2 : decode cX0_columnOf 2 = .ok (.iadd, 1) := by decide +kernel
theorem dX0_columnOf_3 : decode cX0_columnOf 3 = .ok (.iload_n 0, 1) := by decide +kernel
theorem dX0_columnOf_4 : decode cX0_columnOf 4 = .ok (.iload_n 1, 1) := by decide +kernel
theorem dX0_columnOf_5 : decode cX0_columnOf 5 = .ok (.iadd, 1) := by decide +kernel
theorem dX0_columnOf_6 : decode cX0_columnOf 6 = .ok (.iconst 1, 1) := by decide +kernel
theorem dX0_columnOf_7 : decode cX0_columnOf 7 = .ok (.iadd, 1) := by decide +kernel
theorem dX0_columnOf_8 : decode cX0_columnOf 8 = .ok (.imul, 1) := by decide +kernel
theorem dX0_columnOf_9 : decode cX0_columnOf 9 = .ok (.iconst 2, 1) := by decide +kernel
theorem dX0_columnOf_10 : decode cX0_columnOf 10 = .ok (.idiv, 1) := by decide +kernel
theorem dX0_columnOf_11 : decode cX0_columnOf 11 = .ok (.iload_n 1, 1) := by decide +kernel
theorem dX0_columnOf_12 : decode cX0_columnOf 12 = .ok (.iadd, 1) := by decide +kernel
theorem dX0_columnOf_13 : decode cX0_columnOf 13 = .ok (.ireturn, 1) := by decide +kernel
theorem dX0_exponentOfColumn_0 : decode cX0_exponentOfColumn 0 = .ok (.iconst 0, 1) := by decide +kernel
theorem dX0_exponentOfColumn_1 : decode cX0_exponentOfColumn 1 = .ok (.istore_n 1, 1) := by decide +kernel
theorem dX0_exponentOfColumn_2 : decode cX0_exponentOfColumn 2 = .ok (.iload_n 1, 1) := by decide +kernel
theorem dX0_exponentOfColumn_3 : decode cX0_exponentOfColumn 3 = .ok (.bipush 12, 2) := by decide +kernel
theorem dX0_exponentOfColumn_5 : decode cX0_exponentOfColumn 5 = .ok (.if_icmp .gt 30, 3) := by decide +kernel
theorem dX0_exponentOfColumn_8 : decode cX0_exponentOfColumn 8 = .ok (.iload_n 0, 1) := by decide +kernel
theorem dX0_exponentOfColumn_9 : decode cX0_exponentOfColumn 9 = .ok (.iload_n 1, 1) := by decide +kernel
theorem dX0_exponentOfColumn_10 : decode cX0_exponentOfColumn 10 = .ok (.iconst 0, 1) := by decide +kernel
theorem dX0_exponentOfColumn_11 : decode cX0_exponentOfColumn 11 = .ok (.invokestatic 72, 3) := by decide +kernel
theorem dX0_exponentOfColumn_14 : decode cX0_exponentOfColumn 14 = .ok (.isub, 1) := by decide +kernel
theorem dX0_exponentOfColumn_15 : decode cX0_exponentOfColumn 15 = .ok (.istore_n 2, 1) := by decide +kernel
theorem dX0_exponentOfColumn_16 : decode cX0_exponentOfColumn 16 = .ok (.iload_n 2, 1) := by decide +kernel
theorem dX0_exponentOfColumn_17 : decode cX0_exponentOfColumn 17 = .ok (.ifCond .lt 12, 3) := by decide +kernel
theorem dX0_exponentOfColumn_20 : decode cX0_exponentOfColumn 20 = .ok (.iload_n 2, 1) := by decide +kernel
theorem dX0_exponentOfColumn_21 : decode cX0_exponentOfColumn 21 = .ok (.iload_n 1, 1) := by decide +kernel
theorem dX0_exponentOfColumn_22 : decode cX0_exponentOfColumn 22 = .ok (.if_icmp .gt 7, 3) := by decide +kernel
theorem dX0_exponentOfColumn_25 : decode cX0_exponentOfColumn 25 = .ok (.iload_n 1, 1) := by decide +kernel
theorem dX0_exponentOfColumn_26 : decode cX0_exponentOfColumn 26 = .ok (.iload_n 2, 1) := by decide +kernel
theorem dX0_exponentOfColumn_27 : decode cX0_exponentOfColumn 27 = .ok (.isub, 1) := by decide +kernel
theorem dX0_exponentOfColumn_28 : decode cX0_exponentOfColumn 28 = .ok (.ireturn, 1) := by decide +kernel
theorem dX0_exponentOfColumn_29 : decode cX0_exponentOfColumn 29 = .ok (.iinc 1 1, 3) := by decide +kernel
theorem dX0_exponentOfColumn_32 : decode cX0_exponentOfColumn 32 = .ok (.goto (-30), 3) := by decide +kernel
theorem dX0_exponentOfColumn_35 : decode cX0_exponentOfColumn 35 = .ok (.iconst 0, 1) := by decide +kernel
theorem dX0_exponentOfColumn_36 : decode cX0_exponentOfColumn 36 = .ok (.ireturn, 1) := by decide +kernel
theorem dX1_init_0 : decode cX1_init 0 = .ok (.aload_n 0, 1) := by decide +kernel
theorem dX1_init_1 : decode cX1_init 1 = .ok (.invokespecial 3, 3) := by decide +kernel
theorem dX1_init_4 : decode cX1_init 4 = .ok (.aload_n 0, 1) := by decide +kernel
theorem dX1_init_5 : decode cX1_init 5 = .ok (.bipush 8, 2) := by decide +kernel
theorem dX1_init_7 : decode cX1_init 7 = .ok (.anewarray 9, 3) := by decide +kernel
theorem dX1_init_10 : decode cX1_init 10 = .ok (.putfield 11, 3) := by decide +kernel
theorem dX1_init_13 : decode cX1_init 13 = .ok (.return_, 1) := by decide +kernel
theorem dX1_remember_0 : decode cX1_remember 0 = .ok (.aload_n 0, 1) := by decide +kernel
theorem dX1_remember_1 : decode cX1_remember 1 = .ok (.getfield 11, 3) := by decide +kernel
theorem dX1_remember_4 : decode cX1_remember 4 = .ok (.aload_n 0, 1) := by decide +kernel
theorem dX1_remember_5 : decode cX1_remember 5 = .ok (.getfield 17, 3) := by decide +kernel
theorem dX1_remember_8 : decode cX1_remember 8 = .ok (.aaload, 1) := by decide +kernel
theorem dX1_remember_9 : decode cX1_remember 9 = .ok (.ifnonnull 19, 3) := by decide +kernel
theorem dX1_remember_12 : decode cX1_remember 12 = .ok (.aload_n 0, 1) := by decide +kernel
theorem dX1_remember_13 : decode cX1_remember 13 = .ok (.getfield 11, 3) := by decide +kernel
theorem dX1_remember_16 : decode cX1_remember 16 = .ok (.aload_n 0, 1) := by decide +kernel
theorem dX1_remember_17 : decode cX1_remember 17 = .ok (.getfield 17, 3) := by decide +kernel
theorem dX1_remember_20 : decode cX1_remember 20 = .ok (.new 9, 3) := by decide +kernel
theorem dX1_remember_23 : decode cX1_remember 23 = .ok (.dup, 1) := by decide +kernel
theorem dX1_remember_24 : decode cX1_remember 24 = .ok (.invokespecial 21, 3) := by decide +kernel
theorem dX1_remember_27 : decode cX1_remember 27 = .ok (.aastore, 1) := by decide +kernel
theorem dX1_remember_28 : decode cX1_remember 28 = .ok (.aload_n 0, 1) := by decide +kernel
theorem dX1_remember_29 : decode cX1_remember 29 = .ok (.getfield 11, 3) := by decide +kernel
theorem dX1_remember_32 : decode cX1_remember 32 = .ok (.aload_n 0, 1) := by decide +kernel
theorem dX1_remember_33 : decode cX1_remember 33 = .ok (.getfield 17, 3) := by decide +kernel
theorem dX1_remember_36 : decode cX1_remember 36 = .ok (.aaload, 1) := by decide +kernel
theorem dX1_remember_37 : decode cX1_remember 37 = .ok (.aload_n 1, 1) := by decide +kernel
theorem dX1_remember_38 : decode cX1_remember 38 = .ok (.invokevirtual 22, 3) := by decide +kernel
theorem dX1_remember_41 : decode cX1_remember 41 = .ok (.aload_n 0, 1) := by decide +kernel
theorem dX1_remember_42 : decode cX1_remember 42 = .ok (.aload_n 0, 1) := by decide +kernel
theorem dX1_remember_43 : decode cX1_remember 43 = .ok (.getfield 17, 3) := by decide +kernel
theorem dX1_remember_46 : decode cX1_remember 46 = .ok (.iconst 1, 1) := by decide +kernel
theorem dX1_remember_47 : decode cX1_remember 47 = .ok (.iadd, 1) := by decide +kernel
theorem dX1_remember_48 : decode cX1_remember 48 = .ok (.bipush 8, 2) := by decide +kernel
theorem dX1_remember_50 : decode cX1_remember 50 = .ok (.irem, 1) := by decide +kernel
theorem dX1_remember_51 : decode cX1_remember 51 = .ok (.putfield 17, 3) := by decide +kernel
theorem dX1_remember_54 : decode cX1_remember 54 = .ok (.aload_n 0, 1) := by decide +kernel
theorem dX1_remember_55 : decode cX1_remember 55 = .ok (.aload_n 0, 1) := by decide +kernel
theorem dX1_remember_56 : decode cX1_remember 56 = .ok (.getfield 26, 3) := by decide +kernel
theorem dX1_remember_59 : decode cX1_remember 59 = .ok (.iconst 1, 1) := by decide +kernel
theorem dX1_remember_60 : decode cX1_remember 60 = .ok (.iadd, 1) := by decide +kernel
theorem dX1_remember_61 : decode cX1_remember 61 = .ok (.bipush 8, 2) := by decide +kernel
theorem dX1_remember_63 : decode cX1_remember 63 = .ok (.invokestatic 29, 3) := by decide +kernel
theorem dX1_remember_66 : decode cX1_remember 66 = .ok (.putfield 26, 3) := by decide +kernel
theorem dX1_remember_69 : decode cX1_remember 69 = .ok (.return_, 1) := by decide +kernel
theorem dX1_bringBack_0 : decode cX1_bringBack 0 = .ok (.aload_n 0, 1) := by decide +kernel
theorem dX1_bringBack_1 : decode cX1_bringBack 1 = .ok (.getfield 17, 3) := by decide +kernel
theorem dX1_bringBack_4 : decode cX1_bringBack 4 = .ok (.bipush 8, 2) := by decide +kernel
theorem dX1_bringBack_6 : decode cX1_bringBack 6 = .ok (.iadd, 1) := by decide +kernel
theorem dX1_bringBack_7 : decode cX1_bringBack 7 = .ok (.iconst 1, 1) := by decide +kernel
theorem dX1_bringBack_8 : decode cX1_bringBack 8 = .ok (.isub, 1) := by decide +kernel
theorem dX1_bringBack_9 : decode cX1_bringBack 9 = .ok (.bipush 8, 2) := by decide +kernel
theorem dX1_bringBack_11 : decode cX1_bringBack 11 = .ok (.irem, 1) := by decide +kernel
theorem dX1_bringBack_12 : decode cX1_bringBack 12 = .ok (.istore_n 2, 1) := by decide +kernel
theorem dX1_bringBack_13 : decode cX1_bringBack 13 = .ok (.aload_n 0, 1) := by decide +kernel
theorem dX1_bringBack_14 : decode cX1_bringBack 14 = .ok (.getfield 26, 3) := by decide +kernel
theorem dX1_bringBack_17 : decode cX1_bringBack 17 = .ok (.ifCond .le 37, 3) := by decide +kernel
theorem dX1_bringBack_20 : decode cX1_bringBack 20 = .ok (.aload_n 0, 1) := by decide +kernel
theorem dX1_bringBack_21 : decode cX1_bringBack 21 = .ok (.getfield 11, 3) := by decide +kernel
theorem dX1_bringBack_24 : decode cX1_bringBack 24 = .ok (.iload_n 2, 1) := by decide +kernel
theorem dX1_bringBack_25 : decode cX1_bringBack 25 = .ok (.aaload, 1) := by decide +kernel
theorem dX1_bringBack_26 : decode cX1_bringBack 26 = .ok (.ifnull 28, 3) := by decide +kernel
theorem dX1_bringBack_29 : decode cX1_bringBack 29 = .ok (.aload_n 1, 1) := by decide +kernel
theorem dX1_bringBack_30 : decode cX1_bringBack 30 = .ok (.aload_n 0, 1) := by decide +kernel
theorem dX1_bringBack_31 : decode cX1_bringBack 31 = .ok (.getfield 11, 3) := by decide +kernel
theorem dX1_bringBack_34 : decode cX1_bringBack 34 = .ok (.iload_n 2, 1) := by decide +kernel
theorem dX1_bringBack_35 : decode cX1_bringBack 35 = .ok (.aaload, 1) := by decide +kernel
theorem dX1_bringBack_36 : decode cX1_bringBack 36 = .ok (.invokevirtual 22, 3) := by decide +kernel
theorem dX1_bringBack_39 : decode cX1_bringBack 39 = .ok (.aload_n 0, 1) := by decide +kernel
theorem dX1_bringBack_40 : decode cX1_bringBack 40 = .ok (.iload_n 2, 1) := by decide +kernel
theorem dX1_bringBack_41 : decode cX1_bringBack 41 = .ok (.putfield 17, 3) := by decide +kernel
theorem dX1_bringBack_44 : decode cX1_bringBack 44 = .ok (.aload_n 0, 1) := by decide +kernel
theorem dX1_bringBack_45 : decode cX1_bringBack 45 = .ok (.dup, 1) := by decide +kernel
theorem dX1_bringBack_46 : decode cX1_bringBack 46 = .ok (.getfield 26, 3) := by decide +kernel
theorem dX1_bringBack_49 : decode cX1_bringBack 49 = .ok (.iconst 1, 1) := by decide +kernel
theorem dX1_bringBack_50 : decode cX1_bringBack 50 = .ok (.isub, 1) := by decide +kernel
theorem dX1_bringBack_51 : decode cX1_bringBack 51 = .ok (.putfield 26, 3) := by decide +kernel
theorem dX1_bringBack_54 : decode cX1_bringBack 54 = .ok (.return_, 1) := by decide +kernel
theorem dX2_init_0 : decode cX2_init 0 = .ok (.aload_n 0, 1) := by decide +kernel
theorem dX2_init_1 : decode cX2_init 1 = .ok (.invokespecial 3, 3) := by decide +kernel
theorem dX2_init_4 : decode cX2_init 4 = .ok (.aload_n 0, 1) := by decide +kernel
theorem dX2_init_5 : decode cX2_init 5 = .ok (.iload_n 1, 1) := by decide +kernel
theorem dX2_init_6 : decode cX2_init 6 = .ok (.putfield 9, 3) := by decide +kernel
theorem dX2_init_9 : decode cX2_init 9 = .ok (.aload_n 0, 1) := by decide +kernel
theorem dX2_init_10 : decode cX2_init 10 = .ok (.iload_n 2, 1) := by decide +kernel
theorem dX2_init_11 : decode cX2_init 11 = .ok (.putfield 15, 3) := by decide +kernel
theorem dX2_init_14 : decode cX2_init 14 = .ok (.aload_n 0, 1) := by decide +kernel
theorem dX2_init_15 : decode cX2_init 15 = .ok (.iload_n 1, 1) := by decide +kernel
theorem dX2_init_16 : decode cX2_init 16 = .ok (.iload_n 2, 1) := by decide +kernel
theorem dX2_init_17 : decode cX2_init 17 = .ok (.imul, 1) := by decide +kernel
theorem dX2_init_18 : decode cX2_init 18 = .ok (.newarray .int, 2) := by decide +kernel
theorem dX2_init_20 : decode cX2_init 20 = .ok (.putfield 18, 3) := by decide +kernel
theorem dX2_init_23 : decode cX2_init 23 = .ok (.aload_n 0, 1) := by decide +kernel
theorem dX2_init_24 : decode cX2_init 24 = .ok (.iload_n 1, 1) := by decide +kernel
theorem dX2_init_25 : decode cX2_init 25 = .ok (.newarray .int, 2) := by decide +kernel
theorem dX2_init_27 : decode cX2_init 27 = .ok (.putfield 22, 3) := by decide +kernel
theorem dX2_init_30 : decode cX2_init 30 = .ok (.return_, 1) := by decide +kernel
theorem dX2_clear_0 : decode cX2_clear 0 = .ok (.aload_n 0, 1) := by decide +kernel
theorem dX2_clear_1 : decode cX2_clear 1 = .ok (.iload_n 1, 1) := by decide +kernel
theorem dX2_clear_2 : decode cX2_clear 2 = .ok (.aload_n 0, 1) := by decide +kernel
theorem dX2_clear_3 : decode cX2_clear 3 = .ok (.getfield 9, 3) := by decide +kernel
theorem dX2_clear_6 : decode cX2_clear 6 = .ok (.invokestatic 25, 3) := by decide +kernel
theorem dX2_clear_9 : decode cX2_clear 9 = .ok (.putfield 31, 3) := by decide +kernel
theorem dX2_clear_12 : decode cX2_clear 12 = .ok (.aload_n 0, 1) := by decide +kernel
theorem dX2_clear_13 : decode cX2_clear 13 = .ok (.iload_n 2, 1) := by decide +kernel
theorem dX2_clear_14 : decode cX2_clear 14 = .ok (.aload_n 0, 1) := by decide +kernel
theorem dX2_clear_15 : decode cX2_clear 15 = .ok (.getfield 15, 3) := by decide +kernel
theorem dX2_clear_18 : decode cX2_clear 18 = .ok (.invokestatic 25, 3) := by decide +kernel
theorem dX2_clear_21 : decode cX2_clear 21 = .ok (.putfield 34, 3) := by decide +kernel
theorem dX2_clear_24 : decode cX2_clear 24 = .ok (.aload_n 0, 1) := by decide +kernel
theorem dX2_clear_25 : decode cX2_clear 25 = .ok (.getfield 18, 3) := by decide +kernel
theorem dX2_clear_28 : decode cX2_clear 28 = .ok (.iconst 0, 1) := by decide +kernel
theorem dX2_clear_29 : decode cX2_clear 29 = .ok (.invokestatic 37, 3) := by decide +kernel
theorem dX2_clear_32 : decode cX2_clear 32 = .ok (.return_, 1) := by decide +kernel
theorem dX2_has_0 : decode cX2_has 0 = .ok (.iload_n 1, 1) := by decide +kernel
theorem dX2_has_1 : decode cX2_has 1 = .ok (.ifCond .lt 27, 3) := by decide +kernel
theorem dX2_has_4 : decode cX2_has 4 = .ok (.iload_n 1, 1) := by decide +kernel
theorem dX2_has_5 : decode cX2_has 5 = .ok (.aload_n 0, 1) := by decide +kernel
theorem dX2_has_6 : decode cX2_has 6 = .ok (.getfield 31, 3) := by decide +kernel
theorem dX2_has_9 : decode cX2_has 9 = .ok (.if_icmp .ge 19, 3) := by decide +kernel
theorem dX2_has_12 : decode cX2_has 12 = .ok (.iload_n 2, 1) := by decide +kernel
theorem dX2_has_13 : decode cX2_has 13 = .ok (.ifCond .lt 15, 3) := by decide +kernel
theorem dX2_has_16 : decode cX2_has 16 = .ok (.iload_n 2, 1) := by decide +kernel
theorem dX2_has_17 : decode cX2_has 17 = .ok (.aload_n 0, 1) := by decide +kernel
theorem dX2_has_18 : decode cX2_has 18 = .ok (.getfield 34, 3) := by decide +kernel
theorem dX2_has_21 : decode cX2_has 21 = .ok (.if_icmp .ge 7, 3) := by decide +kernel
theorem dX2_has_24 : decode cX2_has 24 = .ok (.iconst 1, 1) := by decide +kernel
theorem dX2_has_25 : decode cX2_has 25 = .ok (.goto 4, 3) := by decide +kernel
theorem dX2_has_28 : decode cX2_has 28 = .ok (.iconst 0, 1) := by decide +kernel
theorem dX2_has_29 : decode cX2_has 29 = .ok (.ireturn, 1) := by decide +kernel
theorem dX2_at_0 : decode cX2_at 0 = .ok (.aload_n 0, 1) := by decide +kernel
theorem dX2_at_1 : decode cX2_at 1 = .ok (.iload_n 1, 1) := by decide +kernel
theorem dX2_at_2 : decode cX2_at 2 = .ok (.iload_n 2, 1) := by decide +kernel
theorem dX2_at_3 : decode cX2_at 3 = .ok (.invokevirtual 43, 3) := by decide +kernel
theorem dX2_at_6 : decode cX2_at 6 = .ok (.ifCond .eq 19, 3) := by decide +kernel
theorem dX2_at_9 : decode cX2_at 9 = .ok (.aload_n 0, 1) := by decide +kernel
theorem dX2_at_10 : decode cX2_at 10 = .ok (.getfield 18, 3) := by decide +kernel
theorem dX2_at_13 : decode cX2_at 13 = .ok (.iload_n 1, 1) := by decide +kernel
theorem dX2_at_14 : decode cX2_at 14 = .ok (.aload_n 0, 1) := by decide +kernel
theorem dX2_at_15 : decode cX2_at 15 = .ok (.getfield 15, 3) := by decide +kernel
theorem dX2_at_18 : decode cX2_at 18 = .ok (.imul, 1) := by decide +kernel
theorem dX2_at_19 : decode cX2_at 19 = .ok (.iload_n 2, 1) := by decide +kernel
theorem dX2_at_20 : decode cX2_at 20 = .ok (.iadd, 1) := by decide +kernel
theorem dX2_at_21 : decode cX2_at 21 = .ok (.iaload, 1) := by decide +kernel
theorem dX2_at_22 : decode cX2_at 22 = .ok (.goto 4, 3) := by decide +kernel
theorem dX2_at_25 : decode cX2_at 25 = .ok (.iconst 0, 1) := by decide +kernel
theorem dX2_at_26 : decode cX2_at 26 = .ok (.ireturn, 1) := by decide +kernel
theorem dX2_put_0 : decode cX2_put 0 = .ok (.aload_n 0, 1) := by decide +kernel
theorem dX2_put_1 : decode cX2_put 1 = .ok (.iload_n 1, 1) := by decide +kernel
theorem dX2_put_2 : decode cX2_put 2 = .ok (.iload_n 2, 1) := by decide +kernel
theorem dX2_put_3 : decode cX2_put 3 = .ok (.invokevirtual 43, 3) := by decide +kernel
theorem dX2_put_6 : decode cX2_put 6 = .ok (.ifCond .eq 17, 3) := by decide +kernel
theorem dX2_put_9 : decode cX2_put 9 = .ok (.aload_n 0, 1) := by decide +kernel
theorem dX2_put_10 : decode cX2_put 10 = .ok (.getfield 18, 3) := by decide +kernel
theorem dX2_put_13 : decode cX2_put 13 = .ok (.iload_n 1, 1) := by decide +kernel
theorem dX2_put_14 : decode cX2_put 14 = .ok (.aload_n 0, 1) := by decide +kernel
theorem dX2_put_15 : decode cX2_put 15 = .ok (.getfield 15, 3) := by decide +kernel
theorem dX2_put_18 : decode cX2_put 18 = .ok (.imul, 1) := by decide +kernel
theorem dX2_put_19 : decode cX2_put 19 = .ok (.iload_n 2, 1) := by decide +kernel
theorem dX2_put_20 : decode cX2_put 20 = .ok (.iadd, 1) := by decide +kernel
theorem dX2_put_21 : decode cX2_put 21 = .ok (.iload_n 3, 1) := by decide +kernel
theorem dX2_put_22 : decode cX2_put 22 = .ok (.iastore, 1) := by decide +kernel
theorem dX2_put_23 : decode cX2_put 23 = .ok (.return_, 1) := by decide +kernel
theorem dX2_becomeIdentity_0 : decode cX2_becomeIdentity 0 = .ok (.aload_n 0, 1) := by decide +kernel
theorem dX2_becomeIdentity_1 : decode cX2_becomeIdentity 1 = .ok (.iload_n 1, 1) := by decide +kernel
theorem dX2_becomeIdentity_2 : decode cX2_becomeIdentity 2 = .ok (.iload_n 1, 1) := by decide +kernel
theorem dX2_becomeIdentity_3 : decode cX2_becomeIdentity 3 = .ok (.invokevirtual 47, 3) := by decide +kernel
theorem dX2_becomeIdentity_6 : decode cX2_becomeIdentity 6 = .ok (.iconst 0, 1) := by decide +kernel
theorem dX2_becomeIdentity_7 : decode cX2_becomeIdentity 7 = .ok (.istore_n 2, 1) := by decide +kernel
theorem dX2_becomeIdentity_8 : decode cX2_becomeIdentity 8 = .ok (.iload_n 2, 1) := by decide +kernel
theorem dX2_becomeIdentity_9 : decode cX2_becomeIdentity 9 = .ok (.aload_n 0, 1) := by decide +kernel
theorem dX2_becomeIdentity_10 : decode cX2_becomeIdentity 10 = .ok (.getfield 31, 3) := by decide +kernel
theorem dX2_becomeIdentity_13 : decode cX2_becomeIdentity 13 = .ok (.if_icmp .ge 16, 3) := by decide +kernel
theorem dX2_becomeIdentity_16 : decode cX2_becomeIdentity 16 = .ok (.aload_n 0, 1) := by decide +kernel
theorem dX2_becomeIdentity_17 : decode cX2_becomeIdentity 17 = .ok (.iload_n 2, 1) := by decide +kernel
theorem dX2_becomeIdentity_18 : decode cX2_becomeIdentity 18 = .ok (.iload_n 2, 1) := by decide +kernel
theorem dX2_becomeIdentity_19 : decode cX2_becomeIdentity 19 = .ok (.iconst 1, 1) := by decide +kernel
theorem dX2_becomeIdentity_20 : decode cX2_becomeIdentity 20 = .ok (.invokevirtual 51, 3) := by decide +kernel
theorem dX2_becomeIdentity_23 : decode cX2_becomeIdentity 23 = .ok (.iinc 2 1, 3) := by decide +kernel
theorem dX2_becomeIdentity_26 : decode cX2_becomeIdentity 26 = .ok (.goto (-18), 3) := by decide +kernel
theorem dX2_becomeIdentity_29 : decode cX2_becomeIdentity 29 = .ok (.return_, 1) := by decide +kernel
theorem dX2_becomeShifted_0 : decode cX2_becomeShifted 0 = .ok (.aload_n 0, 1) := by decide +kernel
theorem dX2_becomeShifted_1 : decode cX2_becomeShifted 1 = .ok (.aload_n 1, 1) := by decide +kernel
theorem dX2_becomeShifted_2 : decode cX2_becomeShifted 2 = .ok (.getfield 31, 3) := by decide +kernel
theorem dX2_becomeShifted_5 : decode cX2_becomeShifted 5 = .ok (.aload_n 1, 1) := by decide +kernel
theorem dX2_becomeShifted_6 : decode cX2_becomeShifted 6 = .ok (.getfield 34, 3) := by decide +kernel
theorem dX2_becomeShifted_9 : decode cX2_becomeShifted 9 = .ok (.invokevirtual 47, 3) := by decide +kernel
theorem dX2_becomeShifted_12 : decode cX2_becomeShifted 12 = .ok (.aload_n 0, 1) := by decide +kernel
theorem dX2_becomeShifted_13 : decode cX2_becomeShifted 13 = .ok (.aload_n 1, 1) := by decide +kernel
theorem dX2_becomeShifted_14 : decode cX2_becomeShifted 14 = .ok (.iconst 0, 1) := by decide +kernel
theorem dX2_becomeShifted_15 : decode cX2_becomeShifted 15 = .ok (.invokevirtual 55, 3) := by decide +kernel
theorem dX2_becomeShifted_18 : decode cX2_becomeShifted 18 = .ok (.iconst 0, 1) := by decide +kernel
theorem dX2_becomeShifted_19 : decode cX2_becomeShifted 19 = .ok (.istore 4, 2) := by decide +kernel
theorem dX2_becomeShifted_21 : decode cX2_becomeShifted 21 = .ok (.iload 4, 2) := by decide +kernel
theorem dX2_becomeShifted_23 : decode cX2_becomeShifted 23 = .ok (.aload_n 0, 1) := by decide +kernel
theorem dX2_becomeShifted_24 : decode cX2_becomeShifted 24 = .ok (.getfield 31, 3) := by decide +kernel
theorem dX2_becomeShifted_27 : decode cX2_becomeShifted 27 = .ok (.if_icmp .ge 31, 3) := by decide +kernel
theorem dX2_becomeShifted_30 : decode cX2_becomeShifted 30 = .ok (.aload_n 0, 1) := by decide +kernel
theorem dX2_becomeShifted_31 : decode cX2_becomeShifted 31 = .ok (.iload 4, 2) := by decide +kernel
theorem dX2_becomeShifted_33 : decode cX2_becomeShifted 33 = .ok (.iload 4, 2) := by decide +kernel
theorem dX2_becomeShifted_35 : decode cX2_becomeShifted 35 = .ok (.aload_n 0, 1) := by decide +kernel
theorem dX2_becomeShifted_36 : decode cX2_becomeShifted 36 = .ok (.iload 4, 2) := by decide +kernel
theorem dX2_becomeShifted_38 : decode cX2_becomeShifted 38 = .ok (.iload 4, 2) := by decide +kernel
theorem dX2_becomeShifted_40 : decode cX2_becomeShifted 40 = .ok (.invokevirtual 59, 3) := by decide +kernel
theorem dX2_becomeShifted_43 : decode cX2_becomeShifted 43 = .ok (.iload_n 2, 1) := by decide +kernel
theorem dX2_becomeShifted_44 : decode cX2_becomeShifted 44 = .ok (.isub, 1) := by decide +kernel
theorem dX2_becomeShifted_45 : decode cX2_becomeShifted 45 = .ok (.iload_n 3, 1) := by decide +kernel
theorem dX2_becomeShifted_46 : decode cX2_becomeShifted 46 = .ok (.invokestatic 62, 3) := by decide +kernel
theorem dX2_becomeShifted_49 : decode cX2_becomeShifted 49 = .ok (.invokevirtual 51, 3) := by decide +kernel
theorem dX2_becomeShifted_52 : decode cX2_becomeShifted 52 = .ok (.iinc 4 1, 3) := by decide +kernel
theorem dX2_becomeShifted_55 : decode cX2_becomeShifted 55 = .ok (.goto (-34), 3) := by decide +kernel
theorem dX2_becomeShifted_58 : decode cX2_becomeShifted 58 = .ok (.return_, 1) := by decide +kernel
theorem dX2_copyRows_0 : decode cX2_copyRows 0 = .ok (.aload_n 1, 1) := by decide +kernel
theorem dX2_copyRows_1 : decode cX2_copyRows 1 = .ok (.getfield 31, 3) := by decide +kernel
theorem dX2_copyRows_4 : decode cX2_copyRows 4 = .ok (.aload_n 0, 1) := by decide +kernel
theorem dX2_copyRows_5 : decode cX2_copyRows 5 = .ok (.getfield 31, 3) := by decide +kernel
theorem dX2_copyRows_8 : decode cX2_copyRows 8 = .ok (.iload_n 2, 1) := by decide +kernel
theorem dX2_copyRows_9 : decode cX2_copyRows 9 = .ok (.isub, 1) := by decide +kernel
theorem dX2_copyRows_10 : decode cX2_copyRows 10 = .ok (.invokestatic 25, 3) := by decide +kernel
theorem dX2_copyRows_13 : decode cX2_copyRows 13 = .ok (.istore_n 3, 1) := by decide +kernel
theorem dX2_copyRows_14 : decode cX2_copyRows 14 = .ok (.aload_n 1, 1) := by decide +kernel
theorem dX2_copyRows_15 : decode cX2_copyRows 15 = .ok (.getfield 34, 3) := by decide +kernel
theorem dX2_copyRows_18 : decode cX2_copyRows 18 = .ok (.aload_n 0, 1) := by decide +kernel
theorem dX2_copyRows_19 : decode cX2_copyRows 19 = .ok (.getfield 34, 3) := by decide +kernel
theorem dX2_copyRows_22 : decode cX2_copyRows 22 = .ok (.invokestatic 25, 3) := by decide +kernel
theorem dX2_copyRows_25 : decode cX2_copyRows 25 = .ok (.istore 4, 2) := by decide +kernel
theorem dX2_copyRows_27 : decode cX2_copyRows 27 = .ok (.iconst 0, 1) := by decide +kernel
theorem dX2_copyRows_28 : decode cX2_copyRows 28 = .ok (.istore 5, 2) := by decide +kernel
theorem dX2_copyRows_30 : decode cX2_copyRows 30 = .ok (.iload 5, 2) := by decide +kernel
theorem dX2_copyRows_32 : decode cX2_copyRows 32 = .ok (.iload_n 3, 1) := by decide +kernel
theorem dX2_copyRows_33 : decode cX2_copyRows 33 = .ok (.if_icmp .ge 47, 3) := by decide +kernel
theorem dX2_copyRows_36 : decode cX2_copyRows 36 = .ok (.iload_n 2, 1) := by decide +kernel
theorem dX2_copyRows_37 : decode cX2_copyRows 37 = .ok (.ifCond .lt 43, 3) := by decide +kernel
theorem dX2_copyRows_40 : decode cX2_copyRows 40 = .ok (.iload 4, 2) := by decide +kernel
theorem dX2_copyRows_42 : decode cX2_copyRows 42 = .ok (.ifCond .le 38, 3) := by decide +kernel
theorem dX2_copyRows_45 : decode cX2_copyRows 45 = .ok (.aload_n 1, 1) := by decide +kernel
theorem dX2_copyRows_46 : decode cX2_copyRows 46 = .ok (.getfield 18, 3) := by decide +kernel
theorem dX2_copyRows_49 : decode cX2_copyRows 49 = .ok (.iload 5, 2) := by decide +kernel
theorem dX2_copyRows_51 : decode cX2_copyRows 51 = .ok (.aload_n 1, 1) := by decide +kernel
theorem dX2_copyRows_52 : decode cX2_copyRows 52 = .ok (.getfield 15, 3) := by decide +kernel
theorem dX2_copyRows_55 : decode cX2_copyRows 55 = .ok (.imul, 1) := by decide +kernel
theorem dX2_copyRows_56 : decode cX2_copyRows 56 = .ok (.aload_n 0, 1) := by decide +kernel
theorem dX2_copyRows_57 : decode cX2_copyRows 57 = .ok (.getfield 18, 3) := by decide +kernel
theorem dX2_copyRows_60 : decode cX2_copyRows 60 = .ok (.iload_n 2, 1) := by decide +kernel
theorem dX2_copyRows_61 : decode cX2_copyRows 61 = .ok (.iload 5, 2) := by decide +kernel
theorem dX2_copyRows_63 : decode cX2_copyRows 63 = .ok (.iadd, 1) := by decide +kernel
theorem dX2_copyRows_64 : decode cX2_copyRows 64 = .ok (.aload_n 0, 1) := by decide +kernel
theorem dX2_copyRows_65 : decode cX2_copyRows 65 = .ok (.getfield 15, 3) := by decide +kernel
theorem dX2_copyRows_68 : decode cX2_copyRows 68 = .ok (.imul, 1) := by decide +kernel
theorem dX2_copyRows_69 : decode cX2_copyRows 69 = .ok (.iload 4, 2) := by decide +kernel
theorem dX2_copyRows_71 : decode cX2_copyRows 71 = .ok (.invokestatic 65, 3) := by decide +kernel
theorem dX2_copyRows_74 : decode cX2_copyRows 74 = .ok (.iinc 5 1, 3) := by decide +kernel
theorem dX2_copyRows_77 : decode cX2_copyRows 77 = .ok (.goto (-47), 3) := by decide +kernel
theorem dX2_copyRows_80 : decode cX2_copyRows 80 = .ok (.return_, 1) := by decide +kernel
theorem dX2_becomeProduct_0 : decode cX2_becomeProduct 0 = .ok (.aload_n 0, 1) := by decide +kernel
theorem dX2_becomeProduct_1 : decode cX2_becomeProduct 1 = .ok (.aload_n 1, 1) := by decide +kernel
theorem dX2_becomeProduct_2 : decode cX2_becomeProduct 2 = .ok (.getfield 31, 3) := by decide +kernel
theorem dX2_becomeProduct_5 : decode cX2_becomeProduct 5 = .ok (.aload_n 2, 1) := by decide +kernel
theorem dX2_becomeProduct_6 : decode cX2_becomeProduct 6 = .ok (.getfield 34, 3) := by decide +kernel
theorem dX2_becomeProduct_9 : decode cX2_becomeProduct 9 = .ok (.invokevirtual 47, 3) := by decide +kernel
theorem dX2_becomeProduct_12 : decode cX2_becomeProduct 12 = .ok (.aload_n 1, 1) := by decide +kernel
theorem dX2_becomeProduct_13 : decode cX2_becomeProduct 13 = .ok (.getfield 34, 3) := by decide +kernel
theorem dX2_becomeProduct_16 : decode cX2_becomeProduct 16 = .ok (.aload_n 2, 1) := by decide +kernel
theorem dX2_becomeProduct_17 : decode cX2_becomeProduct 17 = .ok (.getfield 31, 3) := by decide +kernel
theorem dX2_becomeProduct_20 : decode cX2_becomeProduct 20 = .ok (.invokestatic 25, 3) := by decide +kernel
theorem dX2_becomeProduct_23 : decode cX2_becomeProduct 23 = .ok (.istore 4, 2) := by decide +kernel
theorem dX2_becomeProduct_25 : decode cX2_becomeProduct 25 = .ok (.iconst 0, 1) := by decide +kernel
theorem dX2_becomeProduct_26 : decode cX2_becomeProduct 26 = .ok (.istore 5, 2) := by decide +kernel
theorem dX2_becomeProduct_28 : decode cX2_becomeProduct 28 = .ok (.iload 5, 2) := by decide +kernel
theorem dX2_becomeProduct_30 : decode cX2_becomeProduct 30 = .ok (.aload_n 0, 1) := by decide +kernel
theorem dX2_becomeProduct_31 : decode cX2_becomeProduct 31 = .ok (.getfield 31, 3) := by decide +kernel
theorem dX2_becomeProduct_34 : decode cX2_becomeProduct 34 = .ok (.if_icmp .ge 103, 3) := by decide +kernel
theorem dX2_becomeProduct_37 : decode cX2_becomeProduct 37 = .ok (.iconst 0, 1) := by decide +kernel
theorem dX2_becomeProduct_38 : decode cX2_becomeProduct 38 = .ok (.istore 6, 2) := by decide +kernel
theorem dX2_becomeProduct_40 : decode cX2_becomeProduct 40 = .ok (.iload 6, 2) := by decide +kernel
theorem dX2_becomeProduct_42 : decode cX2_becomeProduct 42 = .ok (.aload_n 0, 1) := by decide +kernel
theorem dX2_becomeProduct_43 : decode cX2_becomeProduct 43 = .ok (.getfield 34, 3) := by decide +kernel
theorem dX2_becomeProduct_46 : decode cX2_becomeProduct 46 = .ok (.if_icmp .ge 85, 3) := by decide +kernel
theorem dX2_becomeProduct_49 : decode cX2_becomeProduct 49 = .ok (.iconst 0, 1) := by decide +kernel
theorem dX2_becomeProduct_50 : decode cX2_becomeProduct 50 = .ok (.istore 7, 2) := by decide +kernel
theorem dX2_becomeProduct_52 : decode cX2_becomeProduct 52 = .ok (.iconst 0, 1) := by decide +kernel
theorem dX2_becomeProduct_53 : decode cX2_becomeProduct 53 = .ok (.istore 8, 2) := by decide +kernel
theorem dX2_becomeProduct_55 : decode cX2_becomeProduct 55 = .ok (.iload 8, 2) := by decide +kernel
theorem dX2_becomeProduct_57 : decode cX2_becomeProduct 57 = .ok (.iload 4, 2) := by decide +kernel
theorem dX2_becomeProduct_59 : decode cX2_becomeProduct 59 = .ok (.if_icmp .ge 45, 3) := by decide +kernel
theorem dX2_becomeProduct_62 : decode cX2_becomeProduct 62 = .ok (.iload 7, 2) := by decide +kernel
theorem dX2_becomeProduct_64 : decode cX2_becomeProduct 64 = .ok (.aload_n 1, 1) := by decide +kernel
theorem dX2_becomeProduct_65 : decode cX2_becomeProduct 65 = .ok (.getfield 18, 3) := by decide +kernel
theorem dX2_becomeProduct_68 : decode cX2_becomeProduct 68 = .ok (.iload 5, 2) := by decide +kernel
theorem dX2_becomeProduct_70 : decode cX2_becomeProduct 70 = .ok (.aload_n 1, 1) := by decide +kernel
theorem dX2_becomeProduct_71 : decode cX2_becomeProduct 71 = .ok (.getfield 15, 3) := by decide +kernel
theorem dX2_becomeProduct_74 : decode cX2_becomeProduct 74 = .ok (.imul, 1) := by decide +kernel
theorem dX2_becomeProduct_75 : decode cX2_becomeProduct 75 = .ok (.iload 8, 2) := by decide +kernel
theorem dX2_becomeProduct_77 : decode cX2_becomeProduct 77 = .ok (.iadd, 1) := by decide +kernel
theorem dX2_becomeProduct_78 : decode cX2_becomeProduct 78 = .ok (.iaload, 1) := by decide +kernel
theorem dX2_becomeProduct_79 : decode cX2_becomeProduct 79 = .ok (.aload_n 2, 1) := by decide +kernel
theorem dX2_becomeProduct_80 : decode cX2_becomeProduct 80 = .ok (.getfield 18, 3) := by decide +kernel
theorem dX2_becomeProduct_83 : decode cX2_becomeProduct 83 = .ok (.iload 8, 2) := by decide +kernel
theorem dX2_becomeProduct_85 : decode cX2_becomeProduct 85 = .ok (.aload_n 2, 1) := by decide +kernel
theorem dX2_becomeProduct_86 : decode cX2_becomeProduct 86 = .ok (.getfield 15, 3) := by decide +kernel
theorem dX2_becomeProduct_89 : decode cX2_becomeProduct 89 = .ok (.imul, 1) := by decide +kernel
theorem dX2_becomeProduct_90 : decode cX2_becomeProduct 90 = .ok (.iload 6, 2) := by decide +kernel
theorem dX2_becomeProduct_92 : decode cX2_becomeProduct 92 = .ok (.iadd, 1) := by decide +kernel
theorem dX2_becomeProduct_93 : decode cX2_becomeProduct 93 = .ok (.iaload, 1) := by decide +kernel
theorem dX2_becomeProduct_94 : decode cX2_becomeProduct 94 = .ok (.imul, 1) := by decide +kernel
theorem dX2_becomeProduct_95 : decode cX2_becomeProduct 95 = .ok (.iadd, 1) := by decide +kernel
theorem dX2_becomeProduct_96 : decode cX2_becomeProduct 96 = .ok (.istore 7, 2) := by decide +kernel
theorem dX2_becomeProduct_98 : decode cX2_becomeProduct 98 = .ok (.iinc 8 1, 3) := by decide +kernel
theorem dX2_becomeProduct_101 : decode cX2_becomeProduct 101 = .ok (.goto (-46), 3) := by decide +kernel
theorem dX2_becomeProduct_104 : decode cX2_becomeProduct 104 = .ok (.aload_n 0, 1) := by decide +kernel
theorem dX2_becomeProduct_105 : decode cX2_becomeProduct 105 = .ok (.getfield 18, 3) := by decide +kernel
theorem dX2_becomeProduct_108 : decode cX2_becomeProduct 108 = .ok (.iload 5, 2) := by decide +kernel
theorem dX2_becomeProduct_110 : decode cX2_becomeProduct 110 = .ok (.aload_n 0, 1) := by decide +kernel
theorem dX2_becomeProduct_111 : decode cX2_becomeProduct 111 = .ok (.getfield 15, 3) := by decide +kernel
theorem dX2_becomeProduct_114 : decode cX2_becomeProduct 114 = .ok (.imul, 1) := by decide +kernel
theorem dX2_becomeProduct_115 : decode cX2_becomeProduct 115 = .ok (.iload 6, 2) := by decide +kernel
theorem dX2_becomeProduct_117 : decode cX2_becomeProduct 117 = .ok (.iadd, 1) := by decide +kernel
theorem dX2_becomeProduct_118 : decode cX2_becomeProduct 118 = .ok (.iload 7, 2) := by decide +kernel
theorem dX2_becomeProduct_120 : decode cX2_becomeProduct 120 = .ok (.iload_n 3, 1) := by decide +kernel
theorem dX2_becomeProduct_121 : decode cX2_becomeProduct 121 = .ok (.invokestatic 62, 3) := by decide +kernel
theorem dX2_becomeProduct_124 : decode cX2_becomeProduct 124 = .ok (.iastore, 1) := by decide +kernel
theorem dX2_becomeProduct_125 : decode cX2_becomeProduct 125 = .ok (.iinc 6 1, 3) := by decide +kernel
theorem dX2_becomeProduct_128 : decode cX2_becomeProduct 128 = .ok (.goto (-88), 3) := by decide +kernel
theorem dX2_becomeProduct_131 : decode cX2_becomeProduct 131 = .ok (.iinc 5 1, 3) := by decide +kernel
theorem dX2_becomeProduct_134 : decode cX2_becomeProduct 134 = .ok (.goto (-106), 3) := by decide +kernel
theorem dX2_becomeProduct_137 : decode cX2_becomeProduct 137 = .ok (.return_, 1) := by decide +kernel
theorem dX2_becomePower_0 : decode cX2_becomePower 0 = .ok (.aload_n 0, 1) := by decide +kernel
theorem dX2_becomePower_1 : decode cX2_becomePower 1 = .ok (.aload_n 1, 1) := by decide +kernel
theorem dX2_becomePower_2 : decode cX2_becomePower 2 = .ok (.getfield 31, 3) := by decide +kernel
theorem dX2_becomePower_5 : decode cX2_becomePower 5 = .ok (.invokevirtual 71, 3) := by decide +kernel
theorem dX2_becomePower_8 : decode cX2_becomePower 8 = .ok (.iload_n 2, 1) := by decide +kernel
theorem dX2_becomePower_9 : decode cX2_becomePower 9 = .ok (.istore 5, 2) := by decide +kernel
theorem dX2_becomePower_11 : decode cX2_becomePower 11 = .ok (.iload 5, 2) := by decide +kernel
theorem dX2_becomePower_13 : decode cX2_becomePower 13 = .ok (.ifCond .le 54, 3) := by decide +kernel
theorem dX2_becomePower_16 : decode cX2_becomePower 16 = .ok (.iload 5, 2) := by decide +kernel
theorem dX2_becomePower_18 : decode cX2_becomePower 18 = .ok (.iconst 1, 1) := by decide +kernel
theorem dX2_becomePower_19 : decode cX2_becomePower 19 = .ok (.iand, 1) := by decide +kernel
theorem dX2_becomePower_20 : decode cX2_becomePower 20 = .ok (.iconst 1, 1) := by decide +kernel
theorem dX2_becomePower_21 : decode cX2_becomePower 21 = .ok (.if_icmp .ne 17, 3) := by decide +kernel
theorem dX2_becomePower_24 : decode cX2_becomePower 24 = .ok (.aload_n 3, 1) := by decide +kernel
theorem dX2_becomePower_25 : decode cX2_becomePower 25 = .ok (.aload_n 0, 1) := by decide +kernel
theorem dX2_becomePower_26 : decode cX2_becomePower 26 = .ok (.aload_n 1, 1) := by decide +kernel
theorem dX2_becomePower_27 : decode cX2_becomePower 27 = .ok (.iload 4, 2) := by decide +kernel
theorem dX2_becomePower_29 : decode cX2_becomePower 29 = .ok (.invokevirtual 75, 3) := by decide +kernel
theorem dX2_becomePower_32 : decode cX2_becomePower 32 = .ok (.aload_n 0, 1) := by decide +kernel
theorem dX2_becomePower_33 : decode cX2_becomePower 33 = .ok (.aload_n 3, 1) := by decide +kernel
theorem dX2_becomePower_34 : decode cX2_becomePower 34 = .ok (.iconst 0, 1) := by decide +kernel
theorem dX2_becomePower_35 : decode cX2_becomePower 35 = .ok (.invokevirtual 55, 3) := by decide +kernel
theorem dX2_becomePower_38 : decode cX2_becomePower 38 = .ok (.iload 5, 2) := by decide +kernel
theorem dX2_becomePower_40 : decode cX2_becomePower 40 = .ok (.iconst 1, 1) := by decide +kernel
theorem dX2_becomePower_41 : decode cX2_becomePower 41 = .ok (.if_icmp .le 17, 3) := by decide +kernel
theorem dX2_becomePower_44 : decode cX2_becomePower 44 = .ok (.aload_n 3, 1) := by decide +kernel
theorem dX2_becomePower_45 : decode cX2_becomePower 45 = .ok (.aload_n 1, 1) := by decide +kernel
theorem dX2_becomePower_46 : decode cX2_becomePower 46 = .ok (.aload_n 1, 1) := by decide +kernel
theorem dX2_becomePower_47 : decode cX2_becomePower 47 = .ok (.iload 4, 2) := by decide +kernel
theorem dX2_becomePower_49 : decode cX2_becomePower 49 = .ok (.invokevirtual 75, 3) := by decide +kernel
theorem dX2_becomePower_52 : decode cX2_becomePower 52 = .ok (.aload_n 1, 1) := by decide +kernel
theorem dX2_becomePower_53 : decode cX2_becomePower 53 = .ok (.aload_n 3, 1) := by decide +kernel
theorem dX2_becomePower_54 : decode cX2_becomePower 54 = .ok (.iconst 0, 1) := by decide +kernel
theorem dX2_becomePower_55 : decode cX2_becomePower 55 = .ok (.invokevirtual 55, 3) := by decide +kernel
theorem dX2_becomePower_58 : decode cX2_becomePower 58 = .ok (.iload 5, 2) := by decide +kernel
theorem dX2_becomePower_60 : decode cX2_becomePower 60 = .ok (.iconst 1, 1) := by decide +kernel
theorem dX2_becomePower_61 : decode cX2_becomePower 61 = .ok (.ishr, 1) := by decide +kernel
theorem dX2_becomePower_62 : decode cX2_becomePower 62 = .ok (.istore 5, 2) := by decide +kernel
theorem dX2_becomePower_64 : decode cX2_becomePower 64 = .ok (.goto (-53), 3) := by decide +kernel
theorem dX2_becomePower_67 : decode cX2_becomePower 67 = .ok (.return_, 1) := by decide +kernel
theorem dX2_traceOfProduct_0 : decode cX2_traceOfProduct 0 = .ok (.iconst 0, 1) := by decide +kernel
theorem dX2_traceOfProduct_1 : decode cX2_traceOfProduct 1 = .ok (.istore_n 3, 1) := by decide +kernel
theorem dX2_traceOfProduct_2 : decode cX2_traceOfProduct 2 = .ok (.iconst 0, 1) := by decide +kernel
theorem dX2_traceOfProduct_3 : decode cX2_traceOfProduct 3 = .ok (.istore 4, 2) := by decide +kernel
theorem dX2_traceOfProduct_5 : decode cX2_traceOfProduct 5 = .ok (.iload 4, 2) := by decide +kernel
theorem dX2_traceOfProduct_7 : decode cX2_traceOfProduct 7 = .ok (.aload_n 0, 1) := by decide +kernel
theorem dX2_traceOfProduct_8 : decode cX2_traceOfProduct 8 = .ok (.getfield 31, 3) := by decide +kernel
theorem dX2_traceOfProduct_11 : decode cX2_traceOfProduct 11 = .ok (.if_icmp .ge 47, 3) := by decide +kernel
theorem dX2_traceOfProduct_14 : decode cX2_traceOfProduct 14 = .ok (.iconst 0, 1) := by decide +kernel
theorem dX2_traceOfProduct_15 : decode cX2_traceOfProduct 15 = .ok (.istore 5, 2) := by decide +kernel
theorem dX2_traceOfProduct_17 : decode cX2_traceOfProduct 17 = .ok (.iload 5, 2) := by decide +kernel
theorem dX2_traceOfProduct_19 : decode cX2_traceOfProduct 19 = .ok (.aload_n 0, 1) := by decide +kernel
theorem dX2_traceOfProduct_20 : decode cX2_traceOfProduct 20 = .ok (.getfield 34, 3) := by decide +kernel
theorem dX2_traceOfProduct_23 : decode cX2_traceOfProduct 23 = .ok (.if_icmp .ge 29, 3) := by decide +kernel
theorem dX2_traceOfProduct_26 : decode cX2_traceOfProduct 26 = .ok (.iload_n 3, 1) := by decide +kernel
theorem dX2_traceOfProduct_27 : decode cX2_traceOfProduct 27 = .ok (.aload_n 0, 1) := by decide +kernel
theorem dX2_traceOfProduct_28 : decode cX2_traceOfProduct 28 = .ok (.iload 4, 2) := by decide +kernel
theorem dX2_traceOfProduct_30 : decode cX2_traceOfProduct 30 = .ok (.iload 5, 2) := by decide +kernel
theorem dX2_traceOfProduct_32 : decode cX2_traceOfProduct 32 = .ok (.invokevirtual 59, 3) := by decide +kernel
theorem dX2_traceOfProduct_35 : decode cX2_traceOfProduct 35 = .ok (.aload_n 1, 1) := by decide +kernel
theorem dX2_traceOfProduct_36 : decode cX2_traceOfProduct 36 = .ok (.iload 5, 2) := by decide +kernel
theorem dX2_traceOfProduct_38 : decode cX2_traceOfProduct 38 = .ok (.iload 4, 2) := by decide +kernel
theorem dX2_traceOfProduct_40 : decode cX2_traceOfProduct 40 = .ok (.invokevirtual 59, 3) := by decide +kernel
theorem dX2_traceOfProduct_43 : decode cX2_traceOfProduct 43 = .ok (.imul, 1) := by decide +kernel
theorem dX2_traceOfProduct_44 : decode cX2_traceOfProduct 44 = .ok (.iadd, 1) := by decide +kernel
theorem dX2_traceOfProduct_45 : decode cX2_traceOfProduct 45 = .ok (.istore_n 3, 1) := by decide +kernel
theorem dX2_traceOfProduct_46 : decode cX2_traceOfProduct 46 = .ok (.iinc 5 1, 3) := by decide +kernel
theorem dX2_traceOfProduct_49 : decode cX2_traceOfProduct 49 = .ok (.goto (-32), 3) := by decide +kernel
theorem dX2_traceOfProduct_52 : decode cX2_traceOfProduct 52 = .ok (.iinc 4 1, 3) := by decide +kernel
theorem dX2_traceOfProduct_55 : decode cX2_traceOfProduct 55 = .ok (.goto (-50), 3) := by decide +kernel
theorem dX2_traceOfProduct_58 : decode cX2_traceOfProduct 58 = .ok (.iload_n 3, 1) := by decide +kernel
theorem dX2_traceOfProduct_59 : decode cX2_traceOfProduct 59 = .ok (.iload_n 2, 1) := by decide +kernel
theorem dX2_traceOfProduct_60 : decode cX2_traceOfProduct 60 = .ok (.invokestatic 62, 3) := by decide +kernel
theorem dX2_traceOfProduct_63 : decode cX2_traceOfProduct 63 = .ok (.ireturn, 1) := by decide +kernel
theorem dX2_applyTo_0 : decode cX2_applyTo 0 = .ok (.aload_n 0, 1) := by decide +kernel
theorem dX2_applyTo_1 : decode cX2_applyTo 1 = .ok (.getfield 31, 3) := by decide +kernel
theorem dX2_applyTo_4 : decode cX2_applyTo 4 = .ok (.aload_n 0, 1) := by decide +kernel
theorem dX2_applyTo_5 : decode cX2_applyTo 5 = .ok (.getfield 34, 3) := by decide +kernel
theorem dX2_applyTo_8 : decode cX2_applyTo 8 = .ok (.invokestatic 25, 3) := by decide +kernel
theorem dX2_applyTo_11 : decode cX2_applyTo 11 = .ok (.aload_n 1, 1) := by decide +kernel
theorem dX2_applyTo_12 : decode cX2_applyTo 12 = .ok (.arraylength, 1) := by decide +kernel
theorem dX2_applyTo_13 : decode cX2_applyTo 13 = .ok (.aload_n 2, 1) := by decide +kernel
theorem dX2_applyTo_14 : decode cX2_applyTo 14 = .ok (.arraylength, 1) := by decide +kernel
theorem dX2_applyTo_15 : decode cX2_applyTo 15 = .ok (.invokestatic 25, 3) := by decide +kernel
theorem dX2_applyTo_18 : decode cX2_applyTo 18 = .ok (.invokestatic 25, 3) := by decide +kernel
theorem dX2_applyTo_21 : decode cX2_applyTo 21 = .ok (.istore 4, 2) := by decide +kernel
theorem dX2_applyTo_23 : decode cX2_applyTo 23 = .ok (.iconst 0, 1) := by decide +kernel
theorem dX2_applyTo_24 : decode cX2_applyTo 24 = .ok (.istore 5, 2) := by decide +kernel
theorem dX2_applyTo_26 : decode cX2_applyTo 26 = .ok (.iload 5, 2) := by decide +kernel
theorem dX2_applyTo_28 : decode cX2_applyTo 28 = .ok (.iload 4, 2) := by decide +kernel
theorem dX2_applyTo_30 : decode cX2_applyTo 30 = .ok (.if_icmp .ge 63, 3) := by decide +kernel
theorem dX2_applyTo_33 : decode cX2_applyTo 33 = .ok (.iconst 0, 1) := by decide +kernel
theorem dX2_applyTo_34 : decode cX2_applyTo 34 = .ok (.istore 6, 2) := by decide +kernel
theorem dX2_applyTo_36 : decode cX2_applyTo 36 = .ok (.iconst 0, 1) := by decide +kernel
theorem dX2_applyTo_37 : decode cX2_applyTo 37 = .ok (.istore 7, 2) := by decide +kernel
theorem dX2_applyTo_39 : decode cX2_applyTo 39 = .ok (.iload 7, 2) := by decide +kernel
theorem dX2_applyTo_41 : decode cX2_applyTo 41 = .ok (.iload 4, 2) := by decide +kernel
theorem dX2_applyTo_43 : decode cX2_applyTo 43 = .ok (.if_icmp .ge 34, 3) := by decide +kernel
theorem dX2_applyTo_46 : decode cX2_applyTo 46 = .ok (.iload 6, 2) := by decide +kernel
theorem dX2_applyTo_48 : decode cX2_applyTo 48 = .ok (.aload_n 0, 1) := by decide +kernel
theorem dX2_applyTo_49 : decode cX2_applyTo 49 = .ok (.getfield 18, 3) := by decide +kernel
theorem dX2_applyTo_52 : decode cX2_applyTo 52 = .ok (.iload 5, 2) := by decide +kernel
theorem dX2_applyTo_54 : decode cX2_applyTo 54 = .ok (.aload_n 0, 1) := by decide +kernel
theorem dX2_applyTo_55 : decode cX2_applyTo 55 = .ok (.getfield 15, 3) := by decide +kernel
theorem dX2_applyTo_58 : decode cX2_applyTo 58 = .ok (.imul, 1) := by decide +kernel
theorem dX2_applyTo_59 : decode cX2_applyTo 59 = .ok (.iload 7, 2) := by decide +kernel
theorem dX2_applyTo_61 : decode cX2_applyTo 61 = .ok (.iadd, 1) := by decide +kernel
theorem dX2_applyTo_62 : decode cX2_applyTo 62 = .ok (.iaload, 1) := by decide +kernel
theorem dX2_applyTo_63 : decode cX2_applyTo 63 = .ok (.aload_n 1, 1) := by decide +kernel
theorem dX2_applyTo_64 : decode cX2_applyTo 64 = .ok (.iload 7, 2) := by decide +kernel
theorem dX2_applyTo_66 : decode cX2_applyTo 66 = .ok (.iaload, 1) := by decide +kernel
theorem dX2_applyTo_67 : decode cX2_applyTo 67 = .ok (.imul, 1) := by decide +kernel
theorem dX2_applyTo_68 : decode cX2_applyTo 68 = .ok (.iadd, 1) := by decide +kernel
theorem dX2_applyTo_69 : decode cX2_applyTo 69 = .ok (.istore 6, 2) := by decide +kernel
theorem dX2_applyTo_71 : decode cX2_applyTo 71 = .ok (.iinc 7 1, 3) := by decide +kernel
theorem dX2_applyTo_74 : decode cX2_applyTo 74 = .ok (.goto (-35), 3) := by decide +kernel
theorem dX2_applyTo_77 : decode cX2_applyTo 77 = .ok (.aload_n 2, 1) := by decide +kernel
theorem dX2_applyTo_78 : decode cX2_applyTo 78 = .ok (.iload 5, 2) := by decide +kernel
theorem dX2_applyTo_80 : decode cX2_applyTo 80 = .ok (.iload 6, 2) := by decide +kernel
theorem dX2_applyTo_82 : decode cX2_applyTo 82 = .ok (.iload_n 3, 1) := by decide +kernel
theorem dX2_applyTo_83 : decode cX2_applyTo 83 = .ok (.invokestatic 62, 3) := by decide +kernel
theorem dX2_applyTo_86 : decode cX2_applyTo 86 = .ok (.iastore, 1) := by decide +kernel
theorem dX2_applyTo_87 : decode cX2_applyTo 87 = .ok (.iinc 5 1, 3) := by decide +kernel
theorem dX2_applyTo_90 : decode cX2_applyTo 90 = .ok (.goto (-64), 3) := by decide +kernel
theorem dX2_applyTo_93 : decode cX2_applyTo 93 = .ok (.aload_n 2, 1) := by decide +kernel
theorem dX2_applyTo_94 : decode cX2_applyTo 94 = .ok (.iconst 0, 1) := by decide +kernel
theorem dX2_applyTo_95 : decode cX2_applyTo 95 = .ok (.aload_n 1, 1) := by decide +kernel
theorem dX2_applyTo_96 : decode cX2_applyTo 96 = .ok (.iconst 0, 1) := by decide +kernel
theorem dX2_applyTo_97 : decode cX2_applyTo 97 = .ok (.iload 4, 2) := by decide +kernel
theorem dX2_applyTo_99 : decode cX2_applyTo 99 = .ok (.invokestatic 65, 3) := by decide +kernel
theorem dX2_applyTo_102 : decode cX2_applyTo 102 = .ok (.return_, 1) := by decide +kernel
theorem dX2_reduceRows_0 : decode cX2_reduceRows 0 = .ok (.aload_n 0, 1) := by decide +kernel
theorem dX2_reduceRows_1 : decode cX2_reduceRows 1 = .ok (.iconst 1, 1) := by decide +kernel
theorem dX2_reduceRows_2 : decode cX2_reduceRows 2 = .ok (.putfield 79, 3) := by decide +kernel
theorem dX2_reduceRows_5 : decode cX2_reduceRows 5 = .ok (.iconst 0, 1) := by decide +kernel
theorem dX2_reduceRows_6 : decode cX2_reduceRows 6 = .ok (.istore_n 2, 1) := by decide +kernel
theorem dX2_reduceRows_7 : decode cX2_reduceRows 7 = .ok (.iconst 0, 1) := by decide +kernel
theorem dX2_reduceRows_8 : decode cX2_reduceRows 8 = .ok (.istore_n 3, 1) := by decide +kernel
theorem dX2_reduceRows_9 : decode cX2_reduceRows 9 = .ok (.iload_n 3, 1) := by decide +kernel
theorem dX2_reduceRows_10 : decode cX2_reduceRows 10 = .ok (.aload_n 0, 1) := by decide +kernel
theorem dX2_reduceRows_11 : decode cX2_reduceRows 11 = .ok (.getfield 34, 3) := by decide +kernel
theorem dX2_reduceRows_14 : decode cX2_reduceRows 14 = .ok (.if_icmp .ge 117, 3) := by decide +kernel
theorem dX2_reduceRows_17 : decode cX2_reduceRows 17 = .ok (.iload_n 2, 1) := by decide +kernel
theorem dX2_reduceRows_18 : decode cX2_reduceRows 18 = .ok (.aload_n 0, 1) := by decide +kernel
theorem dX2_reduceRows_19 : decode cX2_reduceRows 19 = .ok (.getfield 31, 3) := by decide +kernel
theorem dX2_reduceRows_22 : decode cX2_reduceRows 22 = .ok (.if_icmp .ge 109, 3) := by decide +kernel
theorem dX2_reduceRows_25 : decode cX2_reduceRows 25 = .ok (.aload_n 0, 1) := by decide +kernel
theorem dX2_reduceRows_26 : decode cX2_reduceRows 26 = .ok (.iload_n 2, 1) := by decide +kernel
theorem dX2_reduceRows_27 : decode cX2_reduceRows 27 = .ok (.iload_n 3, 1) := by decide +kernel
theorem dX2_reduceRows_28 : decode cX2_reduceRows 28 = .ok (.invokevirtual 82, 3) := by decide +kernel
theorem dX2_reduceRows_31 : decode cX2_reduceRows 31 = .ok (.istore 4, 2) := by decide +kernel
theorem dX2_reduceRows_33 : decode cX2_reduceRows 33 = .ok (.iload 4, 2) := by decide +kernel
theorem dX2_reduceRows_35 : decode cX2_reduceRows 35 = .ok (.iconst (-1), 1) := by decide +kernel
theorem dX2_reduceRows_36 : decode cX2_reduceRows 36 = .ok (.if_icmp .ne 11, 3) := by decide +kernel
theorem dX2_reduceRows_39 : decode cX2_reduceRows 39 = .ok (.aload_n 0, 1) := by decide +kernel
theorem dX2_reduceRows_40 : decode cX2_reduceRows 40 = .ok (.iconst 0, 1) := by decide +kernel
theorem dX2_reduceRows_41 : decode cX2_reduceRows 41 = .ok (.putfield 79, 3) := by decide +kernel
theorem dX2_reduceRows_44 : decode cX2_reduceRows 44 = .ok (.goto 81, 3) := by decide +kernel
theorem dX2_reduceRows_47 : decode cX2_reduceRows 47 = .ok (.iload 4, 2) := by decide +kernel
theorem dX2_reduceRows_49 : decode cX2_reduceRows 49 = .ok (.iload_n 2, 1) := by decide +kernel
theorem dX2_reduceRows_50 : decode cX2_reduceRows 50 = .ok (.if_icmp .eq 23, 3) := by decide +kernel
theorem dX2_reduceRows_53 : decode cX2_reduceRows 53 = .ok (.aload_n 0, 1) := by decide +kernel
theorem dX2_reduceRows_54 : decode cX2_reduceRows 54 = .ok (.iload 4, 2) := by decide +kernel
theorem dX2_reduceRows_56 : decode cX2_reduceRows 56 = .ok (.iload_n 2, 1) := by decide +kernel
theorem dX2_reduceRows_57 : decode cX2_reduceRows 57 = .ok (.invokevirtual 85, 3) := by decide +kernel
theorem dX2_reduceRows_60 : decode cX2_reduceRows 60 = .ok (.aload_n 0, 1) := by decide +kernel
theorem dX2_reduceRows_61 : decode cX2_reduceRows 61 = .ok (.aload_n 0, 1) := by decide +kernel
theorem dX2_reduceRows_62 : decode cX2_reduceRows 62 = .ok (.getfield 79, 3) := by decide +kernel
theorem dX2_reduceRows_65 : decode cX2_reduceRows 65 = .ok (.ineg, 1) := by decide +kernel
theorem dX2_reduceRows_66 : decode cX2_reduceRows 66 = .ok (.iload_n 1, 1) := by decide +kernel
theorem dX2_reduceRows_67 : decode cX2_reduceRows 67 = .ok (.invokestatic 62, 3) := by decide +kernel
theorem dX2_reduceRows_70 : decode cX2_reduceRows 70 = .ok (.putfield 79, 3) := by decide +kernel
theorem dX2_reduceRows_73 : decode cX2_reduceRows 73 = .ok (.aload_n 0, 1) := by decide +kernel
theorem dX2_reduceRows_74 : decode cX2_reduceRows 74 = .ok (.aload_n 0, 1) := by decide +kernel
theorem dX2_reduceRows_75 : decode cX2_reduceRows 75 = .ok (.getfield 79, 3) := by decide +kernel
theorem dX2_reduceRows_78 : decode cX2_reduceRows 78 = .ok (.aload_n 0, 1) := by decide +kernel
theorem dX2_reduceRows_79 : decode cX2_reduceRows 79 = .ok (.iload_n 2, 1) := by decide +kernel
theorem dX2_reduceRows_80 : decode cX2_reduceRows 80 = .ok (.iload_n 3, 1) := by decide +kernel
theorem dX2_reduceRows_81 : decode cX2_reduceRows 81 = .ok (.invokevirtual 59, 3) := by decide +kernel
theorem dX2_reduceRows_84 : decode cX2_reduceRows 84 = .ok (.imul, 1) := by decide +kernel
theorem dX2_reduceRows_85 : decode cX2_reduceRows 85 = .ok (.iload_n 1, 1) := by decide +kernel
theorem dX2_reduceRows_86 : decode cX2_reduceRows 86 = .ok (.invokestatic 62, 3) := by decide +kernel
theorem dX2_reduceRows_89 : decode cX2_reduceRows 89 = .ok (.putfield 79, 3) := by decide +kernel
theorem dX2_reduceRows_92 : decode cX2_reduceRows 92 = .ok (.aload_n 0, 1) := by decide +kernel
theorem dX2_reduceRows_93 : decode cX2_reduceRows 93 = .ok (.iload_n 2, 1) := by decide +kernel
theorem dX2_reduceRows_94 : decode cX2_reduceRows 94 = .ok (.aload_n 0, 1) := by decide +kernel
theorem dX2_reduceRows_95 : decode cX2_reduceRows 95 = .ok (.iload_n 2, 1) := by decide +kernel
theorem dX2_reduceRows_96 : decode cX2_reduceRows 96 = .ok (.iload_n 3, 1) := by decide +kernel
theorem dX2_reduceRows_97 : decode cX2_reduceRows 97 = .ok (.invokevirtual 59, 3) := by decide +kernel
theorem dX2_reduceRows_100 : decode cX2_reduceRows 100 = .ok (.iload_n 1, 1) := by decide +kernel
theorem dX2_reduceRows_101 : decode cX2_reduceRows 101 = .ok (.invokestatic 88, 3) := by decide +kernel
theorem dX2_reduceRows_104 : decode cX2_reduceRows 104 = .ok (.iload_n 1, 1) := by decide +kernel
theorem dX2_reduceRows_105 : decode cX2_reduceRows 105 = .ok (.invokevirtual 91, 3) := by decide +kernel
theorem dX2_reduceRows_108 : decode cX2_reduceRows 108 = .ok (.aload_n 0, 1) := by decide +kernel
theorem dX2_reduceRows_109 : decode cX2_reduceRows 109 = .ok (.iload_n 2, 1) := by decide +kernel
theorem dX2_reduceRows_110 : decode cX2_reduceRows 110 = .ok (.iload_n 3, 1) := by decide +kernel
theorem dX2_reduceRows_111 : decode cX2_reduceRows 111 = .ok (.iload_n 1, 1) := by decide +kernel
theorem dX2_reduceRows_112 : decode cX2_reduceRows 112 = .ok (.invokevirtual 94, 3) := by decide +kernel
theorem dX2_reduceRows_115 : decode cX2_reduceRows 115 = .ok (.aload_n 0, 1) := by decide +kernel
theorem dX2_reduceRows_116 : decode cX2_reduceRows 116 = .ok (.getfield 22, 3) := by decide +kernel
theorem dX2_reduceRows_119 : decode cX2_reduceRows 119 = .ok (.iload_n 2, 1) := by decide +kernel
theorem dX2_reduceRows_120 : decode cX2_reduceRows 120 = .ok (.iload_n 3, 1) := by decide +kernel
theorem dX2_reduceRows_121 : decode cX2_reduceRows 121 = .ok (.iastore, 1) := by decide +kernel
theorem dX2_reduceRows_122 : decode cX2_reduceRows 122 = .ok (.iinc 2 1, 3) := by decide +kernel
theorem dX2_reduceRows_125 : decode cX2_reduceRows 125 = .ok (.iinc 3 1, 3) := by decide +kernel
theorem dX2_reduceRows_128 : decode cX2_reduceRows 128 = .ok (.goto (-119), 3) := by decide +kernel
theorem dX2_reduceRows_131 : decode cX2_reduceRows 131 = .ok (.iload_n 2, 1) := by decide +kernel
theorem dX2_reduceRows_132 : decode cX2_reduceRows 132 = .ok (.ireturn, 1) := by decide +kernel
theorem dX2_pivotRow_0 : decode cX2_pivotRow 0 = .ok (.iload_n 1, 1) := by decide +kernel
theorem dX2_pivotRow_1 : decode cX2_pivotRow 1 = .ok (.istore_n 3, 1) := by decide +kernel
theorem dX2_pivotRow_2 : decode cX2_pivotRow 2 = .ok (.iload_n 3, 1) := by decide +kernel
theorem dX2_pivotRow_3 : decode cX2_pivotRow 3 = .ok (.aload_n 0, 1) := by decide +kernel
theorem dX2_pivotRow_4 : decode cX2_pivotRow 4 = .ok (.getfield 31, 3) := by decide +kernel
theorem dX2_pivotRow_7 : decode cX2_pivotRow 7 = .ok (.if_icmp .ge 20, 3) := by decide +kernel
theorem dX2_pivotRow_10 : decode cX2_pivotRow 10 = .ok (.aload_n 0, 1) := by decide +kernel
theorem dX2_pivotRow_11 : decode cX2_pivotRow 11 = .ok (.iload_n 3, 1) := by decide +kernel
theorem dX2_pivotRow_12 : decode cX2_pivotRow 12 = .ok (.iload_n 2, 1) := by decide +kernel
theorem dX2_pivotRow_13 : decode cX2_pivotRow 13 = .ok (.invokevirtual 59, 3) := by decide +kernel
theorem dX2_pivotRow_16 : decode cX2_pivotRow 16 = .ok (.ifCond .eq 5, 3) := by decide +kernel
theorem dX2_pivotRow_19 : decode cX2_pivotRow 19 = .ok (.iload_n 3, 1) := by decide +kernel
theorem dX2_pivotRow_20 : decode cX2_pivotRow 20 = .ok (.ireturn, 1) := by decide +kernel
theorem dX2_pivotRow_21 : decode cX2_pivotRow 21 = .ok (.iinc 3 1, 3) := by decide +kernel
theorem dX2_pivotRow_24 : decode cX2_pivotRow 24 = .ok (.goto (-22), 3) := by decide +kernel
theorem dX2_pivotRow_27 : decode cX2_pivotRow 27 = .ok (.iconst (-1), 1) := by decide +kernel
theorem dX2_pivotRow_28 : decode cX2_pivotRow 28 = .ok (.ireturn, 1) := by decide +kernel
theorem dX2_swapRows_0 : decode cX2_swapRows 0 = .ok (.iconst 0, 1) := by decide +kernel
theorem dX2_swapRows_1 : decode cX2_swapRows 1 = .ok (.istore_n 3, 1) := by decide +kernel
theorem dX2_swapRows_2 : decode cX2_swapRows 2 = .ok (.iload_n 3, 1) := by decide +kernel
theorem dX2_swapRows_3 : decode cX2_swapRows 3 = .ok (.aload_n 0, 1) := by decide +kernel
theorem dX2_swapRows_4 : decode cX2_swapRows 4 = .ok (.getfield 34, 3) := by decide +kernel
theorem dX2_swapRows_7 : decode cX2_swapRows 7 = .ok (.if_icmp .ge 37, 3) := by decide +kernel
theorem dX2_swapRows_10 : decode cX2_swapRows 10 = .ok (.aload_n 0, 1) := by decide +kernel
theorem dX2_swapRows_11 : decode cX2_swapRows 11 = .ok (.iload_n 1, 1) := by decide +kernel
theorem dX2_swapRows_12 : decode cX2_swapRows 12 = .ok (.iload_n 3, 1) := by decide +kernel
theorem dX2_swapRows_13 : decode cX2_swapRows 13 = .ok (.invokevirtual 59, 3) := by decide +kernel
theorem dX2_swapRows_16 : decode cX2_swapRows 16 = .ok (.istore 4, 2) := by decide +kernel
theorem dX2_swapRows_18 : decode cX2_swapRows 18 = .ok (.aload_n 0, 1) := by decide +kernel
theorem dX2_swapRows_19 : decode cX2_swapRows 19 = .ok (.iload_n 1, 1) := by decide +kernel
theorem dX2_swapRows_20 : decode cX2_swapRows 20 = .ok (.iload_n 3, 1) := by decide +kernel
theorem dX2_swapRows_21 : decode cX2_swapRows 21 = .ok (.aload_n 0, 1) := by decide +kernel
theorem dX2_swapRows_22 : decode cX2_swapRows 22 = .ok (.iload_n 2, 1) := by decide +kernel
theorem dX2_swapRows_23 : decode cX2_swapRows 23 = .ok (.iload_n 3, 1) := by decide +kernel
theorem dX2_swapRows_24 : decode cX2_swapRows 24 = .ok (.invokevirtual 59, 3) := by decide +kernel
theorem dX2_swapRows_27 : decode cX2_swapRows 27 = .ok (.invokevirtual 51, 3) := by decide +kernel
theorem dX2_swapRows_30 : decode cX2_swapRows 30 = .ok (.aload_n 0, 1) := by decide +kernel
theorem dX2_swapRows_31 : decode cX2_swapRows 31 = .ok (.iload_n 2, 1) := by decide +kernel
theorem dX2_swapRows_32 : decode cX2_swapRows 32 = .ok (.iload_n 3, 1) := by decide +kernel
theorem dX2_swapRows_33 : decode cX2_swapRows 33 = .ok (.iload 4, 2) := by decide +kernel
theorem dX2_swapRows_35 : decode cX2_swapRows 35 = .ok (.invokevirtual 51, 3) := by decide +kernel
theorem dX2_swapRows_38 : decode cX2_swapRows 38 = .ok (.iinc 3 1, 3) := by decide +kernel
theorem dX2_swapRows_41 : decode cX2_swapRows 41 = .ok (.goto (-39), 3) := by decide +kernel
theorem dX2_swapRows_44 : decode cX2_swapRows 44 = .ok (.return_, 1) := by decide +kernel
theorem dX2_scaleRow_0 : decode cX2_scaleRow 0 = .ok (.iconst 0, 1) := by decide +kernel
theorem dX2_scaleRow_1 : decode cX2_scaleRow 1 = .ok (.istore 4, 2) := by decide +kernel
theorem dX2_scaleRow_3 : decode cX2_scaleRow 3 = .ok (.iload 4, 2) := by decide +kernel
theorem dX2_scaleRow_5 : decode cX2_scaleRow 5 = .ok (.aload_n 0, 1) := by decide +kernel
theorem dX2_scaleRow_6 : decode cX2_scaleRow 6 = .ok (.getfield 34, 3) := by decide +kernel
theorem dX2_scaleRow_9 : decode cX2_scaleRow 9 = .ok (.if_icmp .ge 29, 3) := by decide +kernel
theorem dX2_scaleRow_12 : decode cX2_scaleRow 12 = .ok (.aload_n 0, 1) := by decide +kernel
theorem dX2_scaleRow_13 : decode cX2_scaleRow 13 = .ok (.iload_n 1, 1) := by decide +kernel
theorem dX2_scaleRow_14 : decode cX2_scaleRow 14 = .ok (.iload 4, 2) := by decide +kernel
theorem dX2_scaleRow_16 : decode cX2_scaleRow 16 = .ok (.aload_n 0, 1) := by decide +kernel
theorem dX2_scaleRow_17 : decode cX2_scaleRow 17 = .ok (.iload_n 1, 1) := by decide +kernel
theorem dX2_scaleRow_18 : decode cX2_scaleRow 18 = .ok (.iload 4, 2) := by decide +kernel
theorem dX2_scaleRow_20 : decode cX2_scaleRow 20 = .ok (.invokevirtual 59, 3) := by decide +kernel
theorem dX2_scaleRow_23 : decode cX2_scaleRow 23 = .ok (.iload_n 2, 1) := by decide +kernel
theorem dX2_scaleRow_24 : decode cX2_scaleRow 24 = .ok (.imul, 1) := by decide +kernel
theorem dX2_scaleRow_25 : decode cX2_scaleRow 25 = .ok (.iload_n 3, 1) := by decide +kernel
theorem dX2_scaleRow_26 : decode cX2_scaleRow 26 = .ok (.invokestatic 62, 3) := by decide +kernel
theorem dX2_scaleRow_29 : decode cX2_scaleRow 29 = .ok (.invokevirtual 51, 3) := by decide +kernel
theorem dX2_scaleRow_32 : decode cX2_scaleRow 32 = .ok (.iinc 4 1, 3) := by decide +kernel
theorem dX2_scaleRow_35 : decode cX2_scaleRow 35 = .ok (.goto (-32), 3) := by decide +kernel
theorem dX2_scaleRow_38 : decode cX2_scaleRow 38 = .ok (.return_, 1) := by decide +kernel
theorem dX2_clearColumn_0 : decode cX2_clearColumn 0 = .ok (.iconst 0, 1) := by decide +kernel
theorem dX2_clearColumn_1 : decode cX2_clearColumn 1 = .ok (.istore 4, 2) := by decide +kernel
theorem dX2_clearColumn_3 : decode cX2_clearColumn 3 = .ok (.iload 4, 2) := by decide +kernel
theorem dX2_clearColumn_5 : decode cX2_clearColumn 5 = .ok (.aload_n 0, 1) := by decide +kernel
theorem dX2_clearColumn_6 : decode cX2_clearColumn 6 = .ok (.getfield 31, 3) := by decide +kernel
theorem dX2_clearColumn_9 : decode cX2_clearColumn 9 = .ok (.if_icmp .ge 39, 3) := by decide +kernel
theorem dX2_clearColumn_12 : decode cX2_clearColumn 12 = .ok (.aload_n 0, 1) := by decide +kernel
theorem dX2_clearColumn_13 : decode cX2_clearColumn 13 = .ok (.iload 4, 2) := by decide +kernel
theorem dX2_clearColumn_15 : decode cX2_clearColumn 15 = .ok (.iload_n 2, 1) := by decide +kernel
theorem dX2_clearColumn_16 : decode cX2_clearColumn 16 = .ok (.invokevirtual 59, 3) := by decide +kernel
theorem dX2_clearColumn_19 : decode cX2_clearColumn 19 = .ok (.istore 5, 2) := by decide +kernel
theorem dX2_clearColumn_21 : decode cX2_clearColumn 21 = .ok (.iload 4, 2) := by decide +kernel
theorem dX2_clearColumn_23 : decode cX2_clearColumn 23 = .ok (.iload_n 1, 1) := by decide +kernel
theorem dX2_clearColumn_24 : decode cX2_clearColumn 24 = .ok (.if_icmp .eq 18, 3) := by decide +kernel
theorem dX2_clearColumn_27 : decode cX2_clearColumn 27 = .ok (.iload 5, 2) := by decide +kernel
theorem dX2_clearColumn_29 : decode cX2_clearColumn 29 = .ok (.ifCond .eq 13, 3) := by decide +kernel
theorem dX2_clearColumn_32 : decode cX2_clearColumn 32 = .ok (.aload_n 0, 1) := by decide +kernel
theorem dX2_clearColumn_33 : decode cX2_clearColumn 33 = .ok (.iload 4, 2) := by decide +kernel
theorem dX2_clearColumn_35 : decode cX2_clearColumn 35 = .ok (.iload_n 1, 1) := by decide +kernel
theorem dX2_clearColumn_36 : decode cX2_clearColumn 36 = .ok (.iload 5, 2) := by decide +kernel
theorem dX2_clearColumn_38 : decode cX2_clearColumn 38 = .ok (.iload_n 3, 1) := by decide +kernel
theorem dX2_clearColumn_39 : decode cX2_clearColumn 39 = .ok (.invokevirtual 97, 3) := by decide +kernel
theorem dX2_clearColumn_42 : decode cX2_clearColumn 42 = .ok (.iinc 4 1, 3) := by decide +kernel
theorem dX2_clearColumn_45 : decode cX2_clearColumn 45 = .ok (.goto (-42), 3) := by decide +kernel
theorem dX2_clearColumn_48 : decode cX2_clearColumn 48 = .ok (.return_, 1) := by decide +kernel
theorem dX2_subtractRow_0 : decode cX2_subtractRow 0 = .ok (.iload_n 2, 1) := by decide +kernel
theorem dX2_subtractRow_1 : decode cX2_subtractRow 1 = .ok (.aload_n 0, 1) := by decide +kernel
theorem dX2_subtractRow_2 : decode cX2_subtractRow 2 = .ok (.getfield 15, 3) := by decide +kernel
theorem dX2_subtractRow_5 : decode cX2_subtractRow 5 = .ok (.imul, 1) := by decide +kernel
theorem dX2_subtractRow_6 : decode cX2_subtractRow 6 = .ok (.istore 5, 2) := by decide +kernel
theorem dX2_subtractRow_8 : decode cX2_subtractRow 8 = .ok (.iload_n 1, 1) := by decide +kernel
theorem dX2_subtractRow_9 : decode cX2_subtractRow 9 = .ok (.aload_n 0, 1) := by decide +kernel
theorem dX2_subtractRow_10 : decode cX2_subtractRow 10 = .ok (.getfield 15, 3) := by decide +kernel
theorem dX2_subtractRow_13 : decode cX2_subtractRow 13 = .ok (.imul, 1) := by decide +kernel
theorem dX2_subtractRow_14 : decode cX2_subtractRow 14 = .ok (.istore 6, 2) := by decide +kernel
theorem dX2_subtractRow_16 : decode cX2_subtractRow 16 = .ok (.iload_n 1, 1) := by decide +kernel
theorem dX2_subtractRow_17 : decode cX2_subtractRow 17 = .ok (.aload_n 0, 1) := by decide +kernel
theorem dX2_subtractRow_18 : decode cX2_subtractRow 18 = .ok (.getfield 31, 3) := by decide +kernel
theorem dX2_subtractRow_21 : decode cX2_subtractRow 21 = .ok (.iconst 1, 1) := by decide +kernel
theorem dX2_subtractRow_22 : decode cX2_subtractRow 22 = .ok (.isub, 1) := by decide +kernel
theorem dX2_subtractRow_23 : decode cX2_subtractRow 23 = .ok (.invokestatic 101, 3) := by decide +kernel
theorem dX2_subtractRow_26 : decode cX2_subtractRow 26 = .ok (.ifCond .ne 16, 3) := by decide +kernel
theorem dX2_subtractRow_29 : decode cX2_subtractRow 29 = .ok (.iload_n 2, 1) := by decide +kernel
theorem dX2_subtractRow_30 : decode cX2_subtractRow 30 = .ok (.aload_n 0, 1) := by decide +kernel
theorem dX2_subtractRow_31 : decode cX2_subtractRow 31 = .ok (.getfield 31, 3) := by decide +kernel
theorem dX2_subtractRow_34 : decode cX2_subtractRow 34 = .ok (.iconst 1, 1) := by decide +kernel
theorem dX2_subtractRow_35 : decode cX2_subtractRow 35 = .ok (.isub, 1) := by decide +kernel
theorem dX2_subtractRow_36 : decode cX2_subtractRow 36 = .ok (.invokestatic 101, 3) := by decide +kernel
theorem dX2_subtractRow_39 : decode cX2_subtractRow 39 = .ok (.ifCond .eq 4, 3) := by decide +kernel
theorem dX2_subtractRow_42 : decode cX2_subtractRow 42 = .ok (.return_, 1) := by decide +kernel
theorem dX2_subtractRow_43 : decode cX2_subtractRow 43 = .ok (.iconst 0, 1) := by decide +kernel
theorem dX2_subtractRow_44 : decode cX2_subtractRow 44 = .ok (.istore 7, 2) := by decide +kernel
theorem dX2_subtractRow_46 : decode cX2_subtractRow 46 = .ok (.iload 7, 2) := by decide +kernel
theorem dX2_subtractRow_48 : decode cX2_subtractRow 48 = .ok (.aload_n 0, 1) := by decide +kernel
theorem dX2_subtractRow_49 : decode cX2_subtractRow 49 = .ok (.getfield 34, 3) := by decide +kernel
theorem dX2_subtractRow_52 : decode cX2_subtractRow 52 = .ok (.if_icmp .ge 47, 3) := by decide +kernel
theorem dX2_subtractRow_55 : decode cX2_subtractRow 55 = .ok (.aload_n 0, 1) := by decide +kernel
theorem dX2_subtractRow_56 : decode cX2_subtractRow 56 = .ok (.getfield 18, 3) := by decide +kernel
theorem dX2_subtractRow_59 : decode cX2_subtractRow 59 = .ok (.iload 6, 2) := by decide +kernel
theorem dX2_subtractRow_61 : decode cX2_subtractRow 61 = .ok (.iload 7, 2) := by decide +kernel
theorem dX2_subtractRow_63 : decode cX2_subtractRow 63 = .ok (.iadd, 1) := by decide +kernel
theorem dX2_subtractRow_64 : decode cX2_subtractRow 64 = .ok (.aload_n 0, 1) := by decide +kernel
theorem dX2_subtractRow_65 : decode cX2_subtractRow 65 = .ok (.getfield 18, 3) := by decide +kernel
theorem dX2_subtractRow_68 : decode cX2_subtractRow 68 = .ok (.iload 6, 2) := by decide +kernel
theorem dX2_subtractRow_70 : decode cX2_subtractRow 70 = .ok (.iload 7, 2) := by decide +kernel
theorem dX2_subtractRow_72 : decode cX2_subtractRow 72 = .ok (.iadd, 1) := by decide +kernel
theorem dX2_subtractRow_73 : decode cX2_subtractRow 73 = .ok (.iaload, 1) := by decide +kernel
theorem dX2_subtractRow_74 : decode cX2_subtractRow 74 = .ok (.iload_n 3, 1) := by decide +kernel
theorem dX2_subtractRow_75 : decode cX2_subtractRow 75 = .ok (.aload_n 0, 1) := by decide +kernel
theorem dX2_subtractRow_76 : decode cX2_subtractRow 76 = .ok (.getfield 18, 3) := by decide +kernel
theorem dX2_subtractRow_79 : decode cX2_subtractRow 79 = .ok (.iload 5, 2) := by decide +kernel
theorem dX2_subtractRow_81 : decode cX2_subtractRow 81 = .ok (.iload 7, 2) := by decide +kernel
theorem dX2_subtractRow_83 : decode cX2_subtractRow 83 = .ok (.iadd, 1) := by decide +kernel
theorem dX2_subtractRow_84 : decode cX2_subtractRow 84 = .ok (.iaload, 1) := by decide +kernel
theorem dX2_subtractRow_85 : decode cX2_subtractRow 85 = .ok (.imul, 1) := by decide +kernel
theorem dX2_subtractRow_86 : decode cX2_subtractRow 86 = .ok (.isub, 1) := by decide +kernel
theorem dX2_subtractRow_87 : decode cX2_subtractRow 87 = .ok (.iload 4, 2) := by decide +kernel
theorem dX2_subtractRow_89 : decode cX2_subtractRow 89 = .ok (.invokestatic 62, 3) := by decide +kernel
theorem dX2_subtractRow_92 : decode cX2_subtractRow 92 = .ok (.iastore, 1) := by decide +kernel
theorem dX2_subtractRow_93 : decode cX2_subtractRow 93 = .ok (.iinc 7 1, 3) := by decide +kernel
theorem dX2_subtractRow_96 : decode cX2_subtractRow 96 = .ok (.goto (-50), 3) := by decide +kernel
theorem dX2_subtractRow_99 : decode cX2_subtractRow 99 = .ok (.return_, 1) := by decide +kernel
theorem dX3_init_0 : decode cX3_init 0 = .ok (.aload_n 0, 1) := by decide +kernel
theorem dX3_init_1 : decode cX3_init 1 = .ok (.invokespecial 3, 3) := by decide +kernel
theorem dX3_init_4 : decode cX3_init 4 = .ok (.aload_n 0, 1) := by decide +kernel
theorem dX3_init_5 : decode cX3_init 5 = .ok (.new 9, 3) := by decide +kernel
theorem dX3_init_8 : decode cX3_init 8 = .ok (.dup, 1) := by decide +kernel
theorem dX3_init_9 : decode cX3_init 9 = .ok (.invokespecial 11, 3) := by decide +kernel
theorem dX3_init_12 : decode cX3_init 12 = .ok (.putfield 12, 3) := by decide +kernel
theorem dX3_init_15 : decode cX3_init 15 = .ok (.aload_n 0, 1) := by decide +kernel
theorem dX3_init_16 : decode cX3_init 16 = .ok (.sipush 441, 3) := by decide +kernel
theorem dX3_init_19 : decode cX3_init 19 = .ok (.newarray .int, 2) := by decide +kernel
theorem dX3_init_21 : decode cX3_init 21 = .ok (.putfield 18, 3) := by decide +kernel
theorem dX3_init_24 : decode cX3_init 24 = .ok (.aload_n 0, 1) := by decide +kernel
theorem dX3_init_25 : decode cX3_init 25 = .ok (.iconst (-1), 1) := by decide +kernel
theorem dX3_init_26 : decode cX3_init 26 = .ok (.putfield 22, 3) := by decide +kernel
theorem dX3_init_29 : decode cX3_init 29 = .ok (.aload_n 0, 1) := by decide +kernel
theorem dX3_init_30 : decode cX3_init 30 = .ok (.aload_n 1, 1) := by decide +kernel
theorem dX3_init_31 : decode cX3_init 31 = .ok (.putfield 26, 3) := by decide +kernel
theorem dX3_init_34 : decode cX3_init 34 = .ok (.aload_n 0, 1) := by decide +kernel
theorem dX3_init_35 : decode cX3_init 35 = .ok (.aload_n 2, 1) := by decide +kernel
theorem dX3_init_36 : decode cX3_init 36 = .ok (.putfield 30, 3) := by decide +kernel
theorem dX3_init_39 : decode cX3_init 39 = .ok (.return_, 1) := by decide +kernel
theorem dX3_readSetup_0 : decode cX3_readSetup 0 = .ok (.aload_n 0, 1) := by decide +kernel
theorem dX3_readSetup_1 : decode cX3_readSetup 1 = .ok (.invokevirtual 33, 3) := by decide +kernel
theorem dX3_readSetup_4 : decode cX3_readSetup 4 = .ok (.aload_n 0, 1) := by decide +kernel
theorem dX3_readSetup_5 : decode cX3_readSetup 5 = .ok (.getfield 12, 3) := by decide +kernel
theorem dX3_readSetup_8 : decode cX3_readSetup 8 = .ok (.invokevirtual 36, 3) := by decide +kernel
theorem dX3_readSetup_11 : decode cX3_readSetup 11 = .ok (.iconst 1, 1) := by decide +kernel
theorem dX3_readSetup_12 : decode cX3_readSetup 12 = .ok (.istore_n 1, 1) := by decide +kernel
theorem dX3_readSetup_13 : decode cX3_readSetup 13 = .ok (.iconst 0, 1) := by decide +kernel
theorem dX3_readSetup_14 : decode cX3_readSetup 14 = .ok (.istore_n 2, 1) := by decide +kernel
theorem dX3_readSetup_15 : decode cX3_readSetup 15 = .ok (.iload_n 1, 1) := by decide +kernel
theorem dX3_readSetup_16 : decode cX3_readSetup 16 = .ok (.ifCond .eq 57, 3) := by decide +kernel
theorem dX3_readSetup_19 : decode cX3_readSetup 19 = .ok (.aload_n 0, 1) := by decide +kernel
theorem dX3_readSetup_20 : decode cX3_readSetup 20 = .ok (.getfield 26, 3) := by decide +kernel
theorem dX3_readSetup_23 : decode cX3_readSetup 23 = .ok (.getfield 39, 3) := by decide +kernel
theorem dX3_readSetup_26 : decode cX3_readSetup 26 = .ok (.ifCond .eq 47, 3) := by decide +kernel
theorem dX3_readSetup_29 : decode cX3_readSetup 29 = .ok (.iload_n 2, 1) := by decide +kernel
theorem dX3_readSetup_30 : decode cX3_readSetup 30 = .ok (.sipush 900, 3) := by decide +kernel
theorem dX3_readSetup_33 : decode cX3_readSetup 33 = .ok (.if_icmp .ge 40, 3) := by decide +kernel
theorem dX3_readSetup_36 : decode cX3_readSetup 36 = .ok (.aload_n 0, 1) := by decide +kernel
theorem dX3_readSetup_37 : decode cX3_readSetup 37 = .ok (.iload_n 2, 1) := by decide +kernel
theorem dX3_readSetup_38 : decode cX3_readSetup 38 = .ok (.ifCond .ne 7, 3) := by decide +kernel
theorem dX3_readSetup_41 : decode cX3_readSetup 41 = .ok (.iconst 1, 1) := by decide +kernel
theorem dX3_readSetup_42 : decode cX3_readSetup 42 = .ok (.goto 4, 3) := by decide +kernel
theorem dX3_readSetup_45 : decode cX3_readSetup 45 = .ok (.iconst 0, 1) := by decide +kernel
theorem dX3_readSetup_46 : decode cX3_readSetup 46 = .ok (.invokevirtual 44, 3) := by decide +kernel
theorem dX3_readSetup_49 : decode cX3_readSetup 49 = .ok (.ifCond .eq 16, 3) := by decide +kernel
theorem dX3_readSetup_52 : decode cX3_readSetup 52 = .ok (.aload_n 0, 1) := by decide +kernel
theorem dX3_readSetup_53 : decode cX3_readSetup 53 = .ok (.bipush 59, 2) := by decide +kernel
theorem dX3_readSetup_55 : decode cX3_readSetup 55 = .ok (.invokevirtual 48, 3) := by decide +kernel
theorem dX3_readSetup_58 : decode cX3_readSetup 58 = .ok (.ifCond .eq 7, 3) := by decide +kernel
theorem dX3_readSetup_61 : decode cX3_readSetup 61 = .ok (.iconst 1, 1) := by decide +kernel
theorem dX3_readSetup_62 : decode cX3_readSetup 62 = .ok (.goto 4, 3) := by decide +kernel
theorem dX3_readSetup_65 : decode cX3_readSetup 65 = .ok (.iconst 0, 1) := by decide +kernel
theorem dX3_readSetup_66 : decode cX3_readSetup 66 = .ok (.istore_n 1, 1) := by decide +kernel
theorem dX3_readSetup_67 : decode cX3_readSetup 67 = .ok (.iinc 2 1, 3) := by decide +kernel
theorem dX3_readSetup_70 : decode cX3_readSetup 70 = .ok (.goto (-55), 3) := by decide +kernel
theorem dX3_readSetup_73 : decode cX3_readSetup 73 = .ok (.iload_n 1, 1) := by decide +kernel
theorem dX3_readSetup_74 : decode cX3_readSetup 74 = .ok (.ireturn, 1) := by decide +kernel
theorem dX3_readPolynomial_0 : decode cX3_readPolynomial 0 = .ok (.aload_n 0, 1) := by decide +kernel
theorem dX3_readPolynomial_1 : decode cX3_readPolynomial 1 = .ok (.invokevirtual 33, 3) := by decide +kernel
theorem dX3_readPolynomial_4 : decode cX3_readPolynomial 4 = .ok (.aload_n 0, 1) := by decide +kernel
theorem dX3_readPolynomial_5 : decode cX3_readPolynomial 5 = .ok (.getfield 18, 3) := by decide +kernel
theorem dX3_readPolynomial_8 : decode cX3_readPolynomial 8 = .ok (.iconst 0, 1) := by decide +kernel
theorem dX3_readPolynomial_9 : decode cX3_readPolynomial 9 = .ok (.invokestatic 52, 3) := by decide +kernel
theorem dX3_readPolynomial_12 : decode cX3_readPolynomial 12 = .ok (.iconst 0, 1) := by decide +kernel
theorem dX3_readPolynomial_13 : decode cX3_readPolynomial 13 = .ok (.istore_n 2, 1) := by decide +kernel
theorem dX3_readPolynomial_14 : decode cX3_readPolynomial 14 = .ok (.iload_n 2, 1) := by decide +kernel
theorem dX3_readPolynomial_15 : decode cX3_readPolynomial 15 = .ok (.sipush 900, 3) := by decide +kernel
theorem dX3_readPolynomial_18 : decode cX3_readPolynomial 18 = .ok (.if_icmp .ge 91, 3) := by decide +kernel
theorem dX3_readPolynomial_21 : decode cX3_readPolynomial 21 = .ok (.aload_n 0, 1) := by decide +kernel
theorem dX3_readPolynomial_22 : decode cX3_readPolynomial 22 = .ok (.bipush 20, 2) := by decide +kernel
theorem dX3_readPolynomial_24 : decode cX3_readPolynomial 24 = .ok (.iload_n 1, 1) := by decide +kernel
theorem dX3_readPolynomial_25 : decode cX3_readPolynomial 25 = .ok (.invokevirtual 58, 3) := by decide +kernel
theorem dX3_readPolynomial_28 : decode cX3_readPolynomial 28 = .ok (.ifCond .ne 5, 3) := by decide +kernel
theorem dX3_readPolynomial_31 : decode cX3_readPolynomial 31 = .ok (.iconst 0, 1) := by decide +kernel
theorem dX3_readPolynomial_32 : decode cX3_readPolynomial 32 = .ok (.ireturn, 1) := by decide +kernel
theorem dX3_readPolynomial_33 : decode cX3_readPolynomial 33 = .ok (.aload_n 0, 1) := by decide +kernel
theorem dX3_readPolynomial_34 : decode cX3_readPolynomial 34 = .ok (.getfield 62, 3) := by decide +kernel
theorem dX3_readPolynomial_37 : decode cX3_readPolynomial 37 = .ok (.bipush 21, 2) := by decide +kernel
theorem dX3_readPolynomial_39 : decode cX3_readPolynomial 39 = .ok (.imul, 1) := by decide +kernel
theorem dX3_readPolynomial_40 : decode cX3_readPolynomial 40 = .ok (.aload_n 0, 1) := by decide +kernel
theorem dX3_readPolynomial_41 : decode cX3_readPolynomial 41 = .ok (.getfield 65, 3) := by decide +kernel
theorem dX3_readPolynomial_44 : decode cX3_readPolynomial 44 = .ok (.iadd, 1) := by decide +kernel
theorem dX3_readPolynomial_45 : decode cX3_readPolynomial 45 = .ok (.istore_n 3, 1) := by decide +kernel
theorem dX3_readPolynomial_46 : decode cX3_readPolynomial 46 = .ok (.iload_n 3, 1) := by decide +kernel
theorem dX3_readPolynomial_47 : decode cX3_readPolynomial 47 = .ok (.ifCond .lt 33, 3) := by decide +kernel
theorem dX3_readPolynomial_50 : decode cX3_readPolynomial 50 = .ok (.iload_n 3, 1) := by decide +kernel
theorem dX3_readPolynomial_51 : decode cX3_readPolynomial 51 = .ok (.aload_n 0, 1) := by decide +kernel
theorem dX3_readPolynomial_52 : decode cX3_readPolynomial 52 = .ok (.getfield 18, 3) := by decide +kernel
theorem dX3_readPolynomial_55 : decode cX3_readPolynomial 55 = .ok (.arraylength, 1) := by decide +kernel
theorem dX3_readPolynomial_56 : decode cX3_readPolynomial 56 = .ok (.if_icmp .ge 24, 3) := by decide +kernel
theorem dX3_readPolynomial_59 : decode cX3_readPolynomial 59 = .ok (.aload_n 0, 1) := by decide +kernel
theorem dX3_readPolynomial_60 : decode cX3_readPolynomial 60 = .ok (.getfield 18, 3) := by decide +kernel
theorem dX3_readPolynomial_63 : decode cX3_readPolynomial 63 = .ok (.iload_n 3, 1) := by decide +kernel
theorem dX3_readPolynomial_64 : decode cX3_readPolynomial 64 = .ok (.aload_n 0, 1) := by decide +kernel
theorem dX3_readPolynomial_65 : decode cX3_readPolynomial 65 = .ok (.getfield 18, 3) := by decide +kernel
theorem dX3_readPolynomial_68 : decode cX3_readPolynomial 68 = .ok (.iload_n 3, 1) := by decide +kernel
theorem dX3_readPolynomial_69 : decode cX3_readPolynomial 69 = .ok (.iaload, 1) := by decide +kernel
theorem dX3_readPolynomial_70 : decode cX3_readPolynomial 70 = .ok (.aload_n 0, 1) := by decide +kernel
theorem dX3_readPolynomial_71 : decode cX3_readPolynomial 71 = .ok (.getfield 68, 3) := by decide +kernel
theorem dX3_readPolynomial_74 : decode cX3_readPolynomial 74 = .ok (.iadd, 1) := by decide +kernel
theorem dX3_readPolynomial_75 : decode cX3_readPolynomial 75 = .ok (.iload_n 1, 1) := by decide +kernel
theorem dX3_readPolynomial_76 : decode cX3_readPolynomial 76 = .ok (.invokestatic 71, 3) := by decide +kernel
theorem dX3_readPolynomial_79 : decode cX3_readPolynomial 79 = .ok (.iastore, 1) := by decide +kernel
theorem dX3_readPolynomial_80 : decode cX3_readPolynomial 80 = .ok (.aload_n 0, 1) := by decide +kernel
theorem dX3_readPolynomial_81 : decode cX3_readPolynomial 81 = .ok (.getfield 26, 3) := by decide +kernel
theorem dX3_readPolynomial_84 : decode cX3_readPolynomial 84 = .ok (.getfield 39, 3) := by decide +kernel
theorem dX3_readPolynomial_87 : decode cX3_readPolynomial 87 = .ok (.ifCond .ne 5, 3) := by decide +kernel
theorem dX3_readPolynomial_90 : decode cX3_readPolynomial 90 = .ok (.iconst 1, 1) := by decide +kernel
theorem dX3_readPolynomial_91 : decode cX3_readPolynomial 91 = .ok (.ireturn, 1) := by decide +kernel
theorem dX3_readPolynomial_92 : decode cX3_readPolynomial 92 = .ok (.aload_n 0, 1) := by decide +kernel
theorem dX3_readPolynomial_93 : decode cX3_readPolynomial 93 = .ok (.bipush 44, 2) := by decide +kernel
theorem dX3_readPolynomial_95 : decode cX3_readPolynomial 95 = .ok (.invokevirtual 48, 3) := by decide +kernel
theorem dX3_readPolynomial_98 : decode cX3_readPolynomial 98 = .ok (.ifCond .ne 5, 3) := by decide +kernel
theorem dX3_readPolynomial_101 : decode cX3_readPolynomial 101 = .ok (.iconst 0, 1) := by decide +kernel
theorem dX3_readPolynomial_102 : decode cX3_readPolynomial 102 = .ok (.ireturn, 1) := by decide +kernel
theorem dX3_readPolynomial_103 : decode cX3_readPolynomial 103 = .ok (.iinc 2 1, 3) := by decide +kernel
theorem dX3_readPolynomial_106 : decode cX3_readPolynomial 106 = .ok (.goto (-92), 3) := by decide +kernel
theorem dX3_readPolynomial_109 : decode cX3_readPolynomial 109 = .ok (.iconst 1, 1) := by decide +kernel
theorem dX3_readPolynomial_110 : decode cX3_readPolynomial 110 = .ok (.ireturn, 1) := by decide +kernel
theorem dX3_begin_0 : decode cX3_begin 0 = .ok (.aload_n 0, 1) := by decide +kernel
theorem dX3_begin_1 : decode cX3_begin 1 = .ok (.iconst 0, 1) := by decide +kernel
theorem dX3_begin_2 : decode cX3_begin 2 = .ok (.putfield 75, 3) := by decide +kernel
theorem dX3_begin_5 : decode cX3_begin 5 = .ok (.aload_n 0, 1) := by decide +kernel
theorem dX3_begin_6 : decode cX3_begin 6 = .ok (.iconst (-1), 1) := by decide +kernel
theorem dX3_begin_7 : decode cX3_begin 7 = .ok (.putfield 22, 3) := by decide +kernel
theorem dX3_begin_10 : decode cX3_begin 10 = .ok (.aload_n 0, 1) := by decide +kernel
theorem dX3_begin_11 : decode cX3_begin 11 = .ok (.getfield 26, 3) := by decide +kernel
theorem dX3_begin_14 : decode cX3_begin 14 = .ok (.invokevirtual 78, 3) := by decide +kernel
theorem dX3_begin_17 : decode cX3_begin 17 = .ok (.return_, 1) := by decide +kernel
theorem dX3_fail_0 : decode cX3_fail 0 = .ok (.aload_n 0, 1) := by decide +kernel
theorem dX3_fail_1 : decode cX3_fail 1 = .ok (.iload_n 1, 1) := by decide +kernel
theorem dX3_fail_2 : decode cX3_fail 2 = .ok (.putfield 75, 3) := by decide +kernel
theorem dX3_fail_5 : decode cX3_fail 5 = .ok (.aload_n 0, 1) := by decide +kernel
theorem dX3_fail_6 : decode cX3_fail 6 = .ok (.iload_n 2, 1) := by decide +kernel
theorem dX3_fail_7 : decode cX3_fail 7 = .ok (.putfield 22, 3) := by decide +kernel
theorem dX3_fail_10 : decode cX3_fail 10 = .ok (.iconst 0, 1) := by decide +kernel
theorem dX3_fail_11 : decode cX3_fail 11 = .ok (.ireturn, 1) := by decide +kernel
theorem dX3_readStatement_0 : decode cX3_readStatement 0 = .ok (.aload_n 0, 1) := by decide +kernel
theorem dX3_readStatement_1 : decode cX3_readStatement 1 = .ok (.getfield 26, 3) := by decide +kernel
theorem dX3_readStatement_4 : decode cX3_readStatement 4 = .ok (.ldc 81, 2) := by decide +kernel
theorem dX3_readStatement_6 : decode cX3_readStatement 6 = .ok (.invokevirtual 83, 3) := by decide +kernel
theorem dX3_readStatement_9 : decode cX3_readStatement 9 = .ok (.ifCond .eq 8, 3) := by decide +kernel
theorem dX3_readStatement_12 : decode cX3_readStatement 12 = .ok (.aload_n 0, 1) := by decide +kernel
theorem dX3_readStatement_13 : decode cX3_readStatement 13 = .ok (.invokevirtual 87, 3) := by decide +kernel
theorem dX3_readStatement_16 : decode cX3_readStatement 16 = .ok (.ireturn, 1) := by decide +kernel
theorem dX3_readStatement_17 : decode cX3_readStatement 17 = .ok (.aload_n 0, 1) := by decide +kernel
theorem dX3_readStatement_18 : decode cX3_readStatement 18 = .ok (.getfield 26, 3) := by decide +kernel
theorem dX3_readStatement_21 : decode cX3_readStatement 21 = .ok (.ldc 91, 2) := by decide +kernel
theorem dX3_readStatement_23 : decode cX3_readStatement 23 = .ok (.invokevirtual 83, 3) := by decide +kernel
theorem dX3_readStatement_26 : decode cX3_readStatement 26 = .ok (.ifCond .eq 23, 3) := by decide +kernel
theorem dX3_readStatement_29 : decode cX3_readStatement 29 = .ok (.aload_n 0, 1) := by decide +kernel
theorem dX3_readStatement_30 : decode cX3_readStatement 30 = .ok (.invokevirtual 93, 3) := by decide +kernel
theorem dX3_readStatement_33 : decode cX3_readStatement 33 = .ok (.ifCond .eq 14, 3) := by decide +kernel
theorem dX3_readStatement_36 : decode cX3_readStatement 36 = .ok (.aload_n 0, 1) := by decide +kernel
theorem dX3_readStatement_37 : decode cX3_readStatement 37 = .ok (.invokevirtual 96, 3) := by decide +kernel
theorem dX3_readStatement_40 : decode cX3_readStatement 40 = .ok (.ifCond .eq 7, 3) := by decide +kernel
theorem dX3_readStatement_43 : decode cX3_readStatement 43 = .ok (.iconst 1, 1) := by decide +kernel
theorem dX3_readStatement_44 : decode cX3_readStatement 44 = .ok (.goto 4, 3) := by decide +kernel
theorem dX3_readStatement_47 : decode cX3_readStatement 47 = .ok (.iconst 0, 1) := by decide +kernel
theorem dX3_readStatement_48 : decode cX3_readStatement 48 = .ok (.ireturn, 1) := by decide +kernel
theorem dX3_readStatement_49 : decode cX3_readStatement 49 = .ok (.aload_n 0, 1) := by decide +kernel
theorem dX3_readStatement_50 : decode cX3_readStatement 50 = .ok (.getfield 26, 3) := by decide +kernel
theorem dX3_readStatement_53 : decode cX3_readStatement 53 = .ok (.ldc 99, 2) := by decide +kernel
theorem dX3_readStatement_55 : decode cX3_readStatement 55 = .ok (.invokevirtual 83, 3) := by decide +kernel
theorem dX3_readStatement_58 : decode cX3_readStatement 58 = .ok (.ifCond .eq 8, 3) := by decide +kernel
theorem dX3_readStatement_61 : decode cX3_readStatement 61 = .ok (.aload_n 0, 1) := by decide +kernel
theorem dX3_readStatement_62 : decode cX3_readStatement 62 = .ok (.invokevirtual 101, 3) := by decide +kernel
theorem dX3_readStatement_65 : decode cX3_readStatement 65 = .ok (.ireturn, 1) := by decide +kernel
theorem dX3_readStatement_66 : decode cX3_readStatement 66 = .ok (.iload_n 1, 1) := by decide +kernel
theorem dX3_readStatement_67 : decode cX3_readStatement 67 = .ok (.ifCond .eq 20, 3) := by decide +kernel
theorem dX3_readStatement_70 : decode cX3_readStatement 70 = .ok (.aload_n 0, 1) := by decide +kernel
theorem dX3_readStatement_71 : decode cX3_readStatement 71 = .ok (.getfield 26, 3) := by decide +kernel
theorem dX3_readStatement_74 : decode cX3_readStatement 74 = .ok (.ldc 104, 2) := by decide +kernel
theorem dX3_readStatement_76 : decode cX3_readStatement 76 = .ok (.invokevirtual 83, 3) := by decide +kernel
theorem dX3_readStatement_79 : decode cX3_readStatement 79 = .ok (.ifCond .eq 8, 3) := by decide +kernel
theorem dX3_readStatement_82 : decode cX3_readStatement 82 = .ok (.aload_n 0, 1) := by decide +kernel
theorem dX3_readStatement_83 : decode cX3_readStatement 83 = .ok (.invokevirtual 106, 3) := by decide +kernel
theorem dX3_readStatement_86 : decode cX3_readStatement 86 = .ok (.ireturn, 1) := by decide +kernel
theorem dX3_readStatement_87 : decode cX3_readStatement 87 = .ok (.aload_n 0, 1) := by decide +kernel
theorem dX3_readStatement_88 : decode cX3_readStatement 88 = .ok (.iconst 1, 1) := by decide +kernel
theorem dX3_readStatement_89 : decode cX3_readStatement 89 = .ok (.aload_n 0, 1) := by decide +kernel
theorem dX3_readStatement_90 : decode cX3_readStatement 90 = .ok (.getfield 26, 3) := by decide +kernel
theorem dX3_readStatement_93 : decode cX3_readStatement 93 = .ok (.getfield 109, 3) := by decide +kernel
theorem dX3_readStatement_96 : decode cX3_readStatement 96 = .ok (.invokevirtual 112, 3) := by decide +kernel
theorem dX3_readStatement_99 : decode cX3_readStatement 99 = .ok (.ireturn, 1) := by decide +kernel
theorem dX3_readPrime_0 : decode cX3_readPrime 0 = .ok (.aload_n 0, 1) := by decide +kernel
theorem dX3_readPrime_1 : decode cX3_readPrime 1 = .ok (.getfield 26, 3) := by decide +kernel
theorem dX3_readPrime_4 : decode cX3_readPrime 4 = .ok (.invokevirtual 115, 3) := by decide +kernel
theorem dX3_readPrime_7 : decode cX3_readPrime 7 = .ok (.aload_n 0, 1) := by decide +kernel
theorem dX3_readPrime_8 : decode cX3_readPrime 8 = .ok (.bipush 97, 2) := by decide +kernel
theorem dX3_readPrime_10 : decode cX3_readPrime 10 = .ok (.invokevirtual 118, 3) := by decide +kernel
theorem dX3_readPrime_13 : decode cX3_readPrime 13 = .ok (.ifCond .ne 5, 3) := by decide +kernel
theorem dX3_readPrime_16 : decode cX3_readPrime 16 = .ok (.iconst 0, 1) := by decide +kernel
theorem dX3_readPrime_17 : decode cX3_readPrime 17 = .ok (.ireturn, 1) := by decide +kernel
theorem dX3_readPrime_18 : decode cX3_readPrime 18 = .ok (.aload_n 0, 1) := by decide +kernel
theorem dX3_readPrime_19 : decode cX3_readPrime 19 = .ok (.getfield 65, 3) := by decide +kernel
theorem dX3_readPrime_22 : decode cX3_readPrime 22 = .ok (.invokestatic 121, 3) := by decide +kernel
theorem dX3_readPrime_25 : decode cX3_readPrime 25 = .ok (.ifCond .ne 13, 3) := by decide +kernel
theorem dX3_readPrime_28 : decode cX3_readPrime 28 = .ok (.aload_n 0, 1) := by decide +kernel
theorem dX3_readPrime_29 : decode cX3_readPrime 29 = .ok (.iconst 2, 1) := by decide +kernel
theorem dX3_readPrime_30 : decode cX3_readPrime 30 = .ok (.aload_n 0, 1) := by decide +kernel
theorem dX3_readPrime_31 : decode cX3_readPrime 31 = .ok (.getfield 124, 3) := by decide +kernel
theorem dX3_readPrime_34 : decode cX3_readPrime 34 = .ok (.invokevirtual 112, 3) := by decide +kernel
theorem dX3_readPrime_37 : decode cX3_readPrime 37 = .ok (.ireturn, 1) := by decide +kernel
theorem dX3_readPrime_38 : decode cX3_readPrime 38 = .ok (.aload_n 0, 1) := by decide +kernel
theorem dX3_readPrime_39 : decode cX3_readPrime 39 = .ok (.getfield 12, 3) := by decide +kernel
theorem dX3_readPrime_42 : decode cX3_readPrime 42 = .ok (.aload_n 0, 1) := by decide +kernel
theorem dX3_readPrime_43 : decode cX3_readPrime 43 = .ok (.getfield 65, 3) := by decide +kernel
theorem dX3_readPrime_46 : decode cX3_readPrime 46 = .ok (.putfield 127, 3) := by decide +kernel
theorem dX3_readPrime_49 : decode cX3_readPrime 49 = .ok (.iconst 1, 1) := by decide +kernel
theorem dX3_readPrime_50 : decode cX3_readPrime 50 = .ok (.ireturn, 1) := by decide +kernel
theorem dX3_readJoin_0 : decode cX3_readJoin 0 = .ok (.aload_n 0, 1) := by decide +kernel
theorem dX3_readJoin_1 : decode cX3_readJoin 1 = .ok (.getfield 12, 3) := by decide +kernel
theorem dX3_readJoin_4 : decode cX3_readJoin 4 = .ok (.getfield 129, 3) := by decide +kernel
theorem dX3_readJoin_7 : decode cX3_readJoin 7 = .ok (.bipush 12, 2) := by decide +kernel
theorem dX3_readJoin_9 : decode cX3_readJoin 9 = .ok (.if_icmp .lt 16, 3) := by decide +kernel
theorem dX3_readJoin_12 : decode cX3_readJoin 12 = .ok (.aload_n 0, 1) := by decide +kernel
theorem dX3_readJoin_13 : decode cX3_readJoin 13 = .ok (.iconst 3, 1) := by decide +kernel
theorem dX3_readJoin_14 : decode cX3_readJoin 14 = .ok (.aload_n 0, 1) := by decide +kernel
theorem dX3_readJoin_15 : decode cX3_readJoin 15 = .ok (.getfield 26, 3) := by decide +kernel
theorem dX3_readJoin_18 : decode cX3_readJoin 18 = .ok (.getfield 109, 3) := by decide +kernel
theorem dX3_readJoin_21 : decode cX3_readJoin 21 = .ok (.invokevirtual 112, 3) := by decide +kernel
theorem dX3_readJoin_24 : decode cX3_readJoin 24 = .ok (.ireturn, 1) := by decide +kernel
theorem dX3_readJoin_25 : decode cX3_readJoin 25 = .ok (.aload_n 0, 1) := by decide +kernel
theorem dX3_readJoin_26 : decode cX3_readJoin 26 = .ok (.getfield 26, 3) := by decide +kernel
theorem dX3_readJoin_29 : decode cX3_readJoin 29 = .ok (.invokevirtual 115, 3) := by decide +kernel
theorem dX3_readJoin_32 : decode cX3_readJoin 32 = .ok (.aload_n 0, 1) := by decide +kernel
theorem dX3_readJoin_33 : decode cX3_readJoin 33 = .ok (.bipush 11, 2) := by decide +kernel
theorem dX3_readJoin_35 : decode cX3_readJoin 35 = .ok (.invokevirtual 118, 3) := by decide +kernel
theorem dX3_readJoin_38 : decode cX3_readJoin 38 = .ok (.ifCond .eq 12, 3) := by decide +kernel
theorem dX3_readJoin_41 : decode cX3_readJoin 41 = .ok (.aload_n 0, 1) := by decide +kernel
theorem dX3_readJoin_42 : decode cX3_readJoin 42 = .ok (.bipush 11, 2) := by decide +kernel
theorem dX3_readJoin_44 : decode cX3_readJoin 44 = .ok (.invokevirtual 118, 3) := by decide +kernel
theorem dX3_readJoin_47 : decode cX3_readJoin 47 = .ok (.ifCond .ne 5, 3) := by decide +kernel
theorem dX3_readJoin_50 : decode cX3_readJoin 50 = .ok (.iconst 0, 1) := by decide +kernel
theorem dX3_readJoin_51 : decode cX3_readJoin 51 = .ok (.ireturn, 1) := by decide +kernel
theorem dX3_readJoin_52 : decode cX3_readJoin 52 = .ok (.aload_n 0, 1) := by decide +kernel
theorem dX3_readJoin_53 : decode cX3_readJoin 53 = .ok (.getfield 12, 3) := by decide +kernel
theorem dX3_readJoin_56 : decode cX3_readJoin 56 = .ok (.aload_n 0, 1) := by decide +kernel
theorem dX3_readJoin_57 : decode cX3_readJoin 57 = .ok (.getfield 62, 3) := by decide +kernel
theorem dX3_readJoin_60 : decode cX3_readJoin 60 = .ok (.aload_n 0, 1) := by decide +kernel
theorem dX3_readJoin_61 : decode cX3_readJoin 61 = .ok (.getfield 65, 3) := by decide +kernel
theorem dX3_readJoin_64 : decode cX3_readJoin 64 = .ok (.invokevirtual 132, 3) := by decide +kernel
theorem dX3_readJoin_67 : decode cX3_readJoin 67 = .ok (.ifCond .eq 13, 3) := by decide +kernel
theorem dX3_readJoin_70 : decode cX3_readJoin 70 = .ok (.aload_n 0, 1) := by decide +kernel
theorem dX3_readJoin_71 : decode cX3_readJoin 71 = .ok (.iconst 4, 1) := by decide +kernel
theorem dX3_readJoin_72 : decode cX3_readJoin 72 = .ok (.aload_n 0, 1) := by decide +kernel
theorem dX3_readJoin_73 : decode cX3_readJoin 73 = .ok (.getfield 124, 3) := by decide +kernel
theorem dX3_readJoin_76 : decode cX3_readJoin 76 = .ok (.invokevirtual 112, 3) := by decide +kernel
theorem dX3_readJoin_79 : decode cX3_readJoin 79 = .ok (.ireturn, 1) := by decide +kernel
theorem dX3_readJoin_80 : decode cX3_readJoin 80 = .ok (.aload_n 0, 1) := by decide +kernel
theorem dX3_readJoin_81 : decode cX3_readJoin 81 = .ok (.getfield 12, 3) := by decide +kernel
theorem dX3_readJoin_84 : decode cX3_readJoin 84 = .ok (.aload_n 0, 1) := by decide +kernel
theorem dX3_readJoin_85 : decode cX3_readJoin 85 = .ok (.getfield 62, 3) := by decide +kernel
theorem dX3_readJoin_88 : decode cX3_readJoin 88 = .ok (.iconst 1, 1) := by decide +kernel
theorem dX3_readJoin_89 : decode cX3_readJoin 89 = .ok (.aload_n 0, 1) := by decide +kernel
theorem dX3_readJoin_90 : decode cX3_readJoin 90 = .ok (.getfield 30, 3) := by decide +kernel
theorem dX3_readJoin_93 : decode cX3_readJoin 93 = .ok (.invokevirtual 135, 3) := by decide +kernel
theorem dX3_readJoin_96 : decode cX3_readJoin 96 = .ok (.iconst 1, 1) := by decide +kernel
theorem dX3_readJoin_97 : decode cX3_readJoin 97 = .ok (.ireturn, 1) := by decide +kernel
theorem dX3_readRuleHead_0 : decode cX3_readRuleHead 0 = .ok (.aload_n 0, 1) := by decide +kernel
theorem dX3_readRuleHead_1 : decode cX3_readRuleHead 1 = .ok (.getfield 26, 3) := by decide +kernel
theorem dX3_readRuleHead_4 : decode cX3_readRuleHead 4 = .ok (.invokevirtual 115, 3) := by decide +kernel
theorem dX3_readRuleHead_7 : decode cX3_readRuleHead 7 = .ok (.aload_n 0, 1) := by decide +kernel
theorem dX3_readRuleHead_8 : decode cX3_readRuleHead 8 = .ok (.bipush 12, 2) := by decide +kernel
theorem dX3_readRuleHead_10 : decode cX3_readRuleHead 10 = .ok (.invokevirtual 118, 3) := by decide +kernel
theorem dX3_readRuleHead_13 : decode cX3_readRuleHead 13 = .ok (.ifCond .eq 12, 3) := by decide +kernel
theorem dX3_readRuleHead_16 : decode cX3_readRuleHead 16 = .ok (.aload_n 0, 1) := by decide +kernel
theorem dX3_readRuleHead_17 : decode cX3_readRuleHead 17 = .ok (.bipush 12, 2) := by decide +kernel
theorem dX3_readRuleHead_19 : decode cX3_readRuleHead 19 = .ok (.invokevirtual 118, 3) := by decide +kernel
theorem dX3_readRuleHead_22 : decode cX3_readRuleHead 22 = .ok (.ifCond .ne 5, 3) := by decide +kernel
theorem dX3_readRuleHead_25 : decode cX3_readRuleHead 25 = .ok (.iconst 0, 1) := by decide +kernel
theorem dX3_readRuleHead_26 : decode cX3_readRuleHead 26 = .ok (.ireturn, 1) := by decide +kernel
theorem dX3_readRuleHead_27 : decode cX3_readRuleHead 27 = .ok (.aload_n 0, 1) := by decide +kernel
theorem dX3_readRuleHead_28 : decode cX3_readRuleHead 28 = .ok (.aload_n 0, 1) := by decide +kernel
theorem dX3_readRuleHead_29 : decode cX3_readRuleHead 29 = .ok (.getfield 12, 3) := by decide +kernel
theorem dX3_readRuleHead_32 : decode cX3_readRuleHead 32 = .ok (.aload_n 0, 1) := by decide +kernel
theorem dX3_readRuleHead_33 : decode cX3_readRuleHead 33 = .ok (.getfield 62, 3) := by decide +kernel
theorem dX3_readRuleHead_36 : decode cX3_readRuleHead 36 = .ok (.aload_n 0, 1) := by decide +kernel
theorem dX3_readRuleHead_37 : decode cX3_readRuleHead 37 = .ok (.getfield 65, 3) := by decide +kernel
theorem dX3_readRuleHead_40 : decode cX3_readRuleHead 40 = .ok (.invokevirtual 139, 3) := by decide +kernel
theorem dX3_readRuleHead_43 : decode cX3_readRuleHead 43 = .ok (.putfield 142, 3) := by decide +kernel
theorem dX3_readRuleHead_46 : decode cX3_readRuleHead 46 = .ok (.aload_n 0, 1) := by decide +kernel
theorem dX3_readRuleHead_47 : decode cX3_readRuleHead 47 = .ok (.getfield 142, 3) := by decide +kernel
theorem dX3_readRuleHead_50 : decode cX3_readRuleHead 50 = .ok (.iconst (-1), 1) := by decide +kernel
theorem dX3_readRuleHead_51 : decode cX3_readRuleHead 51 = .ok (.if_icmp .ne 13, 3) := by decide +kernel
theorem dX3_readRuleHead_54 : decode cX3_readRuleHead 54 = .ok (.aload_n 0, 1) := by decide +kernel
theorem dX3_readRuleHead_55 : decode cX3_readRuleHead 55 = .ok (.iconst 4, 1) := by decide +kernel
theorem dX3_readRuleHead_56 : decode cX3_readRuleHead 56 = .ok (.aload_n 0, 1) := by decide +kernel
theorem dX3_readRuleHead_57 : decode cX3_readRuleHead 57 = .ok (.getfield 124, 3) := by decide +kernel
theorem dX3_readRuleHead_60 : decode cX3_readRuleHead 60 = .ok (.invokevirtual 112, 3) := by decide +kernel
theorem dX3_readRuleHead_63 : decode cX3_readRuleHead 63 = .ok (.ireturn, 1) := by decide +kernel
theorem dX3_readRuleHead_64 : decode cX3_readRuleHead 64 = .ok (.aload_n 0, 1) := by decide +kernel
theorem dX3_readRuleHead_65 : decode cX3_readRuleHead 65 = .ok (.getfield 26, 3) := by decide +kernel
theorem dX3_readRuleHead_68 : decode cX3_readRuleHead 68 = .ok (.ldc 145, 2) := by decide +kernel
theorem dX3_readRuleHead_70 : decode cX3_readRuleHead 70 = .ok (.invokevirtual 83, 3) := by decide +kernel
theorem dX3_readRuleHead_73 : decode cX3_readRuleHead 73 = .ok (.ifCond .ne 16, 3) := by decide +kernel
theorem dX3_readRuleHead_76 : decode cX3_readRuleHead 76 = .ok (.aload_n 0, 1) := by decide +kernel
theorem dX3_readRuleHead_77 : decode cX3_readRuleHead 77 = .ok (.iconst 1, 1) := by decide +kernel
theorem dX3_readRuleHead_78 : decode cX3_readRuleHead 78 = .ok (.aload_n 0, 1) := by decide +kernel
theorem dX3_readRuleHead_79 : decode cX3_readRuleHead 79 = .ok (.getfield 26, 3) := by decide +kernel
theorem dX3_readRuleHead_82 : decode cX3_readRuleHead 82 = .ok (.getfield 109, 3) := by decide +kernel
theorem dX3_readRuleHead_85 : decode cX3_readRuleHead 85 = .ok (.invokevirtual 112, 3) := by decide +kernel
theorem dX3_readRuleHead_88 : decode cX3_readRuleHead 88 = .ok (.ireturn, 1) := by decide +kernel
theorem dX3_readRuleHead_89 : decode cX3_readRuleHead 89 = .ok (.aload_n 0, 1) := by decide +kernel
theorem dX3_readRuleHead_90 : decode cX3_readRuleHead 90 = .ok (.getfield 26, 3) := by decide +kernel
theorem dX3_readRuleHead_93 : decode cX3_readRuleHead 93 = .ok (.invokevirtual 115, 3) := by decide +kernel
theorem dX3_readRuleHead_96 : decode cX3_readRuleHead 96 = .ok (.aload_n 0, 1) := by decide +kernel
theorem dX3_readRuleHead_97 : decode cX3_readRuleHead 97 = .ok (.getfield 12, 3) := by decide +kernel
theorem dX3_readRuleHead_100 : decode cX3_readRuleHead 100 = .ok (.aload_n 0, 1) := by decide +kernel
theorem dX3_readRuleHead_101 : decode cX3_readRuleHead 101 = .ok (.getfield 142, 3) := by decide +kernel
theorem dX3_readRuleHead_104 : decode cX3_readRuleHead 104 = .ok (.invokevirtual 147, 3) := by decide +kernel
theorem dX3_readRuleHead_107 : decode cX3_readRuleHead 107 = .ok (.iconst 1, 1) := by decide +kernel
theorem dX3_readRuleHead_108 : decode cX3_readRuleHead 108 = .ok (.ireturn, 1) := by decide +kernel
theorem dX3_readRuleTerms_0 : decode cX3_readRuleTerms 0 = .ok (.aload_n 0, 1) := by decide +kernel
theorem dX3_readRuleTerms_1 : decode cX3_readRuleTerms 1 = .ok (.getfield 26, 3) := by decide +kernel
theorem dX3_readRuleTerms_4 : decode cX3_readRuleTerms 4 = .ok (.getfield 39, 3) := by decide +kernel
theorem dX3_readRuleTerms_7 : decode cX3_readRuleTerms 7 = .ok (.bipush 59, 2) := by decide +kernel
theorem dX3_readRuleTerms_9 : decode cX3_readRuleTerms 9 = .ok (.if_icmp .ne 5, 3) := by decide +kernel
theorem dX3_readRuleTerms_12 : decode cX3_readRuleTerms 12 = .ok (.iconst 1, 1) := by decide +kernel
theorem dX3_readRuleTerms_13 : decode cX3_readRuleTerms 13 = .ok (.ireturn, 1) := by decide +kernel
theorem dX3_readRuleTerms_14 : decode cX3_readRuleTerms 14 = .ok (.iconst 0, 1) := by decide +kernel
theorem dX3_readRuleTerms_15 : decode cX3_readRuleTerms 15 = .ok (.istore_n 1, 1) := by decide +kernel
theorem dX3_readRuleTerms_16 : decode cX3_readRuleTerms 16 = .ok (.iconst 0, 1) := by decide +kernel
theorem dX3_readRuleTerms_17 : decode cX3_readRuleTerms 17 = .ok (.istore_n 2, 1) := by decide +kernel
theorem dX3_readRuleTerms_18 : decode cX3_readRuleTerms 18 = .ok (.iload_n 2, 1) := by decide +kernel
theorem dX3_readRuleTerms_19 : decode cX3_readRuleTerms 19 = .ok (.sipush 900, 3) := by decide +kernel
theorem dX3_readRuleTerms_22 : decode cX3_readRuleTerms 22 = .ok (.if_icmp .ge 119, 3) := by decide +kernel
theorem dX3_readRuleTerms_25 : decode cX3_readRuleTerms 25 = .ok (.aload_n 0, 1) := by decide +kernel
theorem dX3_readRuleTerms_26 : decode cX3_readRuleTerms 26 = .ok (.bipush 11, 2) := by decide +kernel
theorem dX3_readRuleTerms_28 : decode cX3_readRuleTerms 28 = .ok (.aload_n 0, 1) := by decide +kernel
theorem dX3_readRuleTerms_29 : decode cX3_readRuleTerms 29 = .ok (.getfield 12, 3) := by decide +kernel
theorem dX3_readRuleTerms_32 : decode cX3_readRuleTerms 32 = .ok (.getfield 127, 3) := by decide +kernel
theorem dX3_readRuleTerms_35 : decode cX3_readRuleTerms 35 = .ok (.invokevirtual 58, 3) := by decide +kernel
theorem dX3_readRuleTerms_38 : decode cX3_readRuleTerms 38 = .ok (.ifCond .ne 5, 3) := by decide +kernel
theorem dX3_readRuleTerms_41 : decode cX3_readRuleTerms 41 = .ok (.iconst 0, 1) := by decide +kernel
theorem dX3_readRuleTerms_42 : decode cX3_readRuleTerms 42 = .ok (.ireturn, 1) := by decide +kernel
theorem dX3_readRuleTerms_43 : decode cX3_readRuleTerms 43 = .ok (.aload_n 0, 1) := by decide +kernel
theorem dX3_readRuleTerms_44 : decode cX3_readRuleTerms 44 = .ok (.getfield 12, 3) := by decide +kernel
theorem dX3_readRuleTerms_47 : decode cX3_readRuleTerms 47 = .ok (.aload_n 0, 1) := by decide +kernel
theorem dX3_readRuleTerms_48 : decode cX3_readRuleTerms 48 = .ok (.getfield 62, 3) := by decide +kernel
theorem dX3_readRuleTerms_51 : decode cX3_readRuleTerms 51 = .ok (.aload_n 0, 1) := by decide +kernel
theorem dX3_readRuleTerms_52 : decode cX3_readRuleTerms 52 = .ok (.getfield 65, 3) := by decide +kernel
theorem dX3_readRuleTerms_55 : decode cX3_readRuleTerms 55 = .ok (.invokevirtual 151, 3) := by decide +kernel
theorem dX3_readRuleTerms_58 : decode cX3_readRuleTerms 58 = .ok (.istore_n 3, 1) := by decide +kernel
theorem dX3_readRuleTerms_59 : decode cX3_readRuleTerms 59 = .ok (.iload_n 3, 1) := by decide +kernel
theorem dX3_readRuleTerms_60 : decode cX3_readRuleTerms 60 = .ok (.iconst (-1), 1) := by decide +kernel
theorem dX3_readRuleTerms_61 : decode cX3_readRuleTerms 61 = .ok (.if_icmp .ne 13, 3) := by decide +kernel
theorem dX3_readRuleTerms_64 : decode cX3_readRuleTerms 64 = .ok (.aload_n 0, 1) := by decide +kernel
theorem dX3_readRuleTerms_65 : decode cX3_readRuleTerms 65 = .ok (.iconst 4, 1) := by decide +kernel
theorem dX3_readRuleTerms_66 : decode cX3_readRuleTerms 66 = .ok (.aload_n 0, 1) := by decide +kernel
theorem dX3_readRuleTerms_67 : decode cX3_readRuleTerms 67 = .ok (.getfield 124, 3) := by decide +kernel
theorem dX3_readRuleTerms_70 : decode cX3_readRuleTerms 70 = .ok (.invokevirtual 112, 3) := by decide +kernel
theorem dX3_readRuleTerms_73 : decode cX3_readRuleTerms 73 = .ok (.ireturn, 1) := by decide +kernel
theorem dX3_readRuleTerms_74 : decode cX3_readRuleTerms 74 = .ok (.iload_n 1, 1) := by decide +kernel
theorem dX3_readRuleTerms_75 : decode cX3_readRuleTerms 75 = .ok (.iconst 1, 1) := by decide +kernel
theorem dX3_readRuleTerms_76 : decode cX3_readRuleTerms 76 = .ok (.iload_n 3, 1) := by decide +kernel
theorem dX3_readRuleTerms_77 : decode cX3_readRuleTerms 77 = .ok (.ishl, 1) := by decide +kernel
theorem dX3_readRuleTerms_78 : decode cX3_readRuleTerms 78 = .ok (.iand, 1) := by decide +kernel
theorem dX3_readRuleTerms_79 : decode cX3_readRuleTerms 79 = .ok (.ifCond .eq 13, 3) := by decide +kernel
theorem dX3_readRuleTerms_82 : decode cX3_readRuleTerms 82 = .ok (.aload_n 0, 1) := by decide +kernel
theorem dX3_readRuleTerms_83 : decode cX3_readRuleTerms 83 = .ok (.iconst 5, 1) := by decide +kernel
theorem dX3_readRuleTerms_84 : decode cX3_readRuleTerms 84 = .ok (.aload_n 0, 1) := by decide +kernel
theorem dX3_readRuleTerms_85 : decode cX3_readRuleTerms 85 = .ok (.getfield 124, 3) := by decide +kernel
theorem dX3_readRuleTerms_88 : decode cX3_readRuleTerms 88 = .ok (.invokevirtual 112, 3) := by decide +kernel
theorem dX3_readRuleTerms_91 : decode cX3_readRuleTerms 91 = .ok (.ireturn, 1) := by decide +kernel
theorem dX3_readRuleTerms_92 : decode cX3_readRuleTerms 92 = .ok (.iload_n 1, 1) := by decide +kernel
theorem dX3_readRuleTerms_93 : decode cX3_readRuleTerms 93 = .ok (.iconst 1, 1) := by decide +kernel
theorem dX3_readRuleTerms_94 : decode cX3_readRuleTerms 94 = .ok (.iload_n 3, 1) := by decide +kernel
theorem dX3_readRuleTerms_95 : decode cX3_readRuleTerms 95 = .ok (.ishl, 1) := by decide +kernel
theorem dX3_readRuleTerms_96 : decode cX3_readRuleTerms 96 = .ok (.ior, 1) := by decide +kernel
theorem dX3_readRuleTerms_97 : decode cX3_readRuleTerms 97 = .ok (.istore_n 1, 1) := by decide +kernel
theorem dX3_readRuleTerms_98 : decode cX3_readRuleTerms 98 = .ok (.aload_n 0, 1) := by decide +kernel
theorem dX3_readRuleTerms_99 : decode cX3_readRuleTerms 99 = .ok (.getfield 12, 3) := by decide +kernel
theorem dX3_readRuleTerms_102 : decode cX3_readRuleTerms 102 = .ok (.aload_n 0, 1) := by decide +kernel
theorem dX3_readRuleTerms_103 : decode cX3_readRuleTerms 103 = .ok (.getfield 142, 3) := by decide +kernel
theorem dX3_readRuleTerms_106 : decode cX3_readRuleTerms 106 = .ok (.iload_n 3, 1) := by decide +kernel
theorem dX3_readRuleTerms_107 : decode cX3_readRuleTerms 107 = .ok (.aload_n 0, 1) := by decide +kernel
theorem dX3_readRuleTerms_108 : decode cX3_readRuleTerms 108 = .ok (.getfield 68, 3) := by decide +kernel
theorem dX3_readRuleTerms_111 : decode cX3_readRuleTerms 111 = .ok (.invokevirtual 154, 3) := by decide +kernel
theorem dX3_readRuleTerms_114 : decode cX3_readRuleTerms 114 = .ok (.aload_n 0, 1) := by decide +kernel
theorem dX3_readRuleTerms_115 : decode cX3_readRuleTerms 115 = .ok (.getfield 26, 3) := by decide +kernel
theorem dX3_readRuleTerms_118 : decode cX3_readRuleTerms 118 = .ok (.getfield 39, 3) := by decide +kernel
theorem dX3_readRuleTerms_121 : decode cX3_readRuleTerms 121 = .ok (.bipush 44, 2) := by decide +kernel
theorem dX3_readRuleTerms_123 : decode cX3_readRuleTerms 123 = .ok (.if_icmp .eq 5, 3) := by decide +kernel
theorem dX3_readRuleTerms_126 : decode cX3_readRuleTerms 126 = .ok (.iconst 1, 1) := by decide +kernel
theorem dX3_readRuleTerms_127 : decode cX3_readRuleTerms 127 = .ok (.ireturn, 1) := by decide +kernel
theorem dX3_readRuleTerms_128 : decode cX3_readRuleTerms 128 = .ok (.aload_n 0, 1) := by decide +kernel
theorem dX3_readRuleTerms_129 : decode cX3_readRuleTerms 129 = .ok (.getfield 26, 3) := by decide +kernel
theorem dX3_readRuleTerms_132 : decode cX3_readRuleTerms 132 = .ok (.invokevirtual 115, 3) := by decide +kernel
theorem dX3_readRuleTerms_135 : decode cX3_readRuleTerms 135 = .ok (.iinc 2 1, 3) := by decide +kernel
theorem dX3_readRuleTerms_138 : decode cX3_readRuleTerms 138 = .ok (.goto (-120), 3) := by decide +kernel
theorem dX3_readRuleTerms_141 : decode cX3_readRuleTerms 141 = .ok (.iconst 1, 1) := by decide +kernel
theorem dX3_readRuleTerms_142 : decode cX3_readRuleTerms 142 = .ok (.ireturn, 1) := by decide +kernel
theorem dX3_readPoint_0 : decode cX3_readPoint 0 = .ok (.aload_n 0, 1) := by decide +kernel
theorem dX3_readPoint_1 : decode cX3_readPoint 1 = .ok (.getfield 12, 3) := by decide +kernel
theorem dX3_readPoint_4 : decode cX3_readPoint 4 = .ok (.getfield 158, 3) := by decide +kernel
theorem dX3_readPoint_7 : decode cX3_readPoint 7 = .ok (.bipush 12, 2) := by decide +kernel
theorem dX3_readPoint_9 : decode cX3_readPoint 9 = .ok (.if_icmp .lt 16, 3) := by decide +kernel
theorem dX3_readPoint_12 : decode cX3_readPoint 12 = .ok (.aload_n 0, 1) := by decide +kernel
theorem dX3_readPoint_13 : decode cX3_readPoint 13 = .ok (.iconst 3, 1) := by decide +kernel
theorem dX3_readPoint_14 : decode cX3_readPoint 14 = .ok (.aload_n 0, 1) := by decide +kernel
theorem dX3_readPoint_15 : decode cX3_readPoint 15 = .ok (.getfield 26, 3) := by decide +kernel
theorem dX3_readPoint_18 : decode cX3_readPoint 18 = .ok (.getfield 109, 3) := by decide +kernel
theorem dX3_readPoint_21 : decode cX3_readPoint 21 = .ok (.invokevirtual 112, 3) := by decide +kernel
theorem dX3_readPoint_24 : decode cX3_readPoint 24 = .ok (.ireturn, 1) := by decide +kernel
theorem dX3_readPoint_25 : decode cX3_readPoint 25 = .ok (.aload_n 0, 1) := by decide +kernel
theorem dX3_readPoint_26 : decode cX3_readPoint 26 = .ok (.getfield 26, 3) := by decide +kernel
theorem dX3_readPoint_29 : decode cX3_readPoint 29 = .ok (.invokevirtual 115, 3) := by decide +kernel
theorem dX3_readPoint_32 : decode cX3_readPoint 32 = .ok (.aload_n 0, 1) := by decide +kernel
theorem dX3_readPoint_33 : decode cX3_readPoint 33 = .ok (.aload_n 0, 1) := by decide +kernel
theorem dX3_readPoint_34 : decode cX3_readPoint 34 = .ok (.getfield 12, 3) := by decide +kernel
theorem dX3_readPoint_37 : decode cX3_readPoint 37 = .ok (.getfield 127, 3) := by decide +kernel
theorem dX3_readPoint_40 : decode cX3_readPoint 40 = .ok (.iconst 1, 1) := by decide +kernel
theorem dX3_readPoint_41 : decode cX3_readPoint 41 = .ok (.isub, 1) := by decide +kernel
theorem dX3_readPoint_42 : decode cX3_readPoint 42 = .ok (.invokevirtual 118, 3) := by decide +kernel
theorem dX3_readPoint_45 : decode cX3_readPoint 45 = .ok (.ifCond .eq 19, 3) := by decide +kernel
theorem dX3_readPoint_48 : decode cX3_readPoint 48 = .ok (.aload_n 0, 1) := by decide +kernel
theorem dX3_readPoint_49 : decode cX3_readPoint 49 = .ok (.aload_n 0, 1) := by decide +kernel
theorem dX3_readPoint_50 : decode cX3_readPoint 50 = .ok (.getfield 12, 3) := by decide +kernel
theorem dX3_readPoint_53 : decode cX3_readPoint 53 = .ok (.getfield 127, 3) := by decide +kernel
theorem dX3_readPoint_56 : decode cX3_readPoint 56 = .ok (.iconst 1, 1) := by decide +kernel
theorem dX3_readPoint_57 : decode cX3_readPoint 57 = .ok (.isub, 1) := by decide +kernel
theorem dX3_readPoint_58 : decode cX3_readPoint 58 = .ok (.invokevirtual 118, 3) := by decide +kernel
theorem dX3_readPoint_61 : decode cX3_readPoint 61 = .ok (.ifCond .ne 5, 3) := by decide +kernel
theorem dX3_readPoint_64 : decode cX3_readPoint 64 = .ok (.iconst 0, 1) := by decide +kernel
theorem dX3_readPoint_65 : decode cX3_readPoint 65 = .ok (.ireturn, 1) := by decide +kernel
theorem dX3_readPoint_66 : decode cX3_readPoint 66 = .ok (.aload_n 0, 1) := by decide +kernel
theorem dX3_readPoint_67 : decode cX3_readPoint 67 = .ok (.getfield 12, 3) := by decide +kernel
theorem dX3_readPoint_70 : decode cX3_readPoint 70 = .ok (.aload_n 0, 1) := by decide +kernel
theorem dX3_readPoint_71 : decode cX3_readPoint 71 = .ok (.getfield 62, 3) := by decide +kernel
theorem dX3_readPoint_74 : decode cX3_readPoint 74 = .ok (.aload_n 0, 1) := by decide +kernel
theorem dX3_readPoint_75 : decode cX3_readPoint 75 = .ok (.getfield 65, 3) := by decide +kernel
theorem dX3_readPoint_78 : decode cX3_readPoint 78 = .ok (.invokevirtual 161, 3) := by decide +kernel
theorem dX3_readPoint_81 : decode cX3_readPoint 81 = .ok (.ifCond .eq 13, 3) := by decide +kernel
theorem dX3_readPoint_84 : decode cX3_readPoint 84 = .ok (.aload_n 0, 1) := by decide +kernel
theorem dX3_readPoint_85 : decode cX3_readPoint 85 = .ok (.iconst 5, 1) := by decide +kernel
theorem dX3_readPoint_86 : decode cX3_readPoint 86 = .ok (.aload_n 0, 1) := by decide +kernel
theorem dX3_readPoint_87 : decode cX3_readPoint 87 = .ok (.getfield 124, 3) := by decide +kernel
theorem dX3_readPoint_90 : decode cX3_readPoint 90 = .ok (.invokevirtual 112, 3) := by decide +kernel
theorem dX3_readPoint_93 : decode cX3_readPoint 93 = .ok (.ireturn, 1) := by decide +kernel
theorem dX3_readPoint_94 : decode cX3_readPoint 94 = .ok (.aload_n 0, 1) := by decide +kernel
theorem dX3_readPoint_95 : decode cX3_readPoint 95 = .ok (.getfield 12, 3) := by decide +kernel
theorem dX3_readPoint_98 : decode cX3_readPoint 98 = .ok (.aload_n 0, 1) := by decide +kernel
theorem dX3_readPoint_99 : decode cX3_readPoint 99 = .ok (.getfield 62, 3) := by decide +kernel
theorem dX3_readPoint_102 : decode cX3_readPoint 102 = .ok (.aload_n 0, 1) := by decide +kernel
theorem dX3_readPoint_103 : decode cX3_readPoint 103 = .ok (.getfield 65, 3) := by decide +kernel
theorem dX3_readPoint_106 : decode cX3_readPoint 106 = .ok (.invokevirtual 164, 3) := by decide +kernel
theorem dX3_readPoint_109 : decode cX3_readPoint 109 = .ok (.iconst 1, 1) := by decide +kernel
theorem dX3_readPoint_110 : decode cX3_readPoint 110 = .ok (.ireturn, 1) := by decide +kernel
theorem dX3_readTerm_0 : decode cX3_readTerm 0 = .ok (.aload_n 0, 1) := by decide +kernel
theorem dX3_readTerm_1 : decode cX3_readTerm 1 = .ok (.getfield 26, 3) := by decide +kernel
theorem dX3_readTerm_4 : decode cX3_readTerm 4 = .ok (.getfield 39, 3) := by decide +kernel
theorem dX3_readTerm_7 : decode cX3_readTerm 7 = .ok (.bipush 45, 2) := by decide +kernel
theorem dX3_readTerm_9 : decode cX3_readTerm 9 = .ok (.if_icmp .ne 7, 3) := by decide +kernel
theorem dX3_readTerm_12 : decode cX3_readTerm 12 = .ok (.iconst 1, 1) := by decide +kernel
theorem dX3_readTerm_13 : decode cX3_readTerm 13 = .ok (.goto 4, 3) := by decide +kernel
theorem dX3_readTerm_16 : decode cX3_readTerm 16 = .ok (.iconst 0, 1) := by decide +kernel
theorem dX3_readTerm_17 : decode cX3_readTerm 17 = .ok (.istore_n 3, 1) := by decide +kernel
theorem dX3_readTerm_18 : decode cX3_readTerm 18 = .ok (.iload_n 3, 1) := by decide +kernel
theorem dX3_readTerm_19 : decode cX3_readTerm 19 = .ok (.ifCond .eq 10, 3) := by decide +kernel
theorem dX3_readTerm_22 : decode cX3_readTerm 22 = .ok (.aload_n 0, 1) := by decide +kernel
theorem dX3_readTerm_23 : decode cX3_readTerm 23 = .ok (.getfield 26, 3) := by decide +kernel
theorem dX3_readTerm_26 : decode cX3_readTerm 26 = .ok (.invokevirtual 115, 3) := by decide +kernel
theorem dX3_readTerm_29 : decode cX3_readTerm 29 = .ok (.aload_n 0, 1) := by decide +kernel
theorem dX3_readTerm_30 : decode cX3_readTerm 30 = .ok (.sipush 999, 3) := by decide +kernel
theorem dX3_readTerm_33 : decode cX3_readTerm 33 = .ok (.invokevirtual 118, 3) := by decide +kernel
theorem dX3_readTerm_36 : decode cX3_readTerm 36 = .ok (.ifCond .ne 5, 3) := by decide +kernel
theorem dX3_readTerm_39 : decode cX3_readTerm 39 = .ok (.iconst 0, 1) := by decide +kernel
theorem dX3_readTerm_40 : decode cX3_readTerm 40 = .ok (.ireturn, 1) := by decide +kernel
theorem dX3_readTerm_41 : decode cX3_readTerm 41 = .ok (.aload_n 0, 1) := by decide +kernel
theorem dX3_readTerm_42 : decode cX3_readTerm 42 = .ok (.iload_n 3, 1) := by decide +kernel
theorem dX3_readTerm_43 : decode cX3_readTerm 43 = .ok (.ifCond .eq 11, 3) := by decide +kernel
theorem dX3_readTerm_46 : decode cX3_readTerm 46 = .ok (.aload_n 0, 1) := by decide +kernel
theorem dX3_readTerm_47 : decode cX3_readTerm 47 = .ok (.getfield 65, 3) := by decide +kernel
theorem dX3_readTerm_50 : decode cX3_readTerm 50 = .ok (.ineg, 1) := by decide +kernel
theorem dX3_readTerm_51 : decode cX3_readTerm 51 = .ok (.goto 7, 3) := by decide +kernel
theorem dX3_readTerm_54 : decode cX3_readTerm 54 = .ok (.aload_n 0, 1) := by decide +kernel
theorem dX3_readTerm_55 : decode cX3_readTerm 55 = .ok (.getfield 65, 3) := by decide +kernel
theorem dX3_readTerm_58 : decode cX3_readTerm 58 = .ok (.iload_n 2, 1) := by decide +kernel
theorem dX3_readTerm_59 : decode cX3_readTerm 59 = .ok (.invokestatic 71, 3) := by decide +kernel
theorem dX3_readTerm_62 : decode cX3_readTerm 62 = .ok (.putfield 68, 3) := by decide +kernel
theorem dX3_readTerm_65 : decode cX3_readTerm 65 = .ok (.aload_n 0, 1) := by decide +kernel
theorem dX3_readTerm_66 : decode cX3_readTerm 66 = .ok (.iload_n 1, 1) := by decide +kernel
theorem dX3_readTerm_67 : decode cX3_readTerm 67 = .ok (.invokevirtual 118, 3) := by decide +kernel
theorem dX3_readTerm_70 : decode cX3_readTerm 70 = .ok (.ifCond .eq 15, 3) := by decide +kernel
theorem dX3_readTerm_73 : decode cX3_readTerm 73 = .ok (.aload_n 0, 1) := by decide +kernel
theorem dX3_readTerm_74 : decode cX3_readTerm 74 = .ok (.iload_n 1, 1) := by decide +kernel
theorem dX3_readTerm_75 : decode cX3_readTerm 75 = .ok (.invokevirtual 118, 3) := by decide +kernel
theorem dX3_readTerm_78 : decode cX3_readTerm 78 = .ok (.ifCond .eq 7, 3) := by decide +kernel
theorem dX3_readTerm_81 : decode cX3_readTerm 81 = .ok (.iconst 1, 1) := by decide +kernel
theorem dX3_readTerm_82 : decode cX3_readTerm 82 = .ok (.goto 4, 3) := by decide +kernel
theorem dX3_readTerm_85 : decode cX3_readTerm 85 = .ok (.iconst 0, 1) := by decide +kernel
theorem dX3_readTerm_86 : decode cX3_readTerm 86 = .ok (.ireturn, 1) := by decide +kernel
theorem dX3_takeNumber_0 : decode cX3_takeNumber 0 = .ok (.aload_n 0, 1) := by decide +kernel
theorem dX3_takeNumber_1 : decode cX3_takeNumber 1 = .ok (.getfield 26, 3) := by decide +kernel
theorem dX3_takeNumber_4 : decode cX3_takeNumber 4 = .ok (.getfield 39, 3) := by decide +kernel
theorem dX3_takeNumber_7 : decode cX3_takeNumber 7 = .ok (.iconst 2, 1) := by decide +kernel
theorem dX3_takeNumber_8 : decode cX3_takeNumber 8 = .ok (.if_icmp .eq 16, 3) := by decide +kernel
theorem dX3_takeNumber_11 : decode cX3_takeNumber 11 = .ok (.aload_n 0, 1) := by decide +kernel
theorem dX3_takeNumber_12 : decode cX3_takeNumber 12 = .ok (.iconst 1, 1) := by decide +kernel
theorem dX3_takeNumber_13 : decode cX3_takeNumber 13 = .ok (.aload_n 0, 1) := by decide +kernel
theorem dX3_takeNumber_14 : decode cX3_takeNumber 14 = .ok (.getfield 26, 3) := by decide +kernel
theorem dX3_takeNumber_17 : decode cX3_takeNumber 17 = .ok (.getfield 109, 3) := by decide +kernel
theorem dX3_takeNumber_20 : decode cX3_takeNumber 20 = .ok (.invokevirtual 112, 3) := by decide +kernel
theorem dX3_takeNumber_23 : decode cX3_takeNumber 23 = .ok (.ireturn, 1) := by decide +kernel
theorem dX3_takeNumber_24 : decode cX3_takeNumber 24 = .ok (.aload_n 0, 1) := by decide +kernel
theorem dX3_takeNumber_25 : decode cX3_takeNumber 25 = .ok (.getfield 26, 3) := by decide +kernel
theorem dX3_takeNumber_28 : decode cX3_takeNumber 28 = .ok (.getfield 168, 3) := by decide +kernel
theorem dX3_takeNumber_31 : decode cX3_takeNumber 31 = .ok (.iload_n 1, 1) := by decide +kernel
theorem dX3_takeNumber_32 : decode cX3_takeNumber 32 = .ok (.if_icmp .le 16, 3) := by decide +kernel
theorem dX3_takeNumber_35 : decode cX3_takeNumber 35 = .ok (.aload_n 0, 1) := by decide +kernel
theorem dX3_takeNumber_36 : decode cX3_takeNumber 36 = .ok (.iconst 2, 1) := by decide +kernel
theorem dX3_takeNumber_37 : decode cX3_takeNumber 37 = .ok (.aload_n 0, 1) := by decide +kernel
theorem dX3_takeNumber_38 : decode cX3_takeNumber 38 = .ok (.getfield 26, 3) := by decide +kernel
theorem dX3_takeNumber_41 : decode cX3_takeNumber 41 = .ok (.getfield 109, 3) := by decide +kernel
theorem dX3_takeNumber_44 : decode cX3_takeNumber 44 = .ok (.invokevirtual 112, 3) := by decide +kernel
theorem dX3_takeNumber_47 : decode cX3_takeNumber 47 = .ok (.ireturn, 1) := by decide +kernel
theorem dX3_takeNumber_48 : decode cX3_takeNumber 48 = .ok (.aload_n 0, 1) := by decide +kernel
theorem dX3_takeNumber_49 : decode cX3_takeNumber 49 = .ok (.aload_n 0, 1) := by decide +kernel
theorem dX3_takeNumber_50 : decode cX3_takeNumber 50 = .ok (.getfield 65, 3) := by decide +kernel
theorem dX3_takeNumber_53 : decode cX3_takeNumber 53 = .ok (.putfield 62, 3) := by decide +kernel
theorem dX3_takeNumber_56 : decode cX3_takeNumber 56 = .ok (.aload_n 0, 1) := by decide +kernel
theorem dX3_takeNumber_57 : decode cX3_takeNumber 57 = .ok (.aload_n 0, 1) := by decide +kernel
theorem dX3_takeNumber_58 : decode cX3_takeNumber 58 = .ok (.getfield 26, 3) := by decide +kernel
theorem dX3_takeNumber_61 : decode cX3_takeNumber 61 = .ok (.getfield 168, 3) := by decide +kernel
theorem dX3_takeNumber_64 : decode cX3_takeNumber 64 = .ok (.putfield 65, 3) := by decide +kernel
theorem dX3_takeNumber_67 : decode cX3_takeNumber 67 = .ok (.aload_n 0, 1) := by decide +kernel
theorem dX3_takeNumber_68 : decode cX3_takeNumber 68 = .ok (.aload_n 0, 1) := by decide +kernel
theorem dX3_takeNumber_69 : decode cX3_takeNumber 69 = .ok (.getfield 26, 3) := by decide +kernel
theorem dX3_takeNumber_72 : decode cX3_takeNumber 72 = .ok (.getfield 109, 3) := by decide +kernel
theorem dX3_takeNumber_75 : decode cX3_takeNumber 75 = .ok (.putfield 124, 3) := by decide +kernel
theorem dX3_takeNumber_78 : decode cX3_takeNumber 78 = .ok (.aload_n 0, 1) := by decide +kernel
theorem dX3_takeNumber_79 : decode cX3_takeNumber 79 = .ok (.getfield 26, 3) := by decide +kernel
theorem dX3_takeNumber_82 : decode cX3_takeNumber 82 = .ok (.invokevirtual 115, 3) := by decide +kernel
theorem dX3_takeNumber_85 : decode cX3_takeNumber 85 = .ok (.iconst 1, 1) := by decide +kernel
theorem dX3_takeNumber_86 : decode cX3_takeNumber 86 = .ok (.ireturn, 1) := by decide +kernel
theorem dX3_takeSymbol_0 : decode cX3_takeSymbol 0 = .ok (.aload_n 0, 1) := by decide +kernel
theorem dX3_takeSymbol_1 : decode cX3_takeSymbol 1 = .ok (.getfield 26, 3) := by decide +kernel
theorem dX3_takeSymbol_4 : decode cX3_takeSymbol 4 = .ok (.getfield 39, 3) := by decide +kernel
theorem dX3_takeSymbol_7 : decode cX3_takeSymbol 7 = .ok (.iload_n 1, 1) := by decide +kernel
theorem dX3_takeSymbol_8 : decode cX3_takeSymbol 8 = .ok (.if_icmp .eq 16, 3) := by decide +kernel
theorem dX3_takeSymbol_11 : decode cX3_takeSymbol 11 = .ok (.aload_n 0, 1) := by decide +kernel
theorem dX3_takeSymbol_12 : decode cX3_takeSymbol 12 = .ok (.iconst 1, 1) := by decide +kernel
theorem dX3_takeSymbol_13 : decode cX3_takeSymbol 13 = .ok (.aload_n 0, 1) := by decide +kernel
theorem dX3_takeSymbol_14 : decode cX3_takeSymbol 14 = .ok (.getfield 26, 3) := by decide +kernel
theorem dX3_takeSymbol_17 : decode cX3_takeSymbol 17 = .ok (.getfield 109, 3) := by decide +kernel
theorem dX3_takeSymbol_20 : decode cX3_takeSymbol 20 = .ok (.invokevirtual 112, 3) := by decide +kernel
theorem dX3_takeSymbol_23 : decode cX3_takeSymbol 23 = .ok (.ireturn, 1) := by decide +kernel
theorem dX3_takeSymbol_24 : decode cX3_takeSymbol 24 = .ok (.aload_n 0, 1) := by decide +kernel
theorem dX3_takeSymbol_25 : decode cX3_takeSymbol 25 = .ok (.getfield 26, 3) := by decide +kernel
theorem dX3_takeSymbol_28 : decode cX3_takeSymbol 28 = .ok (.invokevirtual 115, 3) := by decide +kernel
theorem dX3_takeSymbol_31 : decode cX3_takeSymbol 31 = .ok (.iconst 1, 1) := by decide +kernel
theorem dX3_takeSymbol_32 : decode cX3_takeSymbol 32 = .ok (.ireturn, 1) := by decide +kernel
theorem dX4_init_0 : decode cX4_init 0 = .ok (.aload_n 0, 1) := by decide +kernel
theorem dX4_init_1 : decode cX4_init 1 = .ok (.invokespecial 3, 3) := by decide +kernel
theorem dX4_init_4 : decode cX4_init 4 = .ok (.aload_n 0, 1) := by decide +kernel
theorem dX4_init_5 : decode cX4_init 5 = .ok (.bipush 13, 2) := by decide +kernel
theorem dX4_init_7 : decode cX4_init 7 = .ok (.newarray .int, 2) := by decide +kernel
theorem dX4_init_9 : decode cX4_init 9 = .ok (.putfield 9, 3) := by decide +kernel
theorem dX4_init_12 : decode cX4_init 12 = .ok (.aload_n 0, 1) := by decide +kernel
theorem dX4_init_13 : decode cX4_init 13 = .ok (.bipush 13, 2) := by decide +kernel
theorem dX4_init_15 : decode cX4_init 15 = .ok (.newarray .int, 2) := by decide +kernel
theorem dX4_init_17 : decode cX4_init 17 = .ok (.putfield 15, 3) := by decide +kernel
theorem dX4_init_20 : decode cX4_init 20 = .ok (.return_, 1) := by decide +kernel
theorem dX4_moveTo_0 : decode cX4_moveTo 0 = .ok (.aload_n 0, 1) := by decide +kernel
theorem dX4_moveTo_1 : decode cX4_moveTo 1 = .ok (.iload_n 3, 1) := by decide +kernel
theorem dX4_moveTo_2 : decode cX4_moveTo 2 = .ok (.putfield 18, 3) := by decide +kernel
theorem dX4_moveTo_5 : decode cX4_moveTo 5 = .ok (.aload_n 0, 1) := by decide +kernel
theorem dX4_moveTo_6 : decode cX4_moveTo 6 = .ok (.getfield 9, 3) := by decide +kernel
theorem dX4_moveTo_9 : decode cX4_moveTo 9 = .ok (.iconst 0, 1) := by decide +kernel
theorem dX4_moveTo_10 : decode cX4_moveTo 10 = .ok (.iconst 1, 1) := by decide +kernel
theorem dX4_moveTo_11 : decode cX4_moveTo 11 = .ok (.iastore, 1) := by decide +kernel
theorem dX4_moveTo_12 : decode cX4_moveTo 12 = .ok (.aload_n 0, 1) := by decide +kernel
theorem dX4_moveTo_13 : decode cX4_moveTo 13 = .ok (.getfield 15, 3) := by decide +kernel
theorem dX4_moveTo_16 : decode cX4_moveTo 16 = .ok (.iconst 0, 1) := by decide +kernel
theorem dX4_moveTo_17 : decode cX4_moveTo 17 = .ok (.iconst 1, 1) := by decide +kernel
theorem dX4_moveTo_18 : decode cX4_moveTo 18 = .ok (.iastore, 1) := by decide +kernel
theorem dX4_moveTo_19 : decode cX4_moveTo 19 = .ok (.iconst 1, 1) := by decide +kernel
theorem dX4_moveTo_20 : decode cX4_moveTo 20 = .ok (.istore 4, 2) := by decide +kernel
theorem dX4_moveTo_22 : decode cX4_moveTo 22 = .ok (.iload 4, 2) := by decide +kernel
theorem dX4_moveTo_24 : decode cX4_moveTo 24 = .ok (.bipush 12, 2) := by decide +kernel
theorem dX4_moveTo_26 : decode cX4_moveTo 26 = .ok (.if_icmp .gt 59, 3) := by decide +kernel
theorem dX4_moveTo_29 : decode cX4_moveTo 29 = .ok (.aload_n 0, 1) := by decide +kernel
theorem dX4_moveTo_30 : decode cX4_moveTo 30 = .ok (.getfield 9, 3) := by decide +kernel
theorem dX4_moveTo_33 : decode cX4_moveTo 33 = .ok (.iload 4, 2) := by decide +kernel
theorem dX4_moveTo_35 : decode cX4_moveTo 35 = .ok (.aload_n 0, 1) := by decide +kernel
theorem dX4_moveTo_36 : decode cX4_moveTo 36 = .ok (.getfield 9, 3) := by decide +kernel
theorem dX4_moveTo_39 : decode cX4_moveTo 39 = .ok (.iload 4, 2) := by decide +kernel
theorem dX4_moveTo_41 : decode cX4_moveTo 41 = .ok (.iconst 1, 1) := by decide +kernel
theorem dX4_moveTo_42 : decode cX4_moveTo 42 = .ok (.isub, 1) := by decide +kernel
theorem dX4_moveTo_43 : decode cX4_moveTo 43 = .ok (.iaload, 1) := by decide +kernel
theorem dX4_moveTo_44 : decode cX4_moveTo 44 = .ok (.iload_n 1, 1) := by decide +kernel
theorem dX4_moveTo_45 : decode cX4_moveTo 45 = .ok (.imul, 1) := by decide +kernel
theorem dX4_moveTo_46 : decode cX4_moveTo 46 = .ok (.aload_n 0, 1) := by decide +kernel
theorem dX4_moveTo_47 : decode cX4_moveTo 47 = .ok (.getfield 18, 3) := by decide +kernel
theorem dX4_moveTo_50 : decode cX4_moveTo 50 = .ok (.invokestatic 22, 3) := by decide +kernel
theorem dX4_moveTo_53 : decode cX4_moveTo 53 = .ok (.iastore, 1) := by decide +kernel
theorem dX4_moveTo_54 : decode cX4_moveTo 54 = .ok (.aload_n 0, 1) := by decide +kernel
theorem dX4_moveTo_55 : decode cX4_moveTo 55 = .ok (.getfield 15, 3) := by decide +kernel
theorem dX4_moveTo_58 : decode cX4_moveTo 58 = .ok (.iload 4, 2) := by decide +kernel
theorem dX4_moveTo_60 : decode cX4_moveTo 60 = .ok (.aload_n 0, 1) := by decide +kernel
theorem dX4_moveTo_61 : decode cX4_moveTo 61 = .ok (.getfield 15, 3) := by decide +kernel
theorem dX4_moveTo_64 : decode cX4_moveTo 64 = .ok (.iload 4, 2) := by decide +kernel
theorem dX4_moveTo_66 : decode cX4_moveTo 66 = .ok (.iconst 1, 1) := by decide +kernel
theorem dX4_moveTo_67 : decode cX4_moveTo 67 = .ok (.isub, 1) := by decide +kernel
theorem dX4_moveTo_68 : decode cX4_moveTo 68 = .ok (.iaload, 1) := by decide +kernel
theorem dX4_moveTo_69 : decode cX4_moveTo 69 = .ok (.iload_n 2, 1) := by decide +kernel
theorem dX4_moveTo_70 : decode cX4_moveTo 70 = .ok (.imul, 1) := by decide +kernel
theorem dX4_moveTo_71 : decode cX4_moveTo 71 = .ok (.aload_n 0, 1) := by decide +kernel
theorem dX4_moveTo_72 : decode cX4_moveTo 72 = .ok (.getfield 18, 3) := by decide +kernel
theorem dX4_moveTo_75 : decode cX4_moveTo 75 = .ok (.invokestatic 22, 3) := by decide +kernel
theorem dX4_moveTo_78 : decode cX4_moveTo 78 = .ok (.iastore, 1) := by decide +kernel
theorem dX4_moveTo_79 : decode cX4_moveTo 79 = .ok (.iinc 4 1, 3) := by decide +kernel
theorem dX4_moveTo_82 : decode cX4_moveTo 82 = .ok (.goto (-60), 3) := by decide +kernel
theorem dX4_moveTo_85 : decode cX4_moveTo 85 = .ok (.return_, 1) := by decide +kernel
theorem dX4_valueOfMonomial_0 : decode cX4_valueOfMonomial 0 = .ok (.iload_n 1, 1) := by decide +kernel
theorem dX4_valueOfMonomial_1 : decode cX4_valueOfMonomial 1 = .ok (.bipush 12, 2) := by decide +kernel
theorem dX4_valueOfMonomial_3 : decode cX4_valueOfMonomial 3 = .ok (.invokestatic 26, 3) := by decide +kernel
theorem dX4_valueOfMonomial_6 : decode cX4_valueOfMonomial 6 = .ok (.ifCond .ne 12, 3) := by decide +kernel
theorem dX4_valueOfMonomial_9 : decode cX4_valueOfMonomial 9 = .ok (.iload_n 2, 1) := by decide +kernel
theorem dX4_valueOfMonomial_10 : decode cX4_valueOfMonomial 10 = .ok (.bipush 12, 2) := by decide +kernel
theorem dX4_valueOfMonomial_12 : decode cX4_valueOfMonomial 12 = .ok (.invokestatic 26, 3) := by decide +kernel
theorem dX4_valueOfMonomial_15 : decode cX4_valueOfMonomial 15 = .ok (.ifCond .eq 5, 3) := by decide +kernel
theorem dX4_valueOfMonomial_18 : decode cX4_valueOfMonomial 18 = .ok (.iconst 0, 1) := by decide +kernel
theorem dX4_valueOfMonomial_19 : decode cX4_valueOfMonomial 19 = .ok (.ireturn, 1) := by decide +kernel
theorem dX4_valueOfMonomial_20 : decode cX4_valueOfMonomial 20 = .ok (.aload_n 0, 1) := by decide +kernel
theorem dX4_valueOfMonomial_21 : decode cX4_valueOfMonomial 21 = .ok (.getfield 9, 3) := by decide +kernel
theorem dX4_valueOfMonomial_24 : decode cX4_valueOfMonomial 24 = .ok (.iload_n 1, 1) := by decide +kernel
theorem dX4_valueOfMonomial_25 : decode cX4_valueOfMonomial 25 = .ok (.iaload, 1) := by decide +kernel
theorem dX4_valueOfMonomial_26 : decode cX4_valueOfMonomial 26 = .ok (.aload_n 0, 1) := by decide +kernel
theorem dX4_valueOfMonomial_27 : decode cX4_valueOfMonomial 27 = .ok (.getfield 15, 3) := by decide +kernel
theorem dX4_valueOfMonomial_30 : decode cX4_valueOfMonomial 30 = .ok (.iload_n 2, 1) := by decide +kernel
theorem dX4_valueOfMonomial_31 : decode cX4_valueOfMonomial 31 = .ok (.iaload, 1) := by decide +kernel
theorem dX4_valueOfMonomial_32 : decode cX4_valueOfMonomial 32 = .ok (.imul, 1) := by decide +kernel
theorem dX4_valueOfMonomial_33 : decode cX4_valueOfMonomial 33 = .ok (.aload_n 0, 1) := by decide +kernel
theorem dX4_valueOfMonomial_34 : decode cX4_valueOfMonomial 34 = .ok (.getfield 18, 3) := by decide +kernel
theorem dX4_valueOfMonomial_37 : decode cX4_valueOfMonomial 37 = .ok (.invokestatic 22, 3) := by decide +kernel
theorem dX4_valueOfMonomial_40 : decode cX4_valueOfMonomial 40 = .ok (.ireturn, 1) := by decide +kernel
theorem dX4_valueOfRule_0 : decode cX4_valueOfRule 0 = .ok (.iload_n 2, 1) := by decide +kernel
theorem dX4_valueOfRule_1 : decode cX4_valueOfRule 1 = .ok (.aload_n 1, 1) := by decide +kernel
theorem dX4_valueOfRule_2 : decode cX4_valueOfRule 2 = .ok (.getfield 30, 3) := by decide +kernel
theorem dX4_valueOfRule_5 : decode cX4_valueOfRule 5 = .ok (.iconst 1, 1) := by decide +kernel
theorem dX4_valueOfRule_6 : decode cX4_valueOfRule 6 = .ok (.isub, 1) := by decide +kernel
theorem dX4_valueOfRule_7 : decode cX4_valueOfRule 7 = .ok (.invokestatic 26, 3) := by decide +kernel
theorem dX4_valueOfRule_10 : decode cX4_valueOfRule 10 = .ok (.ifCond .eq 5, 3) := by decide +kernel
theorem dX4_valueOfRule_13 : decode cX4_valueOfRule 13 = .ok (.iconst 0, 1) := by decide +kernel
theorem dX4_valueOfRule_14 : decode cX4_valueOfRule 14 = .ok (.ireturn, 1) := by decide +kernel
theorem dX4_valueOfRule_15 : decode cX4_valueOfRule 15 = .ok (.iconst 0, 1) := by decide +kernel
theorem dX4_valueOfRule_16 : decode cX4_valueOfRule 16 = .ok (.istore_n 3, 1) := by decide +kernel
theorem dX4_valueOfRule_17 : decode cX4_valueOfRule 17 = .ok (.iconst 0, 1) := by decide +kernel
theorem dX4_valueOfRule_18 : decode cX4_valueOfRule 18 = .ok (.istore 4, 2) := by decide +kernel
theorem dX4_valueOfRule_20 : decode cX4_valueOfRule 20 = .ok (.iload 4, 2) := by decide +kernel
theorem dX4_valueOfRule_22 : decode cX4_valueOfRule 22 = .ok (.aload_n 1, 1) := by decide +kernel
theorem dX4_valueOfRule_23 : decode cX4_valueOfRule 23 = .ok (.getfield 35, 3) := by decide +kernel
theorem dX4_valueOfRule_26 : decode cX4_valueOfRule 26 = .ok (.if_icmp .ge 47, 3) := by decide +kernel
theorem dX4_valueOfRule_29 : decode cX4_valueOfRule 29 = .ok (.aload_n 1, 1) := by decide +kernel
theorem dX4_valueOfRule_30 : decode cX4_valueOfRule 30 = .ok (.iload_n 2, 1) := by decide +kernel
theorem dX4_valueOfRule_31 : decode cX4_valueOfRule 31 = .ok (.iload 4, 2) := by decide +kernel
theorem dX4_valueOfRule_33 : decode cX4_valueOfRule 33 = .ok (.invokevirtual 38, 3) := by decide +kernel
theorem dX4_valueOfRule_36 : decode cX4_valueOfRule 36 = .ok (.istore 5, 2) := by decide +kernel
theorem dX4_valueOfRule_38 : decode cX4_valueOfRule 38 = .ok (.iload 5, 2) := by decide +kernel
theorem dX4_valueOfRule_40 : decode cX4_valueOfRule 40 = .ok (.ifCond .eq 27, 3) := by decide +kernel
theorem dX4_valueOfRule_43 : decode cX4_valueOfRule 43 = .ok (.iload_n 3, 1) := by decide +kernel
theorem dX4_valueOfRule_44 : decode cX4_valueOfRule 44 = .ok (.iload 5, 2) := by decide +kernel
theorem dX4_valueOfRule_46 : decode cX4_valueOfRule 46 = .ok (.aload_n 0, 1) := by decide +kernel
theorem dX4_valueOfRule_47 : decode cX4_valueOfRule 47 = .ok (.aload_n 1, 1) := by decide +kernel
theorem dX4_valueOfRule_48 : decode cX4_valueOfRule 48 = .ok (.getfield 41, 3) := by decide +kernel
theorem dX4_valueOfRule_51 : decode cX4_valueOfRule 51 = .ok (.iload 4, 2) := by decide +kernel
theorem dX4_valueOfRule_53 : decode cX4_valueOfRule 53 = .ok (.iaload, 1) := by decide +kernel
theorem dX4_valueOfRule_54 : decode cX4_valueOfRule 54 = .ok (.aload_n 1, 1) := by decide +kernel
theorem dX4_valueOfRule_55 : decode cX4_valueOfRule 55 = .ok (.getfield 44, 3) := by decide +kernel
theorem dX4_valueOfRule_58 : decode cX4_valueOfRule 58 = .ok (.iload 4, 2) := by decide +kernel
theorem dX4_valueOfRule_60 : decode cX4_valueOfRule 60 = .ok (.iaload, 1) := by decide +kernel
theorem dX4_valueOfRule_61 : decode cX4_valueOfRule 61 = .ok (.invokevirtual 47, 3) := by decide +kernel
theorem dX4_valueOfRule_64 : decode cX4_valueOfRule 64 = .ok (.imul, 1) := by decide +kernel
theorem dX4_valueOfRule_65 : decode cX4_valueOfRule 65 = .ok (.iadd, 1) := by decide +kernel
theorem dX4_valueOfRule_66 : decode cX4_valueOfRule 66 = .ok (.istore_n 3, 1) := by decide +kernel
theorem dX4_valueOfRule_67 : decode cX4_valueOfRule 67 = .ok (.iinc 4 1, 3) := by decide +kernel
theorem dX4_valueOfRule_70 : decode cX4_valueOfRule 70 = .ok (.goto (-50), 3) := by decide +kernel
theorem dX4_valueOfRule_73 : decode cX4_valueOfRule 73 = .ok (.aload_n 0, 1) := by decide +kernel
theorem dX4_valueOfRule_74 : decode cX4_valueOfRule 74 = .ok (.aload_n 1, 1) := by decide +kernel
theorem dX4_valueOfRule_75 : decode cX4_valueOfRule 75 = .ok (.getfield 50, 3) := by decide +kernel
theorem dX4_valueOfRule_78 : decode cX4_valueOfRule 78 = .ok (.iload_n 2, 1) := by decide +kernel
theorem dX4_valueOfRule_79 : decode cX4_valueOfRule 79 = .ok (.iaload, 1) := by decide +kernel
theorem dX4_valueOfRule_80 : decode cX4_valueOfRule 80 = .ok (.aload_n 1, 1) := by decide +kernel
theorem dX4_valueOfRule_81 : decode cX4_valueOfRule 81 = .ok (.getfield 53, 3) := by decide +kernel
theorem dX4_valueOfRule_84 : decode cX4_valueOfRule 84 = .ok (.iload_n 2, 1) := by decide +kernel
theorem dX4_valueOfRule_85 : decode cX4_valueOfRule 85 = .ok (.iaload, 1) := by decide +kernel
theorem dX4_valueOfRule_86 : decode cX4_valueOfRule 86 = .ok (.invokevirtual 47, 3) := by decide +kernel
theorem dX4_valueOfRule_89 : decode cX4_valueOfRule 89 = .ok (.iload_n 3, 1) := by decide +kernel
theorem dX4_valueOfRule_90 : decode cX4_valueOfRule 90 = .ok (.isub, 1) := by decide +kernel
theorem dX4_valueOfRule_91 : decode cX4_valueOfRule 91 = .ok (.aload_n 0, 1) := by decide +kernel
theorem dX4_valueOfRule_92 : decode cX4_valueOfRule 92 = .ok (.getfield 18, 3) := by decide +kernel
theorem dX4_valueOfRule_95 : decode cX4_valueOfRule 95 = .ok (.invokestatic 22, 3) := by decide +kernel
theorem dX4_valueOfRule_98 : decode cX4_valueOfRule 98 = .ok (.ireturn, 1) := by decide +kernel
theorem dX4_isZeroOf_0 : decode cX4_isZeroOf 0 = .ok (.iconst 0, 1) := by decide +kernel
theorem dX4_isZeroOf_1 : decode cX4_isZeroOf 1 = .ok (.istore_n 2, 1) := by decide +kernel
theorem dX4_isZeroOf_2 : decode cX4_isZeroOf 2 = .ok (.iload_n 2, 1) := by decide +kernel
theorem dX4_isZeroOf_3 : decode cX4_isZeroOf 3 = .ok (.aload_n 1, 1) := by decide +kernel
theorem dX4_isZeroOf_4 : decode cX4_isZeroOf 4 = .ok (.getfield 30, 3) := by decide +kernel
theorem dX4_isZeroOf_7 : decode cX4_isZeroOf 7 = .ok (.if_icmp .ge 20, 3) := by decide +kernel
theorem dX4_isZeroOf_10 : decode cX4_isZeroOf 10 = .ok (.aload_n 0, 1) := by decide +kernel
theorem dX4_isZeroOf_11 : decode cX4_isZeroOf 11 = .ok (.aload_n 1, 1) := by decide +kernel
theorem dX4_isZeroOf_12 : decode cX4_isZeroOf 12 = .ok (.iload_n 2, 1) := by decide +kernel
theorem dX4_isZeroOf_13 : decode cX4_isZeroOf 13 = .ok (.invokevirtual 56, 3) := by decide +kernel
theorem dX4_isZeroOf_16 : decode cX4_isZeroOf 16 = .ok (.ifCond .eq 5, 3) := by decide +kernel
theorem dX4_isZeroOf_19 : decode cX4_isZeroOf 19 = .ok (.iconst 0, 1) := by decide +kernel
theorem dX4_isZeroOf_20 : decode cX4_isZeroOf 20 = .ok (.ireturn, 1) := by decide +kernel
theorem dX4_isZeroOf_21 : decode cX4_isZeroOf 21 = .ok (.iinc 2 1, 3) := by decide +kernel
theorem dX4_isZeroOf_24 : decode cX4_isZeroOf 24 = .ok (.goto (-22), 3) := by decide +kernel
theorem dX4_isZeroOf_27 : decode cX4_isZeroOf 27 = .ok (.iconst 1, 1) := by decide +kernel
theorem dX4_isZeroOf_28 : decode cX4_isZeroOf 28 = .ok (.ireturn, 1) := by decide +kernel
theorem dX5_init_0 : decode cX5_init 0 = .ok (.aload_n 0, 1) := by decide +kernel
theorem dX5_init_1 : decode cX5_init 1 = .ok (.invokespecial 3, 3) := by decide +kernel
theorem dX5_init_4 : decode cX5_init 4 = .ok (.aload_n 0, 1) := by decide +kernel
theorem dX5_init_5 : decode cX5_init 5 = .ok (.bipush 13, 2) := by decide +kernel
theorem dX5_init_7 : decode cX5_init 7 = .ok (.newarray .int, 2) := by decide +kernel
theorem dX5_init_9 : decode cX5_init 9 = .ok (.putfield 9, 3) := by decide +kernel
theorem dX5_init_12 : decode cX5_init 12 = .ok (.aload_n 0, 1) := by decide +kernel
theorem dX5_init_13 : decode cX5_init 13 = .ok (.bipush 12, 2) := by decide +kernel
theorem dX5_init_15 : decode cX5_init 15 = .ok (.newarray .int, 2) := by decide +kernel
theorem dX5_init_17 : decode cX5_init 17 = .ok (.putfield 15, 3) := by decide +kernel
theorem dX5_init_20 : decode cX5_init 20 = .ok (.aload_n 0, 1) := by decide +kernel
theorem dX5_init_21 : decode cX5_init 21 = .ok (.bipush 12, 2) := by decide +kernel
theorem dX5_init_23 : decode cX5_init 23 = .ok (.newarray .int, 2) := by decide +kernel
theorem dX5_init_25 : decode cX5_init 25 = .ok (.putfield 18, 3) := by decide +kernel
theorem dX5_init_28 : decode cX5_init 28 = .ok (.aload_n 0, 1) := by decide +kernel
theorem dX5_init_29 : decode cX5_init 29 = .ok (.bipush 13, 2) := by decide +kernel
theorem dX5_init_31 : decode cX5_init 31 = .ok (.newarray .int, 2) := by decide +kernel
theorem dX5_init_33 : decode cX5_init 33 = .ok (.putfield 21, 3) := by decide +kernel
theorem dX5_init_36 : decode cX5_init 36 = .ok (.aload_n 0, 1) := by decide +kernel
theorem dX5_init_37 : decode cX5_init 37 = .ok (.bipush 13, 2) := by decide +kernel
theorem dX5_init_39 : decode cX5_init 39 = .ok (.newarray .int, 2) := by decide +kernel
theorem dX5_init_41 : decode cX5_init 41 = .ok (.putfield 24, 3) := by decide +kernel
theorem dX5_init_44 : decode cX5_init 44 = .ok (.aload_n 0, 1) := by decide +kernel
theorem dX5_init_45 : decode cX5_init 45 = .ok (.sipush 156, 3) := by decide +kernel
theorem dX5_init_48 : decode cX5_init 48 = .ok (.newarray .int, 2) := by decide +kernel
theorem dX5_init_50 : decode cX5_init 50 = .ok (.putfield 27, 3) := by decide +kernel
theorem dX5_init_53 : decode cX5_init 53 = .ok (.aload_n 0, 1) := by decide +kernel
theorem dX5_init_54 : decode cX5_init 54 = .ok (.bipush 12, 2) := by decide +kernel
theorem dX5_init_56 : decode cX5_init 56 = .ok (.newarray .int, 2) := by decide +kernel
theorem dX5_init_58 : decode cX5_init 58 = .ok (.putfield 30, 3) := by decide +kernel
theorem dX5_init_61 : decode cX5_init 61 = .ok (.aload_n 0, 1) := by decide +kernel
theorem dX5_init_62 : decode cX5_init 62 = .ok (.bipush 12, 2) := by decide +kernel
theorem dX5_init_64 : decode cX5_init 64 = .ok (.newarray .int, 2) := by decide +kernel
theorem dX5_init_66 : decode cX5_init 66 = .ok (.putfield 33, 3) := by decide +kernel
theorem dX5_init_69 : decode cX5_init 69 = .ok (.aload_n 0, 1) := by decide +kernel
theorem dX5_init_70 : decode cX5_init 70 = .ok (.invokevirtual 36, 3) := by decide +kernel
theorem dX5_init_73 : decode cX5_init 73 = .ok (.return_, 1) := by decide +kernel
theorem dX5_reset_0 : decode cX5_reset 0 = .ok (.aload_n 0, 1) := by decide +kernel
theorem dX5_reset_1 : decode cX5_reset 1 = .ok (.bipush 31, 2) := by decide +kernel
theorem dX5_reset_3 : decode cX5_reset 3 = .ok (.putfield 39, 3) := by decide +kernel
theorem dX5_reset_6 : decode cX5_reset 6 = .ok (.aload_n 0, 1) := by decide +kernel
theorem dX5_reset_7 : decode cX5_reset 7 = .ok (.getfield 9, 3) := by decide +kernel
theorem dX5_reset_10 : decode cX5_reset 10 = .ok (.iconst 0, 1) := by decide +kernel
theorem dX5_reset_11 : decode cX5_reset 11 = .ok (.invokestatic 43, 3) := by decide +kernel
theorem dX5_reset_14 : decode cX5_reset 14 = .ok (.aload_n 0, 1) := by decide +kernel
theorem dX5_reset_15 : decode cX5_reset 15 = .ok (.getfield 9, 3) := by decide +kernel
theorem dX5_reset_18 : decode cX5_reset 18 = .ok (.iconst 0, 1) := by decide +kernel
theorem dX5_reset_19 : decode cX5_reset 19 = .ok (.iconst 1, 1) := by decide +kernel
theorem dX5_reset_20 : decode cX5_reset 20 = .ok (.iastore, 1) := by decide +kernel
theorem dX5_reset_21 : decode cX5_reset 21 = .ok (.aload_n 0, 1) := by decide +kernel
theorem dX5_reset_22 : decode cX5_reset 22 = .ok (.getfield 27, 3) := by decide +kernel
theorem dX5_reset_25 : decode cX5_reset 25 = .ok (.iconst 0, 1) := by decide +kernel
theorem dX5_reset_26 : decode cX5_reset 26 = .ok (.invokestatic 43, 3) := by decide +kernel
theorem dX5_reset_29 : decode cX5_reset 29 = .ok (.aload_n 0, 1) := by decide +kernel
theorem dX5_reset_30 : decode cX5_reset 30 = .ok (.iconst 0, 1) := by decide +kernel
theorem dX5_reset_31 : decode cX5_reset 31 = .ok (.putfield 49, 3) := by decide +kernel
theorem dX5_reset_34 : decode cX5_reset 34 = .ok (.aload_n 0, 1) := by decide +kernel
theorem dX5_reset_35 : decode cX5_reset 35 = .ok (.invokevirtual 52, 3) := by decide +kernel
theorem dX5_reset_38 : decode cX5_reset 38 = .ok (.return_, 1) := by decide +kernel
theorem dX5_copyFrom_0 : decode cX5_copyFrom 0 = .ok (.aload_n 0, 1) := by decide +kernel
theorem dX5_copyFrom_1 : decode cX5_copyFrom 1 = .ok (.aload_n 1, 1) := by decide +kernel
theorem dX5_copyFrom_2 : decode cX5_copyFrom 2 = .ok (.getfield 39, 3) := by decide +kernel
theorem dX5_copyFrom_5 : decode cX5_copyFrom 5 = .ok (.putfield 39, 3) := by decide +kernel
theorem dX5_copyFrom_8 : decode cX5_copyFrom 8 = .ok (.aload_n 0, 1) := by decide +kernel
theorem dX5_copyFrom_9 : decode cX5_copyFrom 9 = .ok (.aload_n 1, 1) := by decide +kernel
theorem dX5_copyFrom_10 : decode cX5_copyFrom 10 = .ok (.getfield 55, 3) := by decide +kernel
theorem dX5_copyFrom_13 : decode cX5_copyFrom 13 = .ok (.putfield 55, 3) := by decide +kernel
theorem dX5_copyFrom_16 : decode cX5_copyFrom 16 = .ok (.aload_n 0, 1) := by decide +kernel
theorem dX5_copyFrom_17 : decode cX5_copyFrom 17 = .ok (.aload_n 1, 1) := by decide +kernel
theorem dX5_copyFrom_18 : decode cX5_copyFrom 18 = .ok (.getfield 58, 3) := by decide +kernel
theorem dX5_copyFrom_21 : decode cX5_copyFrom 21 = .ok (.putfield 58, 3) := by decide +kernel
theorem dX5_copyFrom_24 : decode cX5_copyFrom 24 = .ok (.aload_n 0, 1) := by decide +kernel
theorem dX5_copyFrom_25 : decode cX5_copyFrom 25 = .ok (.aload_n 1, 1) := by decide +kernel
theorem dX5_copyFrom_26 : decode cX5_copyFrom 26 = .ok (.getfield 49, 3) := by decide +kernel
theorem dX5_copyFrom_29 : decode cX5_copyFrom 29 = .ok (.putfield 49, 3) := by decide +kernel
theorem dX5_copyFrom_32 : decode cX5_copyFrom 32 = .ok (.aload_n 1, 1) := by decide +kernel
theorem dX5_copyFrom_33 : decode cX5_copyFrom 33 = .ok (.getfield 9, 3) := by decide +kernel
theorem dX5_copyFrom_36 : decode cX5_copyFrom 36 = .ok (.iconst 0, 1) := by decide +kernel
theorem dX5_copyFrom_37 : decode cX5_copyFrom 37 = .ok (.aload_n 0, 1) := by decide +kernel
theorem dX5_copyFrom_38 : decode cX5_copyFrom 38 = .ok (.getfield 9, 3) := by decide +kernel
theorem dX5_copyFrom_41 : decode cX5_copyFrom 41 = .ok (.iconst 0, 1) := by decide +kernel
theorem dX5_copyFrom_42 : decode cX5_copyFrom 42 = .ok (.bipush 13, 2) := by decide +kernel
theorem dX5_copyFrom_44 : decode cX5_copyFrom 44 = .ok (.invokestatic 61, 3) := by decide +kernel
theorem dX5_copyFrom_47 : decode cX5_copyFrom 47 = .ok (.aload_n 1, 1) := by decide +kernel
theorem dX5_copyFrom_48 : decode cX5_copyFrom 48 = .ok (.getfield 15, 3) := by decide +kernel
theorem dX5_copyFrom_51 : decode cX5_copyFrom 51 = .ok (.iconst 0, 1) := by decide +kernel
theorem dX5_copyFrom_52 : decode cX5_copyFrom 52 = .ok (.aload_n 0, 1) := by decide +kernel
theorem dX5_copyFrom_53 : decode cX5_copyFrom 53 = .ok (.getfield 15, 3) := by decide +kernel
theorem dX5_copyFrom_56 : decode cX5_copyFrom 56 = .ok (.iconst 0, 1) := by decide +kernel
theorem dX5_copyFrom_57 : decode cX5_copyFrom 57 = .ok (.bipush 12, 2) := by decide +kernel
theorem dX5_copyFrom_59 : decode cX5_copyFrom 59 = .ok (.invokestatic 61, 3) := by decide +kernel
theorem dX5_copyFrom_62 : decode cX5_copyFrom 62 = .ok (.aload_n 1, 1) := by decide +kernel
theorem dX5_copyFrom_63 : decode cX5_copyFrom 63 = .ok (.getfield 18, 3) := by decide +kernel
theorem dX5_copyFrom_66 : decode cX5_copyFrom 66 = .ok (.iconst 0, 1) := by decide +kernel
theorem dX5_copyFrom_67 : decode cX5_copyFrom 67 = .ok (.aload_n 0, 1) := by decide +kernel
theorem dX5_copyFrom_68 : decode cX5_copyFrom 68 = .ok (.getfield 18, 3) := by decide +kernel
theorem dX5_copyFrom_71 : decode cX5_copyFrom 71 = .ok (.iconst 0, 1) := by decide +kernel
theorem dX5_copyFrom_72 : decode cX5_copyFrom 72 = .ok (.bipush 12, 2) := by decide +kernel
theorem dX5_copyFrom_74 : decode cX5_copyFrom 74 = .ok (.invokestatic 61, 3) := by decide +kernel
theorem dX5_copyFrom_77 : decode cX5_copyFrom 77 = .ok (.aload_n 1, 1) := by decide +kernel
theorem dX5_copyFrom_78 : decode cX5_copyFrom 78 = .ok (.getfield 21, 3) := by decide +kernel
theorem dX5_copyFrom_81 : decode cX5_copyFrom 81 = .ok (.iconst 0, 1) := by decide +kernel
theorem dX5_copyFrom_82 : decode cX5_copyFrom 82 = .ok (.aload_n 0, 1) := by decide +kernel
theorem dX5_copyFrom_83 : decode cX5_copyFrom 83 = .ok (.getfield 21, 3) := by decide +kernel
theorem dX5_copyFrom_86 : decode cX5_copyFrom 86 = .ok (.iconst 0, 1) := by decide +kernel
theorem dX5_copyFrom_87 : decode cX5_copyFrom 87 = .ok (.bipush 13, 2) := by decide +kernel
theorem dX5_copyFrom_89 : decode cX5_copyFrom 89 = .ok (.invokestatic 61, 3) := by decide +kernel
theorem dX5_copyFrom_92 : decode cX5_copyFrom 92 = .ok (.aload_n 1, 1) := by decide +kernel
theorem dX5_copyFrom_93 : decode cX5_copyFrom 93 = .ok (.getfield 24, 3) := by decide +kernel
theorem dX5_copyFrom_96 : decode cX5_copyFrom 96 = .ok (.iconst 0, 1) := by decide +kernel
theorem dX5_copyFrom_97 : decode cX5_copyFrom 97 = .ok (.aload_n 0, 1) := by decide +kernel
theorem dX5_copyFrom_98 : decode cX5_copyFrom 98 = .ok (.getfield 24, 3) := by decide +kernel
theorem dX5_copyFrom_101 : decode cX5_copyFrom 101 = .ok (.iconst 0, 1) := by decide +kernel
theorem dX5_copyFrom_102 : decode cX5_copyFrom 102 = .ok (.bipush 13, 2) := by decide +kernel
theorem dX5_copyFrom_104 : decode cX5_copyFrom 104 = .ok (.invokestatic 61, 3) := by decide +kernel
theorem dX5_copyFrom_107 : decode cX5_copyFrom 107 = .ok (.aload_n 1, 1) := by decide +kernel
theorem dX5_copyFrom_108 : decode cX5_copyFrom 108 = .ok (.getfield 27, 3) := by decide +kernel
theorem dX5_copyFrom_111 : decode cX5_copyFrom 111 = .ok (.iconst 0, 1) := by decide +kernel
theorem dX5_copyFrom_112 : decode cX5_copyFrom 112 = .ok (.aload_n 0, 1) := by decide +kernel
theorem dX5_copyFrom_113 : decode cX5_copyFrom 113 = .ok (.getfield 27, 3) := by decide +kernel
theorem dX5_copyFrom_116 : decode cX5_copyFrom 116 = .ok (.iconst 0, 1) := by decide +kernel
theorem dX5_copyFrom_117 : decode cX5_copyFrom 117 = .ok (.sipush 156, 3) := by decide +kernel
theorem dX5_copyFrom_120 : decode cX5_copyFrom 120 = .ok (.invokestatic 61, 3) := by decide +kernel
theorem dX5_copyFrom_123 : decode cX5_copyFrom 123 = .ok (.aload_n 1, 1) := by decide +kernel
theorem dX5_copyFrom_124 : decode cX5_copyFrom 124 = .ok (.getfield 30, 3) := by decide +kernel
theorem dX5_copyFrom_127 : decode cX5_copyFrom 127 = .ok (.iconst 0, 1) := by decide +kernel
theorem dX5_copyFrom_128 : decode cX5_copyFrom 128 = .ok (.aload_n 0, 1) := by decide +kernel
theorem dX5_copyFrom_129 : decode cX5_copyFrom 129 = .ok (.getfield 30, 3) := by decide +kernel
theorem dX5_copyFrom_132 : decode cX5_copyFrom 132 = .ok (.iconst 0, 1) := by decide +kernel
theorem dX5_copyFrom_133 : decode cX5_copyFrom 133 = .ok (.bipush 12, 2) := by decide +kernel
theorem dX5_copyFrom_135 : decode cX5_copyFrom 135 = .ok (.invokestatic 61, 3) := by decide +kernel
theorem dX5_copyFrom_138 : decode cX5_copyFrom 138 = .ok (.aload_n 1, 1) := by decide +kernel
theorem dX5_copyFrom_139 : decode cX5_copyFrom 139 = .ok (.getfield 33, 3) := by decide +kernel
theorem dX5_copyFrom_142 : decode cX5_copyFrom 142 = .ok (.iconst 0, 1) := by decide +kernel
theorem dX5_copyFrom_143 : decode cX5_copyFrom 143 = .ok (.aload_n 0, 1) := by decide +kernel
theorem dX5_copyFrom_144 : decode cX5_copyFrom 144 = .ok (.getfield 33, 3) := by decide +kernel
theorem dX5_copyFrom_147 : decode cX5_copyFrom 147 = .ok (.iconst 0, 1) := by decide +kernel
theorem dX5_copyFrom_148 : decode cX5_copyFrom 148 = .ok (.bipush 12, 2) := by decide +kernel
theorem dX5_copyFrom_150 : decode cX5_copyFrom 150 = .ok (.invokestatic 61, 3) := by decide +kernel
theorem dX5_copyFrom_153 : decode cX5_copyFrom 153 = .ok (.return_, 1) := by decide +kernel
theorem dX5_contains_0 : decode cX5_contains 0 = .ok (.iload_n 1, 1) := by decide +kernel
theorem dX5_contains_1 : decode cX5_contains 1 = .ok (.ifCond .lt 27, 3) := by decide +kernel
theorem dX5_contains_4 : decode cX5_contains 4 = .ok (.iload_n 1, 1) := by decide +kernel
theorem dX5_contains_5 : decode cX5_contains 5 = .ok (.bipush 12, 2) := by decide +kernel
theorem dX5_contains_7 : decode cX5_contains 7 = .ok (.if_icmp .gt 21, 3) := by decide +kernel
theorem dX5_contains_10 : decode cX5_contains 10 = .ok (.iload_n 2, 1) := by decide +kernel
theorem dX5_contains_11 : decode cX5_contains 11 = .ok (.ifCond .lt 17, 3) := by decide +kernel
theorem dX5_contains_14 : decode cX5_contains 14 = .ok (.iload_n 2, 1) := by decide +kernel
theorem dX5_contains_15 : decode cX5_contains 15 = .ok (.aload_n 0, 1) := by decide +kernel
theorem dX5_contains_16 : decode cX5_contains 16 = .ok (.getfield 9, 3) := by decide +kernel
theorem dX5_contains_19 : decode cX5_contains 19 = .ok (.iload_n 1, 1) := by decide +kernel
theorem dX5_contains_20 : decode cX5_contains 20 = .ok (.iaload, 1) := by decide +kernel
theorem dX5_contains_21 : decode cX5_contains 21 = .ok (.if_icmp .ge 7, 3) := by decide +kernel
theorem dX5_contains_24 : decode cX5_contains 24 = .ok (.iconst 1, 1) := by decide +kernel
theorem dX5_contains_25 : decode cX5_contains 25 = .ok (.goto 4, 3) := by decide +kernel
theorem dX5_contains_28 : decode cX5_contains 28 = .ok (.iconst 0, 1) := by decide +kernel
theorem dX5_contains_29 : decode cX5_contains 29 = .ok (.ireturn, 1) := by decide +kernel
theorem dX5_numberOf_0 : decode cX5_numberOf 0 = .ok (.iconst 0, 1) := by decide +kernel
theorem dX5_numberOf_1 : decode cX5_numberOf 1 = .ok (.istore_n 3, 1) := by decide +kernel
theorem dX5_numberOf_2 : decode cX5_numberOf 2 = .ok (.iload_n 3, 1) := by decide +kernel
theorem dX5_numberOf_3 : decode cX5_numberOf 3 = .ok (.aload_n 0, 1) := by decide +kernel
theorem dX5_numberOf_4 : decode cX5_numberOf 4 = .ok (.getfield 55, 3) := by decide +kernel
theorem dX5_numberOf_7 : decode cX5_numberOf 7 = .ok (.if_icmp .ge 31, 3) := by decide +kernel
theorem dX5_numberOf_10 : decode cX5_numberOf 10 = .ok (.aload_n 0, 1) := by decide +kernel
theorem dX5_numberOf_11 : decode cX5_numberOf 11 = .ok (.getfield 15, 3) := by decide +kernel
theorem dX5_numberOf_14 : decode cX5_numberOf 14 = .ok (.iload_n 3, 1) := by decide +kernel
theorem dX5_numberOf_15 : decode cX5_numberOf 15 = .ok (.iaload, 1) := by decide +kernel
theorem dX5_numberOf_16 : decode cX5_numberOf 16 = .ok (.iload_n 1, 1) := by decide +kernel
theorem dX5_numberOf_17 : decode cX5_numberOf 17 = .ok (.if_icmp .ne 15, 3) := by decide +kernel
theorem dX5_numberOf_20 : decode cX5_numberOf 20 = .ok (.aload_n 0, 1) := by decide +kernel
theorem dX5_numberOf_21 : decode cX5_numberOf 21 = .ok (.getfield 18, 3) := by decide +kernel
theorem dX5_numberOf_24 : decode cX5_numberOf 24 = .ok (.iload_n 3, 1) := by decide +kernel
theorem dX5_numberOf_25 : decode cX5_numberOf 25 = .ok (.iaload, 1) := by decide +kernel
theorem dX5_numberOf_26 : decode cX5_numberOf 26 = .ok (.iload_n 2, 1) := by decide +kernel
theorem dX5_numberOf_27 : decode cX5_numberOf 27 = .ok (.if_icmp .ne 5, 3) := by decide +kernel
theorem dX5_numberOf_30 : decode cX5_numberOf 30 = .ok (.iload_n 3, 1) := by decide +kernel
theorem dX5_numberOf_31 : decode cX5_numberOf 31 = .ok (.ireturn, 1) := by decide +kernel
theorem dX5_numberOf_32 : decode cX5_numberOf 32 = .ok (.iinc 3 1, 3) := by decide +kernel
theorem dX5_numberOf_35 : decode cX5_numberOf 35 = .ok (.goto (-33), 3) := by decide +kernel
theorem dX5_numberOf_38 : decode cX5_numberOf 38 = .ok (.iconst (-1), 1) := by decide +kernel
theorem dX5_numberOf_39 : decode cX5_numberOf 39 = .ok (.ireturn, 1) := by decide +kernel
theorem dX5_borderNumberOf_0 : decode cX5_borderNumberOf 0 = .ok (.iconst 0, 1) := by decide +kernel
theorem dX5_borderNumberOf_1 : decode cX5_borderNumberOf 1 = .ok (.istore_n 3, 1) := by decide +kernel
theorem dX5_borderNumberOf_2 : decode cX5_borderNumberOf 2 = .ok (.iload_n 3, 1) := by decide +kernel
theorem dX5_borderNumberOf_3 : decode cX5_borderNumberOf 3 = .ok (.aload_n 0, 1) := by decide +kernel
theorem dX5_borderNumberOf_4 : decode cX5_borderNumberOf 4 = .ok (.getfield 58, 3) := by decide +kernel
theorem dX5_borderNumberOf_7 : decode cX5_borderNumberOf 7 = .ok (.if_icmp .ge 31, 3) := by decide +kernel
theorem dX5_borderNumberOf_10 : decode cX5_borderNumberOf 10 = .ok (.aload_n 0, 1) := by decide +kernel
theorem dX5_borderNumberOf_11 : decode cX5_borderNumberOf 11 = .ok (.getfield 21, 3) := by decide +kernel
theorem dX5_borderNumberOf_14 : decode cX5_borderNumberOf 14 = .ok (.iload_n 3, 1) := by decide +kernel
theorem dX5_borderNumberOf_15 : decode cX5_borderNumberOf 15 = .ok (.iaload, 1) := by decide +kernel
theorem dX5_borderNumberOf_16 : decode cX5_borderNumberOf 16 = .ok (.iload_n 1, 1) := by decide +kernel
theorem dX5_borderNumberOf_17 : decode cX5_borderNumberOf 17 = .ok (.if_icmp .ne 15, 3) := by decide +kernel
theorem dX5_borderNumberOf_20 : decode cX5_borderNumberOf 20 = .ok (.aload_n 0, 1) := by decide +kernel
theorem dX5_borderNumberOf_21 : decode cX5_borderNumberOf 21 = .ok (.getfield 24, 3) := by decide +kernel
theorem dX5_borderNumberOf_24 : decode cX5_borderNumberOf 24 = .ok (.iload_n 3, 1) := by decide +kernel
theorem dX5_borderNumberOf_25 : decode cX5_borderNumberOf 25 = .ok (.iaload, 1) := by decide +kernel
theorem dX5_borderNumberOf_26 : decode cX5_borderNumberOf 26 = .ok (.iload_n 2, 1) := by decide +kernel
theorem dX5_borderNumberOf_27 : decode cX5_borderNumberOf 27 = .ok (.if_icmp .ne 5, 3) := by decide +kernel
theorem dX5_borderNumberOf_30 : decode cX5_borderNumberOf 30 = .ok (.iload_n 3, 1) := by decide +kernel
theorem dX5_borderNumberOf_31 : decode cX5_borderNumberOf 31 = .ok (.ireturn, 1) := by decide +kernel
theorem dX5_borderNumberOf_32 : decode cX5_borderNumberOf 32 = .ok (.iinc 3 1, 3) := by decide +kernel
theorem dX5_borderNumberOf_35 : decode cX5_borderNumberOf 35 = .ok (.goto (-33), 3) := by decide +kernel
theorem dX5_borderNumberOf_38 : decode cX5_borderNumberOf 38 = .ok (.iconst (-1), 1) := by decide +kernel
theorem dX5_borderNumberOf_39 : decode cX5_borderNumberOf 39 = .ok (.ireturn, 1) := by decide +kernel
theorem dX5_obstacle_0 : decode cX5_obstacle 0 = .ok (.aload_n 0, 1) := by decide +kernel
theorem dX5_obstacle_1 : decode cX5_obstacle 1 = .ok (.iload_n 1, 1) := by decide +kernel
theorem dX5_obstacle_2 : decode cX5_obstacle 2 = .ok (.iload_n 2, 1) := by decide +kernel
theorem dX5_obstacle_3 : decode cX5_obstacle 3 = .ok (.invokevirtual 67, 3) := by decide +kernel
theorem dX5_obstacle_6 : decode cX5_obstacle 6 = .ok (.ifCond .eq 5, 3) := by decide +kernel
theorem dX5_obstacle_9 : decode cX5_obstacle 9 = .ok (.iconst 1, 1) := by decide +kernel
theorem dX5_obstacle_10 : decode cX5_obstacle 10 = .ok (.ireturn, 1) := by decide +kernel
theorem dX5_obstacle_11 : decode cX5_obstacle 11 = .ok (.iload_n 1, 1) := by decide +kernel
theorem dX5_obstacle_12 : decode cX5_obstacle 12 = .ok (.ifCond .le 14, 3) := by decide +kernel
theorem dX5_obstacle_15 : decode cX5_obstacle 15 = .ok (.aload_n 0, 1) := by decide +kernel
theorem dX5_obstacle_16 : decode cX5_obstacle 16 = .ok (.iload_n 1, 1) := by decide +kernel
theorem dX5_obstacle_17 : decode cX5_obstacle 17 = .ok (.iconst 1, 1) := by decide +kernel
theorem dX5_obstacle_18 : decode cX5_obstacle 18 = .ok (.isub, 1) := by decide +kernel
theorem dX5_obstacle_19 : decode cX5_obstacle 19 = .ok (.iload_n 2, 1) := by decide +kernel
theorem dX5_obstacle_20 : decode cX5_obstacle 20 = .ok (.invokevirtual 67, 3) := by decide +kernel
theorem dX5_obstacle_23 : decode cX5_obstacle 23 = .ok (.ifCond .eq 18, 3) := by decide +kernel
theorem dX5_obstacle_26 : decode cX5_obstacle 26 = .ok (.iload_n 2, 1) := by decide +kernel
theorem dX5_obstacle_27 : decode cX5_obstacle 27 = .ok (.ifCond .le 16, 3) := by decide +kernel
theorem dX5_obstacle_30 : decode cX5_obstacle 30 = .ok (.aload_n 0, 1) := by decide +kernel
theorem dX5_obstacle_31 : decode cX5_obstacle 31 = .ok (.iload_n 1, 1) := by decide +kernel
theorem dX5_obstacle_32 : decode cX5_obstacle 32 = .ok (.iload_n 2, 1) := by decide +kernel
theorem dX5_obstacle_33 : decode cX5_obstacle 33 = .ok (.iconst 1, 1) := by decide +kernel
theorem dX5_obstacle_34 : decode cX5_obstacle 34 = .ok (.isub, 1) := by decide +kernel
theorem dX5_obstacle_35 : decode cX5_obstacle 35 = .ok (.invokevirtual 67, 3) := by decide +kernel
theorem dX5_obstacle_38 : decode cX5_obstacle 38 = .ok (.ifCond .ne 5, 3) := by decide +kernel
theorem dX5_obstacle_41 : decode cX5_obstacle 41 = .ok (.iconst 2, 1) := by decide +kernel
theorem dX5_obstacle_42 : decode cX5_obstacle 42 = .ok (.ireturn, 1) := by decide +kernel
theorem dX5_obstacle_43 : decode cX5_obstacle 43 = .ok (.aload_n 0, 1) := by decide +kernel
theorem dX5_obstacle_44 : decode cX5_obstacle 44 = .ok (.getfield 55, 3) := by decide +kernel
theorem dX5_obstacle_47 : decode cX5_obstacle 47 = .ok (.bipush 12, 2) := by decide +kernel
theorem dX5_obstacle_49 : decode cX5_obstacle 49 = .ok (.if_icmp .lt 7, 3) := by decide +kernel
theorem dX5_obstacle_52 : decode cX5_obstacle 52 = .ok (.iconst 3, 1) := by decide +kernel
theorem dX5_obstacle_53 : decode cX5_obstacle 53 = .ok (.goto 4, 3) := by decide +kernel
theorem dX5_obstacle_56 : decode cX5_obstacle 56 = .ok (.iconst 0, 1) := by decide +kernel
theorem dX5_obstacle_57 : decode cX5_obstacle 57 = .ok (.ireturn, 1) := by decide +kernel
theorem dX5_isCorner_0 : decode cX5_isCorner 0 = .ok (.aload_n 0, 1) := by decide +kernel
theorem dX5_isCorner_1 : decode cX5_isCorner 1 = .ok (.iload_n 1, 1) := by decide +kernel
theorem dX5_isCorner_2 : decode cX5_isCorner 2 = .ok (.iload_n 2, 1) := by decide +kernel
theorem dX5_isCorner_3 : decode cX5_isCorner 3 = .ok (.invokevirtual 67, 3) := by decide +kernel
theorem dX5_isCorner_6 : decode cX5_isCorner 6 = .ok (.ifCond .eq 37, 3) := by decide +kernel
theorem dX5_isCorner_9 : decode cX5_isCorner 9 = .ok (.iload_n 1, 1) := by decide +kernel
theorem dX5_isCorner_10 : decode cX5_isCorner 10 = .ok (.ifCond .gt 7, 3) := by decide +kernel
theorem dX5_isCorner_13 : decode cX5_isCorner 13 = .ok (.iload_n 2, 1) := by decide +kernel
theorem dX5_isCorner_14 : decode cX5_isCorner 14 = .ok (.ifCond .le 29, 3) := by decide +kernel
theorem dX5_isCorner_17 : decode cX5_isCorner 17 = .ok (.aload_n 0, 1) := by decide +kernel
theorem dX5_isCorner_18 : decode cX5_isCorner 18 = .ok (.iload_n 1, 1) := by decide +kernel
theorem dX5_isCorner_19 : decode cX5_isCorner 19 = .ok (.iconst 1, 1) := by decide +kernel
theorem dX5_isCorner_20 : decode cX5_isCorner 20 = .ok (.iadd, 1) := by decide +kernel
theorem dX5_isCorner_21 : decode cX5_isCorner 21 = .ok (.iload_n 2, 1) := by decide +kernel
theorem dX5_isCorner_22 : decode cX5_isCorner 22 = .ok (.invokevirtual 67, 3) := by decide +kernel
theorem dX5_isCorner_25 : decode cX5_isCorner 25 = .ok (.ifCond .ne 18, 3) := by decide +kernel
theorem dX5_isCorner_28 : decode cX5_isCorner 28 = .ok (.aload_n 0, 1) := by decide +kernel
theorem dX5_isCorner_29 : decode cX5_isCorner 29 = .ok (.iload_n 1, 1) := by decide +kernel
theorem dX5_isCorner_30 : decode cX5_isCorner 30 = .ok (.iload_n 2, 1) := by decide +kernel
theorem dX5_isCorner_31 : decode cX5_isCorner 31 = .ok (.iconst 1, 1) := by decide +kernel
theorem dX5_isCorner_32 : decode cX5_isCorner 32 = .ok (.iadd, 1) := by decide +kernel
theorem dX5_isCorner_33 : decode cX5_isCorner 33 = .ok (.invokevirtual 67, 3) := by decide +kernel
theorem dX5_isCorner_36 : decode cX5_isCorner 36 = .ok (.ifCond .ne 7, 3) := by decide +kernel
theorem dX5_isCorner_39 : decode cX5_isCorner 39 = .ok (.iconst 1, 1) := by decide +kernel
theorem dX5_isCorner_40 : decode cX5_isCorner 40 = .ok (.goto 4, 3) := by decide +kernel
theorem dX5_isCorner_43 : decode cX5_isCorner 43 = .ok (.iconst 0, 1) := by decide +kernel
theorem dX5_isCorner_44 : decode cX5_isCorner 44 = .ok (.ireturn, 1) := by decide +kernel
theorem dX5_candidates_0 : decode cX5_candidates 0 = .ok (.iconst 0, 1) := by decide +kernel
theorem dX5_candidates_1 : decode cX5_candidates 1 = .ok (.istore_n 1, 1) := by decide +kernel
theorem dX5_candidates_2 : decode cX5_candidates 2 = .ok (.iconst 0, 1) := by decide +kernel
theorem dX5_candidates_3 : decode cX5_candidates 3 = .ok (.istore_n 2, 1) := by decide +kernel
theorem dX5_candidates_4 : decode cX5_candidates 4 = .ok (.iload_n 2, 1) := by decide +kernel
theorem dX5_candidates_5 : decode cX5_candidates 5 = .ok (.aload_n 0, 1) := by decide +kernel
theorem dX5_candidates_6 : decode cX5_candidates 6 = .ok (.getfield 58, 3) := by decide +kernel
theorem dX5_candidates_9 : decode cX5_candidates 9 = .ok (.if_icmp .ge 51, 3) := by decide +kernel
theorem dX5_candidates_12 : decode cX5_candidates 12 = .ok (.aload_n 0, 1) := by decide +kernel
theorem dX5_candidates_13 : decode cX5_candidates 13 = .ok (.getfield 21, 3) := by decide +kernel
theorem dX5_candidates_16 : decode cX5_candidates 16 = .ok (.iload_n 2, 1) := by decide +kernel
theorem dX5_candidates_17 : decode cX5_candidates 17 = .ok (.iaload, 1) := by decide +kernel
theorem dX5_candidates_18 : decode cX5_candidates 18 = .ok (.istore_n 3, 1) := by decide +kernel
theorem dX5_candidates_19 : decode cX5_candidates 19 = .ok (.aload_n 0, 1) := by decide +kernel
theorem dX5_candidates_20 : decode cX5_candidates 20 = .ok (.getfield 24, 3) := by decide +kernel
theorem dX5_candidates_23 : decode cX5_candidates 23 = .ok (.iload_n 2, 1) := by decide +kernel
theorem dX5_candidates_24 : decode cX5_candidates 24 = .ok (.iaload, 1) := by decide +kernel
theorem dX5_candidates_25 : decode cX5_candidates 25 = .ok (.istore 4, 2) := by decide +kernel
theorem dX5_candidates_27 : decode cX5_candidates 27 = .ok (.iload_n 3, 1) := by decide +kernel
theorem dX5_candidates_28 : decode cX5_candidates 28 = .ok (.bipush 11, 2) := by decide +kernel
theorem dX5_candidates_30 : decode cX5_candidates 30 = .ok (.if_icmp .gt 24, 3) := by decide +kernel
theorem dX5_candidates_33 : decode cX5_candidates 33 = .ok (.iload 4, 2) := by decide +kernel
theorem dX5_candidates_35 : decode cX5_candidates 35 = .ok (.bipush 11, 2) := by decide +kernel
theorem dX5_candidates_37 : decode cX5_candidates 37 = .ok (.if_icmp .gt 17, 3) := by decide +kernel
theorem dX5_candidates_40 : decode cX5_candidates 40 = .ok (.aload_n 0, 1) := by decide +kernel
theorem dX5_candidates_41 : decode cX5_candidates 41 = .ok (.iload_n 3, 1) := by decide +kernel
theorem dX5_candidates_42 : decode cX5_candidates 42 = .ok (.iload 4, 2) := by decide +kernel
theorem dX5_candidates_44 : decode cX5_candidates 44 = .ok (.invokevirtual 71, 3) := by decide +kernel
theorem dX5_candidates_47 : decode cX5_candidates 47 = .ok (.iconst 2, 1) := by decide +kernel
theorem dX5_candidates_48 : decode cX5_candidates 48 = .ok (.if_icmp .eq 6, 3) := by decide +kernel
theorem dX5_candidates_51 : decode cX5_candidates 51 = .ok (.iinc 1 1, 3) := by decide +kernel
theorem dX5_candidates_54 : decode cX5_candidates 54 = .ok (.iinc 2 1, 3) := by decide +kernel
theorem dX5_candidates_57 : decode cX5_candidates 57 = .ok (.goto (-53), 3) := by decide +kernel
theorem dX5_candidates_60 : decode cX5_candidates 60 = .ok (.iload_n 1, 1) := by decide +kernel
theorem dX5_candidates_61 : decode cX5_candidates 61 = .ok (.ireturn, 1) := by decide +kernel
theorem dX5_corners_0 : decode cX5_corners 0 = .ok (.iconst 0, 1) := by decide +kernel
theorem dX5_corners_1 : decode cX5_corners 1 = .ok (.istore_n 1, 1) := by decide +kernel
theorem dX5_corners_2 : decode cX5_corners 2 = .ok (.iconst 0, 1) := by decide +kernel
theorem dX5_corners_3 : decode cX5_corners 3 = .ok (.istore_n 2, 1) := by decide +kernel
theorem dX5_corners_4 : decode cX5_corners 4 = .ok (.iload_n 2, 1) := by decide +kernel
theorem dX5_corners_5 : decode cX5_corners 5 = .ok (.aload_n 0, 1) := by decide +kernel
theorem dX5_corners_6 : decode cX5_corners 6 = .ok (.getfield 55, 3) := by decide +kernel
theorem dX5_corners_9 : decode cX5_corners 9 = .ok (.if_icmp .ge 31, 3) := by decide +kernel
theorem dX5_corners_12 : decode cX5_corners 12 = .ok (.aload_n 0, 1) := by decide +kernel
theorem dX5_corners_13 : decode cX5_corners 13 = .ok (.aload_n 0, 1) := by decide +kernel
theorem dX5_corners_14 : decode cX5_corners 14 = .ok (.getfield 15, 3) := by decide +kernel
theorem dX5_corners_17 : decode cX5_corners 17 = .ok (.iload_n 2, 1) := by decide +kernel
theorem dX5_corners_18 : decode cX5_corners 18 = .ok (.iaload, 1) := by decide +kernel
theorem dX5_corners_19 : decode cX5_corners 19 = .ok (.aload_n 0, 1) := by decide +kernel
theorem dX5_corners_20 : decode cX5_corners 20 = .ok (.getfield 18, 3) := by decide +kernel
theorem dX5_corners_23 : decode cX5_corners 23 = .ok (.iload_n 2, 1) := by decide +kernel
theorem dX5_corners_24 : decode cX5_corners 24 = .ok (.iaload, 1) := by decide +kernel
theorem dX5_corners_25 : decode cX5_corners 25 = .ok (.invokevirtual 75, 3) := by decide +kernel
theorem dX5_corners_28 : decode cX5_corners 28 = .ok (.ifCond .eq 6, 3) := by decide +kernel
theorem dX5_corners_31 : decode cX5_corners 31 = .ok (.iinc 1 1, 3) := by decide +kernel
theorem dX5_corners_34 : decode cX5_corners 34 = .ok (.iinc 2 1, 3) := by decide +kernel
theorem dX5_corners_37 : decode cX5_corners 37 = .ok (.goto (-33), 3) := by decide +kernel
theorem dX5_corners_40 : decode cX5_corners 40 = .ok (.iload_n 1, 1) := by decide +kernel
theorem dX5_corners_41 : decode cX5_corners 41 = .ok (.ireturn, 1) := by decide +kernel
theorem dX5_changeHeight_0 : decode cX5_changeHeight 0 = .ok (.iload_n 1, 1) := by decide +kernel
theorem dX5_changeHeight_1 : decode cX5_changeHeight 1 = .ok (.bipush 11, 2) := by decide +kernel
theorem dX5_changeHeight_3 : decode cX5_changeHeight 3 = .ok (.invokestatic 78, 3) := by decide +kernel
theorem dX5_changeHeight_6 : decode cX5_changeHeight 6 = .ok (.ifCond .eq 4, 3) := by decide +kernel
theorem dX5_changeHeight_9 : decode cX5_changeHeight 9 = .ok (.return_, 1) := by decide +kernel
theorem dX5_changeHeight_10 : decode cX5_changeHeight 10 = .ok (.aload_n 3, 1) := by decide +kernel
theorem dX5_changeHeight_11 : decode cX5_changeHeight 11 = .ok (.aload_n 0, 1) := by decide +kernel
theorem dX5_changeHeight_12 : decode cX5_changeHeight 12 = .ok (.invokevirtual 81, 3) := by decide +kernel
theorem dX5_changeHeight_15 : decode cX5_changeHeight 15 = .ok (.aload_n 0, 1) := by decide +kernel
theorem dX5_changeHeight_16 : decode cX5_changeHeight 16 = .ok (.getfield 9, 3) := by decide +kernel
theorem dX5_changeHeight_19 : decode cX5_changeHeight 19 = .ok (.iload_n 1, 1) := by decide +kernel
theorem dX5_changeHeight_20 : decode cX5_changeHeight 20 = .ok (.dup2, 1) := by decide +kernel
theorem dX5_changeHeight_21 : decode cX5_changeHeight 21 = .ok (.iaload, 1) := by decide +kernel
theorem dX5_changeHeight_22 : decode cX5_changeHeight 22 = .ok (.iload_n 2, 1) := by decide +kernel
theorem dX5_changeHeight_23 : decode cX5_changeHeight 23 = .ok (.iadd, 1) := by decide +kernel
theorem dX5_changeHeight_24 : decode cX5_changeHeight 24 = .ok (.iastore, 1) := by decide +kernel
theorem dX5_changeHeight_25 : decode cX5_changeHeight 25 = .ok (.aload_n 0, 1) := by decide +kernel
theorem dX5_changeHeight_26 : decode cX5_changeHeight 26 = .ok (.invokevirtual 52, 3) := by decide +kernel
theorem dX5_changeHeight_29 : decode cX5_changeHeight 29 = .ok (.aload_n 0, 1) := by decide +kernel
theorem dX5_changeHeight_30 : decode cX5_changeHeight 30 = .ok (.aload_n 3, 1) := by decide +kernel
theorem dX5_changeHeight_31 : decode cX5_changeHeight 31 = .ok (.invokevirtual 85, 3) := by decide +kernel
theorem dX5_changeHeight_34 : decode cX5_changeHeight 34 = .ok (.return_, 1) := by decide +kernel
theorem dX5_listMonomials_0 : decode cX5_listMonomials 0 = .ok (.aload_n 0, 1) := by decide +kernel
theorem dX5_listMonomials_1 : decode cX5_listMonomials 1 = .ok (.iconst 0, 1) := by decide +kernel
theorem dX5_listMonomials_2 : decode cX5_listMonomials 2 = .ok (.putfield 55, 3) := by decide +kernel
theorem dX5_listMonomials_5 : decode cX5_listMonomials 5 = .ok (.aload_n 0, 1) := by decide +kernel
theorem dX5_listMonomials_6 : decode cX5_listMonomials 6 = .ok (.iconst 0, 1) := by decide +kernel
theorem dX5_listMonomials_7 : decode cX5_listMonomials 7 = .ok (.putfield 58, 3) := by decide +kernel
theorem dX5_listMonomials_10 : decode cX5_listMonomials 10 = .ok (.iconst 0, 1) := by decide +kernel
theorem dX5_listMonomials_11 : decode cX5_listMonomials 11 = .ok (.istore_n 1, 1) := by decide +kernel
theorem dX5_listMonomials_12 : decode cX5_listMonomials 12 = .ok (.iload_n 1, 1) := by decide +kernel
theorem dX5_listMonomials_13 : decode cX5_listMonomials 13 = .ok (.bipush 12, 2) := by decide +kernel
theorem dX5_listMonomials_15 : decode cX5_listMonomials 15 = .ok (.if_icmp .gt 30, 3) := by decide +kernel
theorem dX5_listMonomials_18 : decode cX5_listMonomials 18 = .ok (.iconst 0, 1) := by decide +kernel
theorem dX5_listMonomials_19 : decode cX5_listMonomials 19 = .ok (.istore_n 2, 1) := by decide +kernel
theorem dX5_listMonomials_20 : decode cX5_listMonomials 20 = .ok (.iload_n 2, 1) := by decide +kernel
theorem dX5_listMonomials_21 : decode cX5_listMonomials 21 = .ok (.iload_n 1, 1) := by decide +kernel
theorem dX5_listMonomials_22 : decode cX5_listMonomials 22 = .ok (.if_icmp .gt 17, 3) := by decide +kernel
theorem dX5_listMonomials_25 : decode cX5_listMonomials 25 = .ok (.aload_n 0, 1) := by decide +kernel
theorem dX5_listMonomials_26 : decode cX5_listMonomials 26 = .ok (.iload_n 1, 1) := by decide +kernel
theorem dX5_listMonomials_27 : decode cX5_listMonomials 27 = .ok (.iload_n 2, 1) := by decide +kernel
theorem dX5_listMonomials_28 : decode cX5_listMonomials 28 = .ok (.isub, 1) := by decide +kernel
theorem dX5_listMonomials_29 : decode cX5_listMonomials 29 = .ok (.iload_n 2, 1) := by decide +kernel
theorem dX5_listMonomials_30 : decode cX5_listMonomials 30 = .ok (.invokevirtual 88, 3) := by decide +kernel
theorem dX5_listMonomials_33 : decode cX5_listMonomials 33 = .ok (.iinc 2 1, 3) := by decide +kernel
theorem dX5_listMonomials_36 : decode cX5_listMonomials 36 = .ok (.goto (-16), 3) := by decide +kernel
theorem dX5_listMonomials_39 : decode cX5_listMonomials 39 = .ok (.iinc 1 1, 3) := by decide +kernel
theorem dX5_listMonomials_42 : decode cX5_listMonomials 42 = .ok (.goto (-30), 3) := by decide +kernel
theorem dX5_listMonomials_45 : decode cX5_listMonomials 45 = .ok (.return_, 1) := by decide +kernel
theorem dX5_listMonomial_0 : decode cX5_listMonomial 0 = .ok (.aload_n 0, 1) := by decide +kernel
theorem dX5_listMonomial_1 : decode cX5_listMonomial 1 = .ok (.iload_n 1, 1) := by decide +kernel
theorem dX5_listMonomial_2 : decode cX5_listMonomial 2 = .ok (.iload_n 2, 1) := by decide +kernel
theorem dX5_listMonomial_3 : decode cX5_listMonomial 3 = .ok (.invokevirtual 67, 3) := by decide +kernel
theorem dX5_listMonomial_6 : decode cX5_listMonomial 6 = .ok (.ifCond .eq 45, 3) := by decide +kernel
theorem dX5_listMonomial_9 : decode cX5_listMonomial 9 = .ok (.aload_n 0, 1) := by decide +kernel
theorem dX5_listMonomial_10 : decode cX5_listMonomial 10 = .ok (.getfield 55, 3) := by decide +kernel
theorem dX5_listMonomial_13 : decode cX5_listMonomial 13 = .ok (.bipush 12, 2) := by decide +kernel
theorem dX5_listMonomial_15 : decode cX5_listMonomial 15 = .ok (.if_icmp .ge 97, 3) := by decide +kernel
theorem dX5_listMonomial_18 : decode cX5_listMonomial 18 = .ok (.aload_n 0, 1) := by decide +kernel
theorem dX5_listMonomial_19 : decode cX5_listMonomial 19 = .ok (.getfield 15, 3) := by decide +kernel
theorem dX5_listMonomial_22 : decode cX5_listMonomial 22 = .ok (.aload_n 0, 1) := by decide +kernel
theorem dX5_listMonomial_23 : decode cX5_listMonomial 23 = .ok (.getfield 55, 3) := by decide +kernel
theorem dX5_listMonomial_26 : decode cX5_listMonomial 26 = .ok (.iload_n 1, 1) := by decide +kernel
theorem dX5_listMonomial_27 : decode cX5_listMonomial 27 = .ok (.iastore, 1) := by decide +kernel
theorem dX5_listMonomial_28 : decode cX5_listMonomial 28 = .ok (.aload_n 0, 1) := by decide +kernel
theorem dX5_listMonomial_29 : decode cX5_listMonomial 29 = .ok (.getfield 18, 3) := by decide +kernel
theorem dX5_listMonomial_32 : decode cX5_listMonomial 32 = .ok (.aload_n 0, 1) := by decide +kernel
theorem dX5_listMonomial_33 : decode cX5_listMonomial 33 = .ok (.getfield 55, 3) := by decide +kernel
theorem dX5_listMonomial_36 : decode cX5_listMonomial 36 = .ok (.iload_n 2, 1) := by decide +kernel
theorem dX5_listMonomial_37 : decode cX5_listMonomial 37 = .ok (.iastore, 1) := by decide +kernel
theorem dX5_listMonomial_38 : decode cX5_listMonomial 38 = .ok (.aload_n 0, 1) := by decide +kernel
theorem dX5_listMonomial_39 : decode cX5_listMonomial 39 = .ok (.dup, 1) := by decide +kernel
theorem dX5_listMonomial_40 : decode cX5_listMonomial 40 = .ok (.getfield 55, 3) := by decide +kernel
theorem dX5_listMonomial_43 : decode cX5_listMonomial 43 = .ok (.iconst 1, 1) := by decide +kernel
theorem dX5_listMonomial_44 : decode cX5_listMonomial 44 = .ok (.iadd, 1) := by decide +kernel
theorem dX5_listMonomial_45 : decode cX5_listMonomial 45 = .ok (.putfield 55, 3) := by decide +kernel
theorem dX5_listMonomial_48 : decode cX5_listMonomial 48 = .ok (.goto 64, 3) := by decide +kernel
theorem dX5_listMonomial_51 : decode cX5_listMonomial 51 = .ok (.aload_n 0, 1) := by decide +kernel
theorem dX5_listMonomial_52 : decode cX5_listMonomial 52 = .ok (.iload_n 1, 1) := by decide +kernel
theorem dX5_listMonomial_53 : decode cX5_listMonomial 53 = .ok (.iconst 1, 1) := by decide +kernel
theorem dX5_listMonomial_54 : decode cX5_listMonomial 54 = .ok (.isub, 1) := by decide +kernel
theorem dX5_listMonomial_55 : decode cX5_listMonomial 55 = .ok (.iload_n 2, 1) := by decide +kernel
theorem dX5_listMonomial_56 : decode cX5_listMonomial 56 = .ok (.invokevirtual 67, 3) := by decide +kernel
theorem dX5_listMonomial_59 : decode cX5_listMonomial 59 = .ok (.ifCond .ne 14, 3) := by decide +kernel
theorem dX5_listMonomial_62 : decode cX5_listMonomial 62 = .ok (.aload_n 0, 1) := by decide +kernel
theorem dX5_listMonomial_63 : decode cX5_listMonomial 63 = .ok (.iload_n 1, 1) := by decide +kernel
theorem dX5_listMonomial_64 : decode cX5_listMonomial 64 = .ok (.iload_n 2, 1) := by decide +kernel
theorem dX5_listMonomial_65 : decode cX5_listMonomial 65 = .ok (.iconst 1, 1) := by decide +kernel
theorem dX5_listMonomial_66 : decode cX5_listMonomial 66 = .ok (.isub, 1) := by decide +kernel
theorem dX5_listMonomial_67 : decode cX5_listMonomial 67 = .ok (.invokevirtual 67, 3) := by decide +kernel
theorem dX5_listMonomial_70 : decode cX5_listMonomial 70 = .ok (.ifCond .eq 42, 3) := by decide +kernel
theorem dX5_listMonomial_73 : decode cX5_listMonomial 73 = .ok (.aload_n 0, 1) := by decide +kernel
theorem dX5_listMonomial_74 : decode cX5_listMonomial 74 = .ok (.getfield 58, 3) := by decide +kernel
theorem dX5_listMonomial_77 : decode cX5_listMonomial 77 = .ok (.bipush 13, 2) := by decide +kernel
theorem dX5_listMonomial_79 : decode cX5_listMonomial 79 = .ok (.if_icmp .ge 33, 3) := by decide +kernel
theorem dX5_listMonomial_82 : decode cX5_listMonomial 82 = .ok (.aload_n 0, 1) := by decide +kernel
theorem dX5_listMonomial_83 : decode cX5_listMonomial 83 = .ok (.getfield 21, 3) := by decide +kernel
theorem dX5_listMonomial_86 : decode cX5_listMonomial 86 = .ok (.aload_n 0, 1) := by decide +kernel
theorem dX5_listMonomial_87 : decode cX5_listMonomial 87 = .ok (.getfield 58, 3) := by decide +kernel
theorem dX5_listMonomial_90 : decode cX5_listMonomial 90 = .ok (.iload_n 1, 1) := by decide +kernel
theorem dX5_listMonomial_91 : decode cX5_listMonomial 91 = .ok (.iastore, 1) := by decide +kernel
theorem dX5_listMonomial_92 : decode cX5_listMonomial 92 = .ok (.aload_n 0, 1) := by decide +kernel
theorem dX5_listMonomial_93 : decode cX5_listMonomial 93 = .ok (.getfield 24, 3) := by decide +kernel
theorem dX5_listMonomial_96 : decode cX5_listMonomial 96 = .ok (.aload_n 0, 1) := by decide +kernel
theorem dX5_listMonomial_97 : decode cX5_listMonomial 97 = .ok (.getfield 58, 3) := by decide +kernel
theorem dX5_listMonomial_100 : decode cX5_listMonomial 100 = .ok (.iload_n 2, 1) := by decide +kernel
theorem dX5_listMonomial_101 : decode cX5_listMonomial 101 = .ok (.iastore, 1) := by decide +kernel
theorem dX5_listMonomial_102 : decode cX5_listMonomial 102 = .ok (.aload_n 0, 1) := by decide +kernel
theorem dX5_listMonomial_103 : decode cX5_listMonomial 103 = .ok (.dup, 1) := by decide +kernel
theorem dX5_listMonomial_104 : decode cX5_listMonomial 104 = .ok (.getfield 58, 3) := by decide +kernel
theorem dX5_listMonomial_107 : decode cX5_listMonomial 107 = .ok (.iconst 1, 1) := by decide +kernel
theorem dX5_listMonomial_108 : decode cX5_listMonomial 108 = .ok (.iadd, 1) := by decide +kernel
theorem dX5_listMonomial_109 : decode cX5_listMonomial 109 = .ok (.putfield 58, 3) := by decide +kernel
theorem dX5_listMonomial_112 : decode cX5_listMonomial 112 = .ok (.return_, 1) := by decide +kernel
theorem dX5_inheritRules_0 : decode cX5_inheritRules 0 = .ok (.aload_n 0, 1) := by decide +kernel
theorem dX5_inheritRules_1 : decode cX5_inheritRules 1 = .ok (.getfield 27, 3) := by decide +kernel
theorem dX5_inheritRules_4 : decode cX5_inheritRules 4 = .ok (.iconst 0, 1) := by decide +kernel
theorem dX5_inheritRules_5 : decode cX5_inheritRules 5 = .ok (.invokestatic 43, 3) := by decide +kernel
theorem dX5_inheritRules_8 : decode cX5_inheritRules 8 = .ok (.iconst 0, 1) := by decide +kernel
theorem dX5_inheritRules_9 : decode cX5_inheritRules 9 = .ok (.istore_n 2, 1) := by decide +kernel
theorem dX5_inheritRules_10 : decode cX5_inheritRules 10 = .ok (.iload_n 2, 1) := by decide +kernel
theorem dX5_inheritRules_11 : decode cX5_inheritRules 11 = .ok (.aload_n 0, 1) := by decide +kernel
theorem dX5_inheritRules_12 : decode cX5_inheritRules 12 = .ok (.getfield 58, 3) := by decide +kernel
theorem dX5_inheritRules_15 : decode cX5_inheritRules 15 = .ok (.if_icmp .ge 88, 3) := by decide +kernel
theorem dX5_inheritRules_18 : decode cX5_inheritRules 18 = .ok (.aload_n 1, 1) := by decide +kernel
theorem dX5_inheritRules_19 : decode cX5_inheritRules 19 = .ok (.aload_n 0, 1) := by decide +kernel
theorem dX5_inheritRules_20 : decode cX5_inheritRules 20 = .ok (.getfield 21, 3) := by decide +kernel
theorem dX5_inheritRules_23 : decode cX5_inheritRules 23 = .ok (.iload_n 2, 1) := by decide +kernel
theorem dX5_inheritRules_24 : decode cX5_inheritRules 24 = .ok (.iaload, 1) := by decide +kernel
theorem dX5_inheritRules_25 : decode cX5_inheritRules 25 = .ok (.aload_n 0, 1) := by decide +kernel
theorem dX5_inheritRules_26 : decode cX5_inheritRules 26 = .ok (.getfield 24, 3) := by decide +kernel
theorem dX5_inheritRules_29 : decode cX5_inheritRules 29 = .ok (.iload_n 2, 1) := by decide +kernel
theorem dX5_inheritRules_30 : decode cX5_inheritRules 30 = .ok (.iaload, 1) := by decide +kernel
theorem dX5_inheritRules_31 : decode cX5_inheritRules 31 = .ok (.invokevirtual 92, 3) := by decide +kernel
theorem dX5_inheritRules_34 : decode cX5_inheritRules 34 = .ok (.istore_n 3, 1) := by decide +kernel
theorem dX5_inheritRules_35 : decode cX5_inheritRules 35 = .ok (.iconst 0, 1) := by decide +kernel
theorem dX5_inheritRules_36 : decode cX5_inheritRules 36 = .ok (.istore 4, 2) := by decide +kernel
theorem dX5_inheritRules_38 : decode cX5_inheritRules 38 = .ok (.iload 4, 2) := by decide +kernel
theorem dX5_inheritRules_40 : decode cX5_inheritRules 40 = .ok (.aload_n 0, 1) := by decide +kernel
theorem dX5_inheritRules_41 : decode cX5_inheritRules 41 = .ok (.getfield 55, 3) := by decide +kernel
theorem dX5_inheritRules_44 : decode cX5_inheritRules 44 = .ok (.if_icmp .ge 53, 3) := by decide +kernel
theorem dX5_inheritRules_47 : decode cX5_inheritRules 47 = .ok (.iload_n 3, 1) := by decide +kernel
theorem dX5_inheritRules_48 : decode cX5_inheritRules 48 = .ok (.iconst (-1), 1) := by decide +kernel
theorem dX5_inheritRules_49 : decode cX5_inheritRules 49 = .ok (.if_icmp .eq 48, 3) := by decide +kernel
theorem dX5_inheritRules_52 : decode cX5_inheritRules 52 = .ok (.aload_n 1, 1) := by decide +kernel
theorem dX5_inheritRules_53 : decode cX5_inheritRules 53 = .ok (.aload_n 0, 1) := by decide +kernel
theorem dX5_inheritRules_54 : decode cX5_inheritRules 54 = .ok (.getfield 15, 3) := by decide +kernel
theorem dX5_inheritRules_57 : decode cX5_inheritRules 57 = .ok (.iload 4, 2) := by decide +kernel
theorem dX5_inheritRules_59 : decode cX5_inheritRules 59 = .ok (.iaload, 1) := by decide +kernel
theorem dX5_inheritRules_60 : decode cX5_inheritRules 60 = .ok (.aload_n 0, 1) := by decide +kernel
theorem dX5_inheritRules_61 : decode cX5_inheritRules 61 = .ok (.getfield 18, 3) := by decide +kernel
theorem dX5_inheritRules_64 : decode cX5_inheritRules 64 = .ok (.iload 4, 2) := by decide +kernel
theorem dX5_inheritRules_66 : decode cX5_inheritRules 66 = .ok (.iaload, 1) := by decide +kernel
theorem dX5_inheritRules_67 : decode cX5_inheritRules 67 = .ok (.invokevirtual 95, 3) := by decide +kernel
theorem dX5_inheritRules_70 : decode cX5_inheritRules 70 = .ok (.istore 5, 2) := by decide +kernel
theorem dX5_inheritRules_72 : decode cX5_inheritRules 72 = .ok (.aload_n 0, 1) := by decide +kernel
theorem dX5_inheritRules_73 : decode cX5_inheritRules 73 = .ok (.getfield 27, 3) := by decide +kernel
theorem dX5_inheritRules_76 : decode cX5_inheritRules 76 = .ok (.iload_n 2, 1) := by decide +kernel
theorem dX5_inheritRules_77 : decode cX5_inheritRules 77 = .ok (.bipush 12, 2) := by decide +kernel
theorem dX5_inheritRules_79 : decode cX5_inheritRules 79 = .ok (.imul, 1) := by decide +kernel
theorem dX5_inheritRules_80 : decode cX5_inheritRules 80 = .ok (.iload 4, 2) := by decide +kernel
theorem dX5_inheritRules_82 : decode cX5_inheritRules 82 = .ok (.iadd, 1) := by decide +kernel
theorem dX5_inheritRules_83 : decode cX5_inheritRules 83 = .ok (.aload_n 1, 1) := by decide +kernel
theorem dX5_inheritRules_84 : decode cX5_inheritRules 84 = .ok (.iload_n 3, 1) := by decide +kernel
theorem dX5_inheritRules_85 : decode cX5_inheritRules 85 = .ok (.iload 5, 2) := by decide +kernel
theorem dX5_inheritRules_87 : decode cX5_inheritRules 87 = .ok (.invokevirtual 98, 3) := by decide +kernel
theorem dX5_inheritRules_90 : decode cX5_inheritRules 90 = .ok (.iastore, 1) := by decide +kernel
theorem dX5_inheritRules_91 : decode cX5_inheritRules 91 = .ok (.iinc 4 1, 3) := by decide +kernel
theorem dX5_inheritRules_94 : decode cX5_inheritRules 94 = .ok (.goto (-56), 3) := by decide +kernel
theorem dX5_inheritRules_97 : decode cX5_inheritRules 97 = .ok (.iinc 2 1, 3) := by decide +kernel
theorem dX5_inheritRules_100 : decode cX5_inheritRules 100 = .ok (.goto (-90), 3) := by decide +kernel
theorem dX5_inheritRules_103 : decode cX5_inheritRules 103 = .ok (.return_, 1) := by decide +kernel
theorem dX5_hasCoefficient_0 : decode cX5_hasCoefficient 0 = .ok (.iload_n 1, 1) := by decide +kernel
theorem dX5_hasCoefficient_1 : decode cX5_hasCoefficient 1 = .ok (.ifCond .lt 27, 3) := by decide +kernel
theorem dX5_hasCoefficient_4 : decode cX5_hasCoefficient 4 = .ok (.iload_n 1, 1) := by decide +kernel
theorem dX5_hasCoefficient_5 : decode cX5_hasCoefficient 5 = .ok (.aload_n 0, 1) := by decide +kernel
theorem dX5_hasCoefficient_6 : decode cX5_hasCoefficient 6 = .ok (.getfield 58, 3) := by decide +kernel
theorem dX5_hasCoefficient_9 : decode cX5_hasCoefficient 9 = .ok (.if_icmp .ge 19, 3) := by decide +kernel
theorem dX5_hasCoefficient_12 : decode cX5_hasCoefficient 12 = .ok (.iload_n 2, 1) := by decide +kernel
theorem dX5_hasCoefficient_13 : decode cX5_hasCoefficient 13 = .ok (.ifCond .lt 15, 3) := by decide +kernel
theorem dX5_hasCoefficient_16 : decode cX5_hasCoefficient 16 = .ok (.iload_n 2, 1) := by decide +kernel
theorem dX5_hasCoefficient_17 : decode cX5_hasCoefficient 17 = .ok (.aload_n 0, 1) := by decide +kernel
theorem dX5_hasCoefficient_18 : decode cX5_hasCoefficient 18 = .ok (.getfield 55, 3) := by decide +kernel
theorem dX5_hasCoefficient_21 : decode cX5_hasCoefficient 21 = .ok (.if_icmp .ge 7, 3) := by decide +kernel
theorem dX5_hasCoefficient_24 : decode cX5_hasCoefficient 24 = .ok (.iconst 1, 1) := by decide +kernel
theorem dX5_hasCoefficient_25 : decode cX5_hasCoefficient 25 = .ok (.goto 4, 3) := by decide +kernel
theorem dX5_hasCoefficient_28 : decode cX5_hasCoefficient 28 = .ok (.iconst 0, 1) := by decide +kernel
theorem dX5_hasCoefficient_29 : decode cX5_hasCoefficient 29 = .ok (.ireturn, 1) := by decide +kernel
theorem dX5_coefficient_0 : decode cX5_coefficient 0 = .ok (.aload_n 0, 1) := by decide +kernel
theorem dX5_coefficient_1 : decode cX5_coefficient 1 = .ok (.iload_n 1, 1) := by decide +kernel
theorem dX5_coefficient_2 : decode cX5_coefficient 2 = .ok (.iload_n 2, 1) := by decide +kernel
theorem dX5_coefficient_3 : decode cX5_coefficient 3 = .ok (.invokevirtual 101, 3) := by decide +kernel
theorem dX5_coefficient_6 : decode cX5_coefficient 6 = .ok (.ifCond .eq 17, 3) := by decide +kernel
theorem dX5_coefficient_9 : decode cX5_coefficient 9 = .ok (.aload_n 0, 1) := by decide +kernel
theorem dX5_coefficient_10 : decode cX5_coefficient 10 = .ok (.getfield 27, 3) := by decide +kernel
theorem dX5_coefficient_13 : decode cX5_coefficient 13 = .ok (.iload_n 1, 1) := by decide +kernel
theorem dX5_coefficient_14 : decode cX5_coefficient 14 = .ok (.bipush 12, 2) := by decide +kernel
theorem dX5_coefficient_16 : decode cX5_coefficient 16 = .ok (.imul, 1) := by decide +kernel
theorem dX5_coefficient_17 : decode cX5_coefficient 17 = .ok (.iload_n 2, 1) := by decide +kernel
theorem dX5_coefficient_18 : decode cX5_coefficient 18 = .ok (.iadd, 1) := by decide +kernel
theorem dX5_coefficient_19 : decode cX5_coefficient 19 = .ok (.iaload, 1) := by decide +kernel
theorem dX5_coefficient_20 : decode cX5_coefficient 20 = .ok (.goto 4, 3) := by decide +kernel
theorem dX5_coefficient_23 : decode cX5_coefficient 23 = .ok (.iconst 0, 1) := by decide +kernel
theorem dX5_coefficient_24 : decode cX5_coefficient 24 = .ok (.ireturn, 1) := by decide +kernel
theorem dX5_setCoefficient_0 : decode cX5_setCoefficient 0 = .ok (.aload_n 0, 1) := by decide +kernel
theorem dX5_setCoefficient_1 : decode cX5_setCoefficient 1 = .ok (.iload_n 1, 1) := by decide +kernel
theorem dX5_setCoefficient_2 : decode cX5_setCoefficient 2 = .ok (.iload_n 2, 1) := by decide +kernel
theorem dX5_setCoefficient_3 : decode cX5_setCoefficient 3 = .ok (.invokevirtual 101, 3) := by decide +kernel
theorem dX5_setCoefficient_6 : decode cX5_setCoefficient 6 = .ok (.ifCond .eq 15, 3) := by decide +kernel
theorem dX5_setCoefficient_9 : decode cX5_setCoefficient 9 = .ok (.aload_n 0, 1) := by decide +kernel
theorem dX5_setCoefficient_10 : decode cX5_setCoefficient 10 = .ok (.getfield 27, 3) := by decide +kernel
theorem dX5_setCoefficient_13 : decode cX5_setCoefficient 13 = .ok (.iload_n 1, 1) := by decide +kernel
theorem dX5_setCoefficient_14 : decode cX5_setCoefficient 14 = .ok (.bipush 12, 2) := by decide +kernel
theorem dX5_setCoefficient_16 : decode cX5_setCoefficient 16 = .ok (.imul, 1) := by decide +kernel
theorem dX5_setCoefficient_17 : decode cX5_setCoefficient 17 = .ok (.iload_n 2, 1) := by decide +kernel
theorem dX5_setCoefficient_18 : decode cX5_setCoefficient 18 = .ok (.iadd, 1) := by decide +kernel
theorem dX5_setCoefficient_19 : decode cX5_setCoefficient 19 = .ok (.iload_n 3, 1) := by decide +kernel
theorem dX5_setCoefficient_20 : decode cX5_setCoefficient 20 = .ok (.iastore, 1) := by decide +kernel
theorem dX5_setCoefficient_21 : decode cX5_setCoefficient 21 = .ok (.return_, 1) := by decide +kernel
theorem dX5_clearRule_0 : decode cX5_clearRule 0 = .ok (.iconst 0, 1) := by decide +kernel
theorem dX5_clearRule_1 : decode cX5_clearRule 1 = .ok (.istore_n 2, 1) := by decide +kernel
theorem dX5_clearRule_2 : decode cX5_clearRule 2 = .ok (.iload_n 2, 1) := by decide +kernel
theorem dX5_clearRule_3 : decode cX5_clearRule 3 = .ok (.aload_n 0, 1) := by decide +kernel
theorem dX5_clearRule_4 : decode cX5_clearRule 4 = .ok (.getfield 55, 3) := by decide +kernel
theorem dX5_clearRule_7 : decode cX5_clearRule 7 = .ok (.if_icmp .ge 16, 3) := by decide +kernel
theorem dX5_clearRule_10 : decode cX5_clearRule 10 = .ok (.aload_n 0, 1) := by decide +kernel
theorem dX5_clearRule_11 : decode cX5_clearRule 11 = .ok (.iload_n 1, 1) := by decide +kernel
theorem dX5_clearRule_12 : decode cX5_clearRule 12 = .ok (.iload_n 2, 1) := by decide +kernel
theorem dX5_clearRule_13 : decode cX5_clearRule 13 = .ok (.iconst 0, 1) := by decide +kernel
theorem dX5_clearRule_14 : decode cX5_clearRule 14 = .ok (.invokevirtual 104, 3) := by decide +kernel
theorem dX5_clearRule_17 : decode cX5_clearRule 17 = .ok (.iinc 2 1, 3) := by decide +kernel
theorem dX5_clearRule_20 : decode cX5_clearRule 20 = .ok (.goto (-18), 3) := by decide +kernel
theorem dX5_clearRule_23 : decode cX5_clearRule 23 = .ok (.return_, 1) := by decide +kernel
theorem dX5_coefficientsNotZero_0 : decode cX5_coefficientsNotZero 0 = .ok (.iconst 0, 1) := by decide +kernel
theorem dX5_coefficientsNotZero_1 : decode cX5_coefficientsNotZero 1 = .ok (.istore_n 1, 1) := by decide +kernel
theorem dX5_coefficientsNotZero_2 : decode cX5_coefficientsNotZero 2 = .ok (.iconst 0, 1) := by decide +kernel
theorem dX5_coefficientsNotZero_3 : decode cX5_coefficientsNotZero 3 = .ok (.istore_n 2, 1) := by decide +kernel
theorem dX5_coefficientsNotZero_4 : decode cX5_coefficientsNotZero 4 = .ok (.iload_n 2, 1) := by decide +kernel
theorem dX5_coefficientsNotZero_5 : decode cX5_coefficientsNotZero 5 = .ok (.aload_n 0, 1) := by decide +kernel
theorem dX5_coefficientsNotZero_6 : decode cX5_coefficientsNotZero 6 = .ok (.getfield 58, 3) := by decide +kernel
theorem dX5_coefficientsNotZero_9 : decode cX5_coefficientsNotZero 9 = .ok (.if_icmp .ge 37, 3) := by decide +kernel
theorem dX5_coefficientsNotZero_12 : decode cX5_coefficientsNotZero 12 = .ok (.iconst 0, 1) := by decide +kernel
theorem dX5_coefficientsNotZero_13 : decode cX5_coefficientsNotZero 13 = .ok (.istore_n 3, 1) := by decide +kernel
theorem dX5_coefficientsNotZero_14 : decode cX5_coefficientsNotZero 14 = .ok (.iload_n 3, 1) := by decide +kernel
theorem dX5_coefficientsNotZero_15 : decode cX5_coefficientsNotZero 15 = .ok (.aload_n 0, 1) := by decide +kernel
theorem dX5_coefficientsNotZero_16 : decode cX5_coefficientsNotZero 16 = .ok (.getfield 55, 3) := by decide +kernel
theorem dX5_coefficientsNotZero_19 : decode cX5_coefficientsNotZero 19 = .ok (.if_icmp .ge 21, 3) := by decide +kernel
theorem dX5_coefficientsNotZero_22 : decode cX5_coefficientsNotZero 22 = .ok (.aload_n 0, 1) := by decide +kernel
theorem dX5_coefficientsNotZero_23 : decode cX5_coefficientsNotZero 23 = .ok (.iload_n 2, 1) := by decide +kernel
theorem dX5_coefficientsNotZero_24 : decode cX5_coefficientsNotZero 24 = .ok (.iload_n 3, 1) := by decide +kernel
theorem dX5_coefficientsNotZero_25 : decode cX5_coefficientsNotZero 25 = .ok (.invokevirtual 98, 3) := by decide +kernel
theorem dX5_coefficientsNotZero_28 : decode cX5_coefficientsNotZero 28 = .ok (.ifCond .eq 6, 3) := by decide +kernel
theorem dX5_coefficientsNotZero_31 : decode cX5_coefficientsNotZero 31 = .ok (.iinc 1 1, 3) := by decide +kernel
theorem dX5_coefficientsNotZero_34 : decode cX5_coefficientsNotZero 34 = .ok (.iinc 3 1, 3) := by decide +kernel
theorem dX5_coefficientsNotZero_37 : decode cX5_coefficientsNotZero 37 = .ok (.goto (-23), 3) := by decide +kernel
theorem dX5_coefficientsNotZero_40 : decode cX5_coefficientsNotZero 40 = .ok (.iinc 2 1, 3) := by decide +kernel
theorem dX5_coefficientsNotZero_43 : decode cX5_coefficientsNotZero 43 = .ok (.goto (-39), 3) := by decide +kernel
theorem dX5_coefficientsNotZero_46 : decode cX5_coefficientsNotZero 46 = .ok (.iload_n 1, 1) := by decide +kernel
theorem dX5_coefficientsNotZero_47 : decode cX5_coefficientsNotZero 47 = .ok (.ireturn, 1) := by decide +kernel
theorem dX5_hasSameIdeal_0 : decode cX5_hasSameIdeal 0 = .ok (.iconst 0, 1) := by decide +kernel
theorem dX5_hasSameIdeal_1 : decode cX5_hasSameIdeal 1 = .ok (.istore_n 2, 1) := by decide +kernel
theorem dX5_hasSameIdeal_2 : decode cX5_hasSameIdeal 2 = .ok (.iload_n 2, 1) := by decide +kernel
theorem dX5_hasSameIdeal_3 : decode cX5_hasSameIdeal 3 = .ok (.bipush 12, 2) := by decide +kernel
theorem dX5_hasSameIdeal_5 : decode cX5_hasSameIdeal 5 = .ok (.if_icmp .gt 26, 3) := by decide +kernel
theorem dX5_hasSameIdeal_8 : decode cX5_hasSameIdeal 8 = .ok (.aload_n 0, 1) := by decide +kernel
theorem dX5_hasSameIdeal_9 : decode cX5_hasSameIdeal 9 = .ok (.getfield 9, 3) := by decide +kernel
theorem dX5_hasSameIdeal_12 : decode cX5_hasSameIdeal 12 = .ok (.iload_n 2, 1) := by decide +kernel
theorem dX5_hasSameIdeal_13 : decode cX5_hasSameIdeal 13 = .ok (.iaload, 1) := by decide +kernel
theorem dX5_hasSameIdeal_14 : decode cX5_hasSameIdeal 14 = .ok (.aload_n 1, 1) := by decide +kernel
theorem dX5_hasSameIdeal_15 : decode cX5_hasSameIdeal 15 = .ok (.getfield 9, 3) := by decide +kernel
theorem dX5_hasSameIdeal_18 : decode cX5_hasSameIdeal 18 = .ok (.iload_n 2, 1) := by decide +kernel
theorem dX5_hasSameIdeal_19 : decode cX5_hasSameIdeal 19 = .ok (.iaload, 1) := by decide +kernel
theorem dX5_hasSameIdeal_20 : decode cX5_hasSameIdeal 20 = .ok (.if_icmp .eq 5, 3) := by decide +kernel
theorem dX5_hasSameIdeal_23 : decode cX5_hasSameIdeal 23 = .ok (.iconst 0, 1) := by decide +kernel
theorem dX5_hasSameIdeal_24 : decode cX5_hasSameIdeal 24 = .ok (.ireturn, 1) := by decide +kernel
theorem dX5_hasSameIdeal_25 : decode cX5_hasSameIdeal 25 = .ok (.iinc 2 1, 3) := by decide +kernel
theorem dX5_hasSameIdeal_28 : decode cX5_hasSameIdeal 28 = .ok (.goto (-26), 3) := by decide +kernel
theorem dX5_hasSameIdeal_31 : decode cX5_hasSameIdeal 31 = .ok (.iconst 1, 1) := by decide +kernel
theorem dX5_hasSameIdeal_32 : decode cX5_hasSameIdeal 32 = .ok (.ireturn, 1) := by decide +kernel
theorem dX5_otherRules_0 : decode cX5_otherRules 0 = .ok (.iconst 0, 1) := by decide +kernel
theorem dX5_otherRules_1 : decode cX5_otherRules 1 = .ok (.istore_n 2, 1) := by decide +kernel
theorem dX5_otherRules_2 : decode cX5_otherRules 2 = .ok (.iconst 0, 1) := by decide +kernel
theorem dX5_otherRules_3 : decode cX5_otherRules 3 = .ok (.istore_n 3, 1) := by decide +kernel
theorem dX5_otherRules_4 : decode cX5_otherRules 4 = .ok (.iload_n 3, 1) := by decide +kernel
theorem dX5_otherRules_5 : decode cX5_otherRules 5 = .ok (.aload_n 0, 1) := by decide +kernel
theorem dX5_otherRules_6 : decode cX5_otherRules 6 = .ok (.getfield 58, 3) := by decide +kernel
theorem dX5_otherRules_9 : decode cX5_otherRules 9 = .ok (.if_icmp .ge 21, 3) := by decide +kernel
theorem dX5_otherRules_12 : decode cX5_otherRules 12 = .ok (.aload_n 0, 1) := by decide +kernel
theorem dX5_otherRules_13 : decode cX5_otherRules 13 = .ok (.aload_n 1, 1) := by decide +kernel
theorem dX5_otherRules_14 : decode cX5_otherRules 14 = .ok (.iload_n 3, 1) := by decide +kernel
theorem dX5_otherRules_15 : decode cX5_otherRules 15 = .ok (.invokevirtual 108, 3) := by decide +kernel
theorem dX5_otherRules_18 : decode cX5_otherRules 18 = .ok (.ifCond .eq 6, 3) := by decide +kernel
theorem dX5_otherRules_21 : decode cX5_otherRules 21 = .ok (.iinc 2 1, 3) := by decide +kernel
theorem dX5_otherRules_24 : decode cX5_otherRules 24 = .ok (.iinc 3 1, 3) := by decide +kernel
theorem dX5_otherRules_27 : decode cX5_otherRules 27 = .ok (.goto (-23), 3) := by decide +kernel
theorem dX5_otherRules_30 : decode cX5_otherRules 30 = .ok (.iload_n 2, 1) := by decide +kernel
theorem dX5_otherRules_31 : decode cX5_otherRules 31 = .ok (.ireturn, 1) := by decide +kernel
theorem dX5_hasOtherRule_0 : decode cX5_hasOtherRule 0 = .ok (.iconst 0, 1) := by decide +kernel
theorem dX5_hasOtherRule_1 : decode cX5_hasOtherRule 1 = .ok (.istore_n 3, 1) := by decide +kernel
theorem dX5_hasOtherRule_2 : decode cX5_hasOtherRule 2 = .ok (.iload_n 3, 1) := by decide +kernel
theorem dX5_hasOtherRule_3 : decode cX5_hasOtherRule 3 = .ok (.aload_n 0, 1) := by decide +kernel
theorem dX5_hasOtherRule_4 : decode cX5_hasOtherRule 4 = .ok (.getfield 55, 3) := by decide +kernel
theorem dX5_hasOtherRule_7 : decode cX5_hasOtherRule 7 = .ok (.if_icmp .ge 26, 3) := by decide +kernel
theorem dX5_hasOtherRule_10 : decode cX5_hasOtherRule 10 = .ok (.aload_n 0, 1) := by decide +kernel
theorem dX5_hasOtherRule_11 : decode cX5_hasOtherRule 11 = .ok (.iload_n 2, 1) := by decide +kernel
theorem dX5_hasOtherRule_12 : decode cX5_hasOtherRule 12 = .ok (.iload_n 3, 1) := by decide +kernel
theorem dX5_hasOtherRule_13 : decode cX5_hasOtherRule 13 = .ok (.invokevirtual 98, 3) := by decide +kernel
theorem dX5_hasOtherRule_16 : decode cX5_hasOtherRule 16 = .ok (.aload_n 1, 1) := by decide +kernel
theorem dX5_hasOtherRule_17 : decode cX5_hasOtherRule 17 = .ok (.iload_n 2, 1) := by decide +kernel
theorem dX5_hasOtherRule_18 : decode cX5_hasOtherRule 18 = .ok (.iload_n 3, 1) := by decide +kernel
theorem dX5_hasOtherRule_19 : decode cX5_hasOtherRule 19 = .ok (.invokevirtual 98, 3) := by decide +kernel
theorem dX5_hasOtherRule_22 : decode cX5_hasOtherRule 22 = .ok (.if_icmp .eq 5, 3) := by decide +kernel
theorem dX5_hasOtherRule_25 : decode cX5_hasOtherRule 25 = .ok (.iconst 1, 1) := by decide +kernel
theorem dX5_hasOtherRule_26 : decode cX5_hasOtherRule 26 = .ok (.ireturn, 1) := by decide +kernel
theorem dX5_hasOtherRule_27 : decode cX5_hasOtherRule 27 = .ok (.iinc 3 1, 3) := by decide +kernel
theorem dX5_hasOtherRule_30 : decode cX5_hasOtherRule 30 = .ok (.goto (-28), 3) := by decide +kernel
theorem dX5_hasOtherRule_33 : decode cX5_hasOtherRule 33 = .ok (.iconst 0, 1) := by decide +kernel
theorem dX5_hasOtherRule_34 : decode cX5_hasOtherRule 34 = .ok (.ireturn, 1) := by decide +kernel
theorem dX5_hasPoint_0 : decode cX5_hasPoint 0 = .ok (.iconst 0, 1) := by decide +kernel
theorem dX5_hasPoint_1 : decode cX5_hasPoint 1 = .ok (.istore_n 3, 1) := by decide +kernel
theorem dX5_hasPoint_2 : decode cX5_hasPoint 2 = .ok (.iload_n 3, 1) := by decide +kernel
theorem dX5_hasPoint_3 : decode cX5_hasPoint 3 = .ok (.aload_n 0, 1) := by decide +kernel
theorem dX5_hasPoint_4 : decode cX5_hasPoint 4 = .ok (.getfield 49, 3) := by decide +kernel
theorem dX5_hasPoint_7 : decode cX5_hasPoint 7 = .ok (.if_icmp .ge 31, 3) := by decide +kernel
theorem dX5_hasPoint_10 : decode cX5_hasPoint 10 = .ok (.aload_n 0, 1) := by decide +kernel
theorem dX5_hasPoint_11 : decode cX5_hasPoint 11 = .ok (.getfield 30, 3) := by decide +kernel
theorem dX5_hasPoint_14 : decode cX5_hasPoint 14 = .ok (.iload_n 3, 1) := by decide +kernel
theorem dX5_hasPoint_15 : decode cX5_hasPoint 15 = .ok (.iaload, 1) := by decide +kernel
theorem dX5_hasPoint_16 : decode cX5_hasPoint 16 = .ok (.iload_n 1, 1) := by decide +kernel
theorem dX5_hasPoint_17 : decode cX5_hasPoint 17 = .ok (.if_icmp .ne 15, 3) := by decide +kernel
theorem dX5_hasPoint_20 : decode cX5_hasPoint 20 = .ok (.aload_n 0, 1) := by decide +kernel
theorem dX5_hasPoint_21 : decode cX5_hasPoint 21 = .ok (.getfield 33, 3) := by decide +kernel
theorem dX5_hasPoint_24 : decode cX5_hasPoint 24 = .ok (.iload_n 3, 1) := by decide +kernel
theorem dX5_hasPoint_25 : decode cX5_hasPoint 25 = .ok (.iaload, 1) := by decide +kernel
theorem dX5_hasPoint_26 : decode cX5_hasPoint 26 = .ok (.iload_n 2, 1) := by decide +kernel
theorem dX5_hasPoint_27 : decode cX5_hasPoint 27 = .ok (.if_icmp .ne 5, 3) := by decide +kernel
theorem dX5_hasPoint_30 : decode cX5_hasPoint 30 = .ok (.iconst 1, 1) := by decide +kernel
theorem dX5_hasPoint_31 : decode cX5_hasPoint 31 = .ok (.ireturn, 1) := by decide +kernel
theorem dX5_hasPoint_32 : decode cX5_hasPoint 32 = .ok (.iinc 3 1, 3) := by decide +kernel
theorem dX5_hasPoint_35 : decode cX5_hasPoint 35 = .ok (.goto (-33), 3) := by decide +kernel
theorem dX5_hasPoint_38 : decode cX5_hasPoint 38 = .ok (.iconst 0, 1) := by decide +kernel
theorem dX5_hasPoint_39 : decode cX5_hasPoint 39 = .ok (.ireturn, 1) := by decide +kernel
theorem dX5_appendPoint_0 : decode cX5_appendPoint 0 = .ok (.aload_n 0, 1) := by decide +kernel
theorem dX5_appendPoint_1 : decode cX5_appendPoint 1 = .ok (.getfield 49, 3) := by decide +kernel
theorem dX5_appendPoint_4 : decode cX5_appendPoint 4 = .ok (.bipush 12, 2) := by decide +kernel
theorem dX5_appendPoint_6 : decode cX5_appendPoint 6 = .ok (.if_icmp .ge 33, 3) := by decide +kernel
theorem dX5_appendPoint_9 : decode cX5_appendPoint 9 = .ok (.aload_n 0, 1) := by decide +kernel
theorem dX5_appendPoint_10 : decode cX5_appendPoint 10 = .ok (.getfield 30, 3) := by decide +kernel
theorem dX5_appendPoint_13 : decode cX5_appendPoint 13 = .ok (.aload_n 0, 1) := by decide +kernel
theorem dX5_appendPoint_14 : decode cX5_appendPoint 14 = .ok (.getfield 49, 3) := by decide +kernel
theorem dX5_appendPoint_17 : decode cX5_appendPoint 17 = .ok (.iload_n 1, 1) := by decide +kernel
theorem dX5_appendPoint_18 : decode cX5_appendPoint 18 = .ok (.iastore, 1) := by decide +kernel
theorem dX5_appendPoint_19 : decode cX5_appendPoint 19 = .ok (.aload_n 0, 1) := by decide +kernel
theorem dX5_appendPoint_20 : decode cX5_appendPoint 20 = .ok (.getfield 33, 3) := by decide +kernel
theorem dX5_appendPoint_23 : decode cX5_appendPoint 23 = .ok (.aload_n 0, 1) := by decide +kernel
theorem dX5_appendPoint_24 : decode cX5_appendPoint 24 = .ok (.getfield 49, 3) := by decide +kernel
theorem dX5_appendPoint_27 : decode cX5_appendPoint 27 = .ok (.iload_n 2, 1) := by decide +kernel
theorem dX5_appendPoint_28 : decode cX5_appendPoint 28 = .ok (.iastore, 1) := by decide +kernel
theorem dX5_appendPoint_29 : decode cX5_appendPoint 29 = .ok (.aload_n 0, 1) := by decide +kernel
theorem dX5_appendPoint_30 : decode cX5_appendPoint 30 = .ok (.dup, 1) := by decide +kernel
theorem dX5_appendPoint_31 : decode cX5_appendPoint 31 = .ok (.getfield 49, 3) := by decide +kernel
theorem dX5_appendPoint_34 : decode cX5_appendPoint 34 = .ok (.iconst 1, 1) := by decide +kernel
theorem dX5_appendPoint_35 : decode cX5_appendPoint 35 = .ok (.iadd, 1) := by decide +kernel
theorem dX5_appendPoint_36 : decode cX5_appendPoint 36 = .ok (.putfield 49, 3) := by decide +kernel
theorem dX5_appendPoint_39 : decode cX5_appendPoint 39 = .ok (.return_, 1) := by decide +kernel
theorem dX5_deletePoint_0 : decode cX5_deletePoint 0 = .ok (.iload_n 1, 1) := by decide +kernel
theorem dX5_deletePoint_1 : decode cX5_deletePoint 1 = .ok (.istore_n 2, 1) := by decide +kernel
theorem dX5_deletePoint_2 : decode cX5_deletePoint 2 = .ok (.iload_n 2, 1) := by decide +kernel
theorem dX5_deletePoint_3 : decode cX5_deletePoint 3 = .ok (.ifCond .lt 47, 3) := by decide +kernel
theorem dX5_deletePoint_6 : decode cX5_deletePoint 6 = .ok (.iload_n 2, 1) := by decide +kernel
theorem dX5_deletePoint_7 : decode cX5_deletePoint 7 = .ok (.aload_n 0, 1) := by decide +kernel
theorem dX5_deletePoint_8 : decode cX5_deletePoint 8 = .ok (.getfield 49, 3) := by decide +kernel
theorem dX5_deletePoint_11 : decode cX5_deletePoint 11 = .ok (.iconst 1, 1) := by decide +kernel
theorem dX5_deletePoint_12 : decode cX5_deletePoint 12 = .ok (.isub, 1) := by decide +kernel
theorem dX5_deletePoint_13 : decode cX5_deletePoint 13 = .ok (.if_icmp .ge 37, 3) := by decide +kernel
theorem dX5_deletePoint_16 : decode cX5_deletePoint 16 = .ok (.aload_n 0, 1) := by decide +kernel
theorem dX5_deletePoint_17 : decode cX5_deletePoint 17 = .ok (.getfield 30, 3) := by decide +kernel
theorem dX5_deletePoint_20 : decode cX5_deletePoint 20 = .ok (.iload_n 2, 1) := by decide +kernel
theorem dX5_deletePoint_21 : decode cX5_deletePoint 21 = .ok (.aload_n 0, 1) := by decide +kernel
theorem dX5_deletePoint_22 : decode cX5_deletePoint 22 = .ok (.getfield 30, 3) := by decide +kernel
theorem dX5_deletePoint_25 : decode cX5_deletePoint 25 = .ok (.iload_n 2, 1) := by decide +kernel
theorem dX5_deletePoint_26 : decode cX5_deletePoint 26 = .ok (.iconst 1, 1) := by decide +kernel
theorem dX5_deletePoint_27 : decode cX5_deletePoint 27 = .ok (.iadd, 1) := by decide +kernel
theorem dX5_deletePoint_28 : decode cX5_deletePoint 28 = .ok (.iaload, 1) := by decide +kernel
theorem dX5_deletePoint_29 : decode cX5_deletePoint 29 = .ok (.iastore, 1) := by decide +kernel
theorem dX5_deletePoint_30 : decode cX5_deletePoint 30 = .ok (.aload_n 0, 1) := by decide +kernel
theorem dX5_deletePoint_31 : decode cX5_deletePoint 31 = .ok (.getfield 33, 3) := by decide +kernel
theorem dX5_deletePoint_34 : decode cX5_deletePoint 34 = .ok (.iload_n 2, 1) := by decide +kernel
theorem dX5_deletePoint_35 : decode cX5_deletePoint 35 = .ok (.aload_n 0, 1) := by decide +kernel
theorem dX5_deletePoint_36 : decode cX5_deletePoint 36 = .ok (.getfield 33, 3) := by decide +kernel
theorem dX5_deletePoint_39 : decode cX5_deletePoint 39 = .ok (.iload_n 2, 1) := by decide +kernel
theorem dX5_deletePoint_40 : decode cX5_deletePoint 40 = .ok (.iconst 1, 1) := by decide +kernel
theorem dX5_deletePoint_41 : decode cX5_deletePoint 41 = .ok (.iadd, 1) := by decide +kernel
theorem dX5_deletePoint_42 : decode cX5_deletePoint 42 = .ok (.iaload, 1) := by decide +kernel
theorem dX5_deletePoint_43 : decode cX5_deletePoint 43 = .ok (.iastore, 1) := by decide +kernel
theorem dX5_deletePoint_44 : decode cX5_deletePoint 44 = .ok (.iinc 2 1, 3) := by decide +kernel
theorem dX5_deletePoint_47 : decode cX5_deletePoint 47 = .ok (.goto (-45), 3) := by decide +kernel
theorem dX5_deletePoint_50 : decode cX5_deletePoint 50 = .ok (.aload_n 0, 1) := by decide +kernel
theorem dX5_deletePoint_51 : decode cX5_deletePoint 51 = .ok (.dup, 1) := by decide +kernel
theorem dX5_deletePoint_52 : decode cX5_deletePoint 52 = .ok (.getfield 49, 3) := by decide +kernel
theorem dX5_deletePoint_55 : decode cX5_deletePoint 55 = .ok (.iconst 1, 1) := by decide +kernel
theorem dX5_deletePoint_56 : decode cX5_deletePoint 56 = .ok (.isub, 1) := by decide +kernel
theorem dX5_deletePoint_57 : decode cX5_deletePoint 57 = .ok (.putfield 49, 3) := by decide +kernel
theorem dX5_deletePoint_60 : decode cX5_deletePoint 60 = .ok (.return_, 1) := by decide +kernel
theorem dX6_init_0 : decode cX6_init 0 = .ok (.aload_n 0, 1) := by decide +kernel
theorem dX6_init_1 : decode cX6_init 1 = .ok (.invokespecial 3, 3) := by decide +kernel
theorem dX6_init_4 : decode cX6_init 4 = .ok (.aload_n 0, 1) := by decide +kernel
theorem dX6_init_5 : decode cX6_init 5 = .ok (.new 9, 3) := by decide +kernel
theorem dX6_init_8 : decode cX6_init 8 = .ok (.dup, 1) := by decide +kernel
theorem dX6_init_9 : decode cX6_init 9 = .ok (.bipush 12, 2) := by decide +kernel
theorem dX6_init_11 : decode cX6_init 11 = .ok (.bipush 12, 2) := by decide +kernel
theorem dX6_init_13 : decode cX6_init 13 = .ok (.invokespecial 11, 3) := by decide +kernel
theorem dX6_init_16 : decode cX6_init 16 = .ok (.putfield 14, 3) := by decide +kernel
theorem dX6_init_19 : decode cX6_init 19 = .ok (.aload_n 0, 1) := by decide +kernel
theorem dX6_init_20 : decode cX6_init 20 = .ok (.new 9, 3) := by decide +kernel
theorem dX6_init_23 : decode cX6_init 23 = .ok (.dup, 1) := by decide +kernel
theorem dX6_init_24 : decode cX6_init 24 = .ok (.bipush 12, 2) := by decide +kernel
theorem dX6_init_26 : decode cX6_init 26 = .ok (.bipush 12, 2) := by decide +kernel
theorem dX6_init_28 : decode cX6_init 28 = .ok (.invokespecial 11, 3) := by decide +kernel
theorem dX6_init_31 : decode cX6_init 31 = .ok (.putfield 20, 3) := by decide +kernel
theorem dX6_init_34 : decode cX6_init 34 = .ok (.aload_n 0, 1) := by decide +kernel
theorem dX6_init_35 : decode cX6_init 35 = .ok (.new 9, 3) := by decide +kernel
theorem dX6_init_38 : decode cX6_init 38 = .ok (.dup, 1) := by decide +kernel
theorem dX6_init_39 : decode cX6_init 39 = .ok (.bipush 12, 2) := by decide +kernel
theorem dX6_init_41 : decode cX6_init 41 = .ok (.bipush 12, 2) := by decide +kernel
theorem dX6_init_43 : decode cX6_init 43 = .ok (.invokespecial 11, 3) := by decide +kernel
theorem dX6_init_46 : decode cX6_init 46 = .ok (.putfield 23, 3) := by decide +kernel
theorem dX6_init_49 : decode cX6_init 49 = .ok (.aload_n 0, 1) := by decide +kernel
theorem dX6_init_50 : decode cX6_init 50 = .ok (.new 9, 3) := by decide +kernel
theorem dX6_init_53 : decode cX6_init 53 = .ok (.dup, 1) := by decide +kernel
theorem dX6_init_54 : decode cX6_init 54 = .ok (.bipush 12, 2) := by decide +kernel
theorem dX6_init_56 : decode cX6_init 56 = .ok (.bipush 12, 2) := by decide +kernel
theorem dX6_init_58 : decode cX6_init 58 = .ok (.invokespecial 11, 3) := by decide +kernel
theorem dX6_init_61 : decode cX6_init 61 = .ok (.putfield 26, 3) := by decide +kernel
theorem dX6_init_64 : decode cX6_init 64 = .ok (.aload_n 0, 1) := by decide +kernel
theorem dX6_init_65 : decode cX6_init 65 = .ok (.new 9, 3) := by decide +kernel
theorem dX6_init_68 : decode cX6_init 68 = .ok (.dup, 1) := by decide +kernel
theorem dX6_init_69 : decode cX6_init 69 = .ok (.bipush 12, 2) := by decide +kernel
theorem dX6_init_71 : decode cX6_init 71 = .ok (.bipush 12, 2) := by decide +kernel
theorem dX6_init_73 : decode cX6_init 73 = .ok (.invokespecial 11, 3) := by decide +kernel
theorem dX6_init_76 : decode cX6_init 76 = .ok (.putfield 29, 3) := by decide +kernel
theorem dX6_init_79 : decode cX6_init 79 = .ok (.aload_n 0, 1) := by decide +kernel
theorem dX6_init_80 : decode cX6_init 80 = .ok (.new 9, 3) := by decide +kernel
theorem dX6_init_83 : decode cX6_init 83 = .ok (.dup, 1) := by decide +kernel
theorem dX6_init_84 : decode cX6_init 84 = .ok (.bipush 12, 2) := by decide +kernel
theorem dX6_init_86 : decode cX6_init 86 = .ok (.bipush 12, 2) := by decide +kernel
theorem dX6_init_88 : decode cX6_init 88 = .ok (.invokespecial 11, 3) := by decide +kernel
theorem dX6_init_91 : decode cX6_init 91 = .ok (.putfield 32, 3) := by decide +kernel
theorem dX6_init_94 : decode cX6_init 94 = .ok (.aload_n 0, 1) := by decide +kernel
theorem dX6_init_95 : decode cX6_init 95 = .ok (.new 9, 3) := by decide +kernel
theorem dX6_init_98 : decode cX6_init 98 = .ok (.dup, 1) := by decide +kernel
theorem dX6_init_99 : decode cX6_init 99 = .ok (.bipush 12, 2) := by decide +kernel
theorem dX6_init_101 : decode cX6_init 101 = .ok (.bipush 12, 2) := by decide +kernel
theorem dX6_init_103 : decode cX6_init 103 = .ok (.invokespecial 11, 3) := by decide +kernel
theorem dX6_init_106 : decode cX6_init 106 = .ok (.putfield 35, 3) := by decide +kernel
theorem dX6_init_109 : decode cX6_init 109 = .ok (.aload_n 0, 1) := by decide +kernel
theorem dX6_init_110 : decode cX6_init 110 = .ok (.new 9, 3) := by decide +kernel
theorem dX6_init_113 : decode cX6_init 113 = .ok (.dup, 1) := by decide +kernel
theorem dX6_init_114 : decode cX6_init 114 = .ok (.bipush 12, 2) := by decide +kernel
theorem dX6_init_116 : decode cX6_init 116 = .ok (.bipush 12, 2) := by decide +kernel
theorem dX6_init_118 : decode cX6_init 118 = .ok (.invokespecial 11, 3) := by decide +kernel
theorem dX6_init_121 : decode cX6_init 121 = .ok (.putfield 38, 3) := by decide +kernel
theorem dX6_init_124 : decode cX6_init 124 = .ok (.aload_n 0, 1) := by decide +kernel
theorem dX6_init_125 : decode cX6_init 125 = .ok (.new 9, 3) := by decide +kernel
theorem dX6_init_128 : decode cX6_init 128 = .ok (.dup, 1) := by decide +kernel
theorem dX6_init_129 : decode cX6_init 129 = .ok (.bipush 12, 2) := by decide +kernel
theorem dX6_init_131 : decode cX6_init 131 = .ok (.bipush 13, 2) := by decide +kernel
theorem dX6_init_133 : decode cX6_init 133 = .ok (.invokespecial 11, 3) := by decide +kernel
theorem dX6_init_136 : decode cX6_init 136 = .ok (.putfield 41, 3) := by decide +kernel
theorem dX6_init_139 : decode cX6_init 139 = .ok (.aload_n 0, 1) := by decide +kernel
theorem dX6_init_140 : decode cX6_init 140 = .ok (.bipush 12, 2) := by decide +kernel
theorem dX6_init_142 : decode cX6_init 142 = .ok (.newarray .int, 2) := by decide +kernel
theorem dX6_init_144 : decode cX6_init 144 = .ok (.putfield 44, 3) := by decide +kernel
theorem dX6_init_147 : decode cX6_init 147 = .ok (.aload_n 0, 1) := by decide +kernel
theorem dX6_init_148 : decode cX6_init 148 = .ok (.bipush 12, 2) := by decide +kernel
theorem dX6_init_150 : decode cX6_init 150 = .ok (.newarray .int, 2) := by decide +kernel
theorem dX6_init_152 : decode cX6_init 152 = .ok (.putfield 48, 3) := by decide +kernel
theorem dX6_init_155 : decode cX6_init 155 = .ok (.aload_n 0, 1) := by decide +kernel
theorem dX6_init_156 : decode cX6_init 156 = .ok (.new 9, 3) := by decide +kernel
theorem dX6_init_159 : decode cX6_init 159 = .ok (.dup, 1) := by decide +kernel
theorem dX6_init_160 : decode cX6_init 160 = .ok (.bipush 21, 2) := by decide +kernel
theorem dX6_init_162 : decode cX6_init 162 = .ok (.bipush 12, 2) := by decide +kernel
theorem dX6_init_164 : decode cX6_init 164 = .ok (.invokespecial 11, 3) := by decide +kernel
theorem dX6_init_167 : decode cX6_init 167 = .ok (.putfield 51, 3) := by decide +kernel
theorem dX6_init_170 : decode cX6_init 170 = .ok (.aload_n 0, 1) := by decide +kernel
theorem dX6_init_171 : decode cX6_init 171 = .ok (.aload_n 1, 1) := by decide +kernel
theorem dX6_init_172 : decode cX6_init 172 = .ok (.putfield 54, 3) := by decide +kernel
theorem dX6_init_175 : decode cX6_init 175 = .ok (.return_, 1) := by decide +kernel
theorem dX6_ofVariable_0 : decode cX6_ofVariable 0 = .ok (.iload_n 1, 1) := by decide +kernel
theorem dX6_ofVariable_1 : decode cX6_ofVariable 1 = .ok (.ifCond .ne 10, 3) := by decide +kernel
theorem dX6_ofVariable_4 : decode cX6_ofVariable 4 = .ok (.aload_n 0, 1) := by decide +kernel
theorem dX6_ofVariable_5 : decode cX6_ofVariable 5 = .ok (.getfield 14, 3) := by decide +kernel
theorem dX6_ofVariable_8 : decode cX6_ofVariable 8 = .ok (.goto 7, 3) := by decide +kernel
theorem dX6_ofVariable_11 : decode cX6_ofVariable 11 = .ok (.aload_n 0, 1) := by decide +kernel
theorem dX6_ofVariable_12 : decode cX6_ofVariable 12 = .ok (.getfield 20, 3) := by decide +kernel
theorem dX6_ofVariable_15 : decode cX6_ofVariable 15 = .ok (.areturn, 1) := by decide +kernel
theorem dX6_cell_0 : decode cX6_cell 0 = .ok (.aload_n 0, 1) := by decide +kernel
theorem dX6_cell_1 : decode cX6_cell 1 = .ok (.invokevirtual 58, 3) := by decide +kernel
theorem dX6_cell_4 : decode cX6_cell 4 = .ok (.aload_n 0, 1) := by decide +kernel
theorem dX6_cell_5 : decode cX6_cell 5 = .ok (.iload_n 1, 1) := by decide +kernel
theorem dX6_cell_6 : decode cX6_cell 6 = .ok (.invokevirtual 61, 3) := by decide +kernel
theorem dX6_cell_9 : decode cX6_cell 9 = .ok (.iload_n 2, 1) := by decide +kernel
theorem dX6_cell_10 : decode cX6_cell 10 = .ok (.iload_n 3, 1) := by decide +kernel
theorem dX6_cell_11 : decode cX6_cell 11 = .ok (.invokevirtual 65, 3) := by decide +kernel
theorem dX6_cell_14 : decode cX6_cell 14 = .ok (.ireturn, 1) := by decide +kernel
theorem dX6_differences_0 : decode cX6_differences 0 = .ok (.aload_n 0, 1) := by decide +kernel
theorem dX6_differences_1 : decode cX6_differences 1 = .ok (.invokevirtual 58, 3) := by decide +kernel
theorem dX6_differences_4 : decode cX6_differences 4 = .ok (.aload_n 0, 1) := by decide +kernel
theorem dX6_differences_5 : decode cX6_differences 5 = .ok (.getfield 69, 3) := by decide +kernel
theorem dX6_differences_8 : decode cX6_differences 8 = .ok (.ireturn, 1) := by decide +kernel
theorem dX6_firstDifference_0 : decode cX6_firstDifference 0 = .ok (.aload_n 0, 1) := by decide +kernel
theorem dX6_firstDifference_1 : decode cX6_firstDifference 1 = .ok (.invokevirtual 58, 3) := by decide +kernel
theorem dX6_firstDifference_4 : decode cX6_firstDifference 4 = .ok (.iload_n 1, 1) := by decide +kernel
theorem dX6_firstDifference_5 : decode cX6_firstDifference 5 = .ok (.tableswitch 53 0 2 #[27, 32, 37], 27) := by decide +kernel
theorem dX6_firstDifference_32 : decode cX6_firstDifference 32 = .ok (.aload_n 0, 1) := by decide +kernel
theorem dX6_firstDifference_33 : decode cX6_firstDifference 33 = .ok (.getfield 73, 3) := by decide +kernel
theorem dX6_firstDifference_36 : decode cX6_firstDifference 36 = .ok (.ireturn, 1) := by decide +kernel
theorem dX6_firstDifference_37 : decode cX6_firstDifference 37 = .ok (.aload_n 0, 1) := by decide +kernel
theorem dX6_firstDifference_38 : decode cX6_firstDifference 38 = .ok (.getfield 76, 3) := by decide +kernel
theorem dX6_firstDifference_41 : decode cX6_firstDifference 41 = .ok (.ireturn, 1) := by decide +kernel
theorem dX6_firstDifference_42 : decode cX6_firstDifference 42 = .ok (.aload_n 0, 1) := by decide +kernel
theorem dX6_firstDifference_43 : decode cX6_firstDifference 43 = .ok (.getfield 23, 3) := by decide +kernel
theorem dX6_firstDifference_46 : decode cX6_firstDifference 46 = .ok (.aload_n 0, 1) := by decide +kernel
theorem dX6_firstDifference_47 : decode cX6_firstDifference 47 = .ok (.getfield 76, 3) := by decide +kernel
theorem dX6_firstDifference_50 : decode cX6_firstDifference 50 = .ok (.aload_n 0, 1) := by decide +kernel
theorem dX6_firstDifference_51 : decode cX6_firstDifference 51 = .ok (.getfield 73, 3) := by decide +kernel
theorem dX6_firstDifference_54 : decode cX6_firstDifference 54 = .ok (.invokevirtual 65, 3) := by decide +kernel
theorem dX6_firstDifference_57 : decode cX6_firstDifference 57 = .ok (.ireturn, 1) := by decide +kernel
theorem dX6_firstDifference_58 : decode cX6_firstDifference 58 = .ok (.aload_n 0, 1) := by decide +kernel
theorem dX6_firstDifference_59 : decode cX6_firstDifference 59 = .ok (.getfield 26, 3) := by decide +kernel
theorem dX6_firstDifference_62 : decode cX6_firstDifference 62 = .ok (.aload_n 0, 1) := by decide +kernel
theorem dX6_firstDifference_63 : decode cX6_firstDifference 63 = .ok (.getfield 76, 3) := by decide +kernel
theorem dX6_firstDifference_66 : decode cX6_firstDifference 66 = .ok (.aload_n 0, 1) := by decide +kernel
theorem dX6_firstDifference_67 : decode cX6_firstDifference 67 = .ok (.getfield 73, 3) := by decide +kernel
theorem dX6_firstDifference_70 : decode cX6_firstDifference 70 = .ok (.invokevirtual 65, 3) := by decide +kernel
theorem dX6_firstDifference_73 : decode cX6_firstDifference 73 = .ok (.ireturn, 1) := by decide +kernel
theorem dX6_prepare_0 : decode cX6_prepare 0 = .ok (.aload_n 0, 1) := by decide +kernel
theorem dX6_prepare_1 : decode cX6_prepare 1 = .ok (.getfield 79, 3) := by decide +kernel
theorem dX6_prepare_4 : decode cX6_prepare 4 = .ok (.ifCond .eq 4, 3) := by decide +kernel
theorem dX6_prepare_7 : decode cX6_prepare 7 = .ok (.return_, 1) := by decide +kernel
theorem dX6_prepare_8 : decode cX6_prepare 8 = .ok (.aload_n 0, 1) := by decide +kernel
theorem dX6_prepare_9 : decode cX6_prepare 9 = .ok (.aload_n 0, 1) := by decide +kernel
theorem dX6_prepare_10 : decode cX6_prepare 10 = .ok (.getfield 14, 3) := by decide +kernel
theorem dX6_prepare_13 : decode cX6_prepare 13 = .ok (.iconst 1, 1) := by decide +kernel
theorem dX6_prepare_14 : decode cX6_prepare 14 = .ok (.iconst 0, 1) := by decide +kernel
theorem dX6_prepare_15 : decode cX6_prepare 15 = .ok (.invokevirtual 83, 3) := by decide +kernel
theorem dX6_prepare_18 : decode cX6_prepare 18 = .ok (.aload_n 0, 1) := by decide +kernel
theorem dX6_prepare_19 : decode cX6_prepare 19 = .ok (.aload_n 0, 1) := by decide +kernel
theorem dX6_prepare_20 : decode cX6_prepare 20 = .ok (.getfield 20, 3) := by decide +kernel
theorem dX6_prepare_23 : decode cX6_prepare 23 = .ok (.iconst 0, 1) := by decide +kernel
theorem dX6_prepare_24 : decode cX6_prepare 24 = .ok (.iconst 1, 1) := by decide +kernel
theorem dX6_prepare_25 : decode cX6_prepare 25 = .ok (.invokevirtual 83, 3) := by decide +kernel
theorem dX6_prepare_28 : decode cX6_prepare 28 = .ok (.aload_n 0, 1) := by decide +kernel
theorem dX6_prepare_29 : decode cX6_prepare 29 = .ok (.getfield 23, 3) := by decide +kernel
theorem dX6_prepare_32 : decode cX6_prepare 32 = .ok (.aload_n 0, 1) := by decide +kernel
theorem dX6_prepare_33 : decode cX6_prepare 33 = .ok (.getfield 14, 3) := by decide +kernel
theorem dX6_prepare_36 : decode cX6_prepare 36 = .ok (.aload_n 0, 1) := by decide +kernel
theorem dX6_prepare_37 : decode cX6_prepare 37 = .ok (.getfield 20, 3) := by decide +kernel
theorem dX6_prepare_40 : decode cX6_prepare 40 = .ok (.aload_n 0, 1) := by decide +kernel
theorem dX6_prepare_41 : decode cX6_prepare 41 = .ok (.getfield 54, 3) := by decide +kernel
theorem dX6_prepare_44 : decode cX6_prepare 44 = .ok (.getfield 87, 3) := by decide +kernel
theorem dX6_prepare_47 : decode cX6_prepare 47 = .ok (.invokevirtual 92, 3) := by decide +kernel
theorem dX6_prepare_50 : decode cX6_prepare 50 = .ok (.aload_n 0, 1) := by decide +kernel
theorem dX6_prepare_51 : decode cX6_prepare 51 = .ok (.getfield 26, 3) := by decide +kernel
theorem dX6_prepare_54 : decode cX6_prepare 54 = .ok (.aload_n 0, 1) := by decide +kernel
theorem dX6_prepare_55 : decode cX6_prepare 55 = .ok (.getfield 20, 3) := by decide +kernel
theorem dX6_prepare_58 : decode cX6_prepare 58 = .ok (.aload_n 0, 1) := by decide +kernel
theorem dX6_prepare_59 : decode cX6_prepare 59 = .ok (.getfield 14, 3) := by decide +kernel
theorem dX6_prepare_62 : decode cX6_prepare 62 = .ok (.aload_n 0, 1) := by decide +kernel
theorem dX6_prepare_63 : decode cX6_prepare 63 = .ok (.getfield 54, 3) := by decide +kernel
theorem dX6_prepare_66 : decode cX6_prepare 66 = .ok (.getfield 87, 3) := by decide +kernel
theorem dX6_prepare_69 : decode cX6_prepare 69 = .ok (.invokevirtual 92, 3) := by decide +kernel
theorem dX6_prepare_72 : decode cX6_prepare 72 = .ok (.aload_n 0, 1) := by decide +kernel
theorem dX6_prepare_73 : decode cX6_prepare 73 = .ok (.invokevirtual 96, 3) := by decide +kernel
theorem dX6_prepare_76 : decode cX6_prepare 76 = .ok (.aload_n 0, 1) := by decide +kernel
theorem dX6_prepare_77 : decode cX6_prepare 77 = .ok (.iconst 1, 1) := by decide +kernel
theorem dX6_prepare_78 : decode cX6_prepare 78 = .ok (.putfield 79, 3) := by decide +kernel
theorem dX6_prepare_81 : decode cX6_prepare 81 = .ok (.return_, 1) := by decide +kernel
theorem dX6_fillTable_0 : decode cX6_fillTable 0 = .ok (.aload_n 1, 1) := by decide +kernel
theorem dX6_fillTable_1 : decode cX6_fillTable 1 = .ok (.aload_n 0, 1) := by decide +kernel
theorem dX6_fillTable_2 : decode cX6_fillTable 2 = .ok (.getfield 54, 3) := by decide +kernel
theorem dX6_fillTable_5 : decode cX6_fillTable 5 = .ok (.getfield 99, 3) := by decide +kernel
theorem dX6_fillTable_8 : decode cX6_fillTable 8 = .ok (.aload_n 0, 1) := by decide +kernel
theorem dX6_fillTable_9 : decode cX6_fillTable 9 = .ok (.getfield 54, 3) := by decide +kernel
theorem dX6_fillTable_12 : decode cX6_fillTable 12 = .ok (.getfield 99, 3) := by decide +kernel
theorem dX6_fillTable_15 : decode cX6_fillTable 15 = .ok (.invokevirtual 102, 3) := by decide +kernel
theorem dX6_fillTable_18 : decode cX6_fillTable 18 = .ok (.iconst 0, 1) := by decide +kernel
theorem dX6_fillTable_19 : decode cX6_fillTable 19 = .ok (.istore 4, 2) := by decide +kernel
theorem dX6_fillTable_21 : decode cX6_fillTable 21 = .ok (.iload 4, 2) := by decide +kernel
theorem dX6_fillTable_23 : decode cX6_fillTable 23 = .ok (.aload_n 0, 1) := by decide +kernel
theorem dX6_fillTable_24 : decode cX6_fillTable 24 = .ok (.getfield 54, 3) := by decide +kernel
theorem dX6_fillTable_27 : decode cX6_fillTable 27 = .ok (.getfield 99, 3) := by decide +kernel
theorem dX6_fillTable_30 : decode cX6_fillTable 30 = .ok (.if_icmp .ge 121, 3) := by decide +kernel
theorem dX6_fillTable_33 : decode cX6_fillTable 33 = .ok (.aload_n 0, 1) := by decide +kernel
theorem dX6_fillTable_34 : decode cX6_fillTable 34 = .ok (.getfield 54, 3) := by decide +kernel
theorem dX6_fillTable_37 : decode cX6_fillTable 37 = .ok (.getfield 105, 3) := by decide +kernel
theorem dX6_fillTable_40 : decode cX6_fillTable 40 = .ok (.iload 4, 2) := by decide +kernel
theorem dX6_fillTable_42 : decode cX6_fillTable 42 = .ok (.iaload, 1) := by decide +kernel
theorem dX6_fillTable_43 : decode cX6_fillTable 43 = .ok (.iload_n 2, 1) := by decide +kernel
theorem dX6_fillTable_44 : decode cX6_fillTable 44 = .ok (.iadd, 1) := by decide +kernel
theorem dX6_fillTable_45 : decode cX6_fillTable 45 = .ok (.istore 5, 2) := by decide +kernel
theorem dX6_fillTable_47 : decode cX6_fillTable 47 = .ok (.aload_n 0, 1) := by decide +kernel
theorem dX6_fillTable_48 : decode cX6_fillTable 48 = .ok (.getfield 54, 3) := by decide +kernel
theorem dX6_fillTable_51 : decode cX6_fillTable 51 = .ok (.getfield 108, 3) := by decide +kernel
theorem dX6_fillTable_54 : decode cX6_fillTable 54 = .ok (.iload 4, 2) := by decide +kernel
theorem dX6_fillTable_56 : decode cX6_fillTable 56 = .ok (.iaload, 1) := by decide +kernel
theorem dX6_fillTable_57 : decode cX6_fillTable 57 = .ok (.iload_n 3, 1) := by decide +kernel
theorem dX6_fillTable_58 : decode cX6_fillTable 58 = .ok (.iadd, 1) := by decide +kernel
theorem dX6_fillTable_59 : decode cX6_fillTable 59 = .ok (.istore 6, 2) := by decide +kernel
theorem dX6_fillTable_61 : decode cX6_fillTable 61 = .ok (.aload_n 0, 1) := by decide +kernel
theorem dX6_fillTable_62 : decode cX6_fillTable 62 = .ok (.getfield 54, 3) := by decide +kernel
theorem dX6_fillTable_65 : decode cX6_fillTable 65 = .ok (.iload 5, 2) := by decide +kernel
theorem dX6_fillTable_67 : decode cX6_fillTable 67 = .ok (.iload 6, 2) := by decide +kernel
theorem dX6_fillTable_69 : decode cX6_fillTable 69 = .ok (.invokevirtual 111, 3) := by decide +kernel
theorem dX6_fillTable_72 : decode cX6_fillTable 72 = .ok (.istore 7, 2) := by decide +kernel
theorem dX6_fillTable_74 : decode cX6_fillTable 74 = .ok (.iload 7, 2) := by decide +kernel
theorem dX6_fillTable_76 : decode cX6_fillTable 76 = .ok (.iconst (-1), 1) := by decide +kernel
theorem dX6_fillTable_77 : decode cX6_fillTable 77 = .ok (.if_icmp .eq 15, 3) := by decide +kernel
theorem dX6_fillTable_80 : decode cX6_fillTable 80 = .ok (.aload_n 1, 1) := by decide +kernel
theorem dX6_fillTable_81 : decode cX6_fillTable 81 = .ok (.iload 7, 2) := by decide +kernel
theorem dX6_fillTable_83 : decode cX6_fillTable 83 = .ok (.iload 4, 2) := by decide +kernel
theorem dX6_fillTable_85 : decode cX6_fillTable 85 = .ok (.iconst 1, 1) := by decide +kernel
theorem dX6_fillTable_86 : decode cX6_fillTable 86 = .ok (.invokevirtual 114, 3) := by decide +kernel
theorem dX6_fillTable_89 : decode cX6_fillTable 89 = .ok (.goto 56, 3) := by decide +kernel
theorem dX6_fillTable_92 : decode cX6_fillTable 92 = .ok (.aload_n 0, 1) := by decide +kernel
