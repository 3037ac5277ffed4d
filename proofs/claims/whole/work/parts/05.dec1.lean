theorem dX6_fillTable_93 : decode cX6_fillTable 93 = .ok (.getfield 54, 3) := by decide +kernel
theorem dX6_fillTable_96 : decode cX6_fillTable 96 = .ok (.iload 5, 2) := by decide +kernel
theorem dX6_fillTable_98 : decode cX6_fillTable 98 = .ok (.iload 6, 2) := by decide +kernel
theorem dX6_fillTable_100 : decode cX6_fillTable 100 = .ok (.invokevirtual 118, 3) := by decide +kernel
theorem dX6_fillTable_103 : decode cX6_fillTable 103 = .ok (.istore 8, 2) := by decide +kernel
theorem dX6_fillTable_105 : decode cX6_fillTable 105 = .ok (.iconst 0, 1) := by decide +kernel
theorem dX6_fillTable_106 : decode cX6_fillTable 106 = .ok (.istore 9, 2) := by decide +kernel
theorem dX6_fillTable_108 : decode cX6_fillTable 108 = .ok (.iload 9, 2) := by decide +kernel
theorem dX6_fillTable_110 : decode cX6_fillTable 110 = .ok (.aload_n 0, 1) := by decide +kernel
theorem dX6_fillTable_111 : decode cX6_fillTable 111 = .ok (.getfield 54, 3) := by decide +kernel
theorem dX6_fillTable_114 : decode cX6_fillTable 114 = .ok (.getfield 99, 3) := by decide +kernel
theorem dX6_fillTable_117 : decode cX6_fillTable 117 = .ok (.if_icmp .ge 28, 3) := by decide +kernel
theorem dX6_fillTable_120 : decode cX6_fillTable 120 = .ok (.aload_n 1, 1) := by decide +kernel
theorem dX6_fillTable_121 : decode cX6_fillTable 121 = .ok (.iload 9, 2) := by decide +kernel
theorem dX6_fillTable_123 : decode cX6_fillTable 123 = .ok (.iload 4, 2) := by decide +kernel
theorem dX6_fillTable_125 : decode cX6_fillTable 125 = .ok (.aload_n 0, 1) := by decide +kernel
theorem dX6_fillTable_126 : decode cX6_fillTable 126 = .ok (.getfield 54, 3) := by decide +kernel
theorem dX6_fillTable_129 : decode cX6_fillTable 129 = .ok (.iload 8, 2) := by decide +kernel
theorem dX6_fillTable_131 : decode cX6_fillTable 131 = .ok (.iload 9, 2) := by decide +kernel
theorem dX6_fillTable_133 : decode cX6_fillTable 133 = .ok (.invokevirtual 121, 3) := by decide +kernel
theorem dX6_fillTable_136 : decode cX6_fillTable 136 = .ok (.invokevirtual 114, 3) := by decide +kernel
theorem dX6_fillTable_139 : decode cX6_fillTable 139 = .ok (.iinc 9 1, 3) := by decide +kernel
theorem dX6_fillTable_142 : decode cX6_fillTable 142 = .ok (.goto (-34), 3) := by decide +kernel
theorem dX6_fillTable_145 : decode cX6_fillTable 145 = .ok (.iinc 4 1, 3) := by decide +kernel
theorem dX6_fillTable_148 : decode cX6_fillTable 148 = .ok (.goto (-127), 3) := by decide +kernel
theorem dX6_fillTable_151 : decode cX6_fillTable 151 = .ok (.return_, 1) := by decide +kernel
theorem dX6_compareProducts_0 : decode cX6_compareProducts 0 = .ok (.aload_n 0, 1) := by decide +kernel
theorem dX6_compareProducts_1 : decode cX6_compareProducts 1 = .ok (.iconst 0, 1) := by decide +kernel
theorem dX6_compareProducts_2 : decode cX6_compareProducts 2 = .ok (.putfield 69, 3) := by decide +kernel
theorem dX6_compareProducts_5 : decode cX6_compareProducts 5 = .ok (.iconst 0, 1) := by decide +kernel
theorem dX6_compareProducts_6 : decode cX6_compareProducts 6 = .ok (.istore_n 1, 1) := by decide +kernel
theorem dX6_compareProducts_7 : decode cX6_compareProducts 7 = .ok (.iload_n 1, 1) := by decide +kernel
theorem dX6_compareProducts_8 : decode cX6_compareProducts 8 = .ok (.aload_n 0, 1) := by decide +kernel
theorem dX6_compareProducts_9 : decode cX6_compareProducts 9 = .ok (.getfield 54, 3) := by decide +kernel
theorem dX6_compareProducts_12 : decode cX6_compareProducts 12 = .ok (.getfield 99, 3) := by decide +kernel
theorem dX6_compareProducts_15 : decode cX6_compareProducts 15 = .ok (.if_icmp .ge 76, 3) := by decide +kernel
theorem dX6_compareProducts_18 : decode cX6_compareProducts 18 = .ok (.iconst 0, 1) := by decide +kernel
theorem dX6_compareProducts_19 : decode cX6_compareProducts 19 = .ok (.istore_n 2, 1) := by decide +kernel
theorem dX6_compareProducts_20 : decode cX6_compareProducts 20 = .ok (.iload_n 2, 1) := by decide +kernel
theorem dX6_compareProducts_21 : decode cX6_compareProducts 21 = .ok (.aload_n 0, 1) := by decide +kernel
theorem dX6_compareProducts_22 : decode cX6_compareProducts 22 = .ok (.getfield 54, 3) := by decide +kernel
theorem dX6_compareProducts_25 : decode cX6_compareProducts 25 = .ok (.getfield 99, 3) := by decide +kernel
theorem dX6_compareProducts_28 : decode cX6_compareProducts 28 = .ok (.if_icmp .ge 57, 3) := by decide +kernel
theorem dX6_compareProducts_31 : decode cX6_compareProducts 31 = .ok (.aload_n 0, 1) := by decide +kernel
theorem dX6_compareProducts_32 : decode cX6_compareProducts 32 = .ok (.getfield 23, 3) := by decide +kernel
theorem dX6_compareProducts_35 : decode cX6_compareProducts 35 = .ok (.iload_n 2, 1) := by decide +kernel
theorem dX6_compareProducts_36 : decode cX6_compareProducts 36 = .ok (.iload_n 1, 1) := by decide +kernel
theorem dX6_compareProducts_37 : decode cX6_compareProducts 37 = .ok (.invokevirtual 65, 3) := by decide +kernel
theorem dX6_compareProducts_40 : decode cX6_compareProducts 40 = .ok (.aload_n 0, 1) := by decide +kernel
theorem dX6_compareProducts_41 : decode cX6_compareProducts 41 = .ok (.getfield 26, 3) := by decide +kernel
theorem dX6_compareProducts_44 : decode cX6_compareProducts 44 = .ok (.iload_n 2, 1) := by decide +kernel
theorem dX6_compareProducts_45 : decode cX6_compareProducts 45 = .ok (.iload_n 1, 1) := by decide +kernel
theorem dX6_compareProducts_46 : decode cX6_compareProducts 46 = .ok (.invokevirtual 65, 3) := by decide +kernel
theorem dX6_compareProducts_49 : decode cX6_compareProducts 49 = .ok (.if_icmp .eq 30, 3) := by decide +kernel
theorem dX6_compareProducts_52 : decode cX6_compareProducts 52 = .ok (.aload_n 0, 1) := by decide +kernel
theorem dX6_compareProducts_53 : decode cX6_compareProducts 53 = .ok (.getfield 69, 3) := by decide +kernel
theorem dX6_compareProducts_56 : decode cX6_compareProducts 56 = .ok (.ifCond .ne 13, 3) := by decide +kernel
theorem dX6_compareProducts_59 : decode cX6_compareProducts 59 = .ok (.aload_n 0, 1) := by decide +kernel
theorem dX6_compareProducts_60 : decode cX6_compareProducts 60 = .ok (.iload_n 1, 1) := by decide +kernel
theorem dX6_compareProducts_61 : decode cX6_compareProducts 61 = .ok (.putfield 73, 3) := by decide +kernel
theorem dX6_compareProducts_64 : decode cX6_compareProducts 64 = .ok (.aload_n 0, 1) := by decide +kernel
theorem dX6_compareProducts_65 : decode cX6_compareProducts 65 = .ok (.iload_n 2, 1) := by decide +kernel
theorem dX6_compareProducts_66 : decode cX6_compareProducts 66 = .ok (.putfield 76, 3) := by decide +kernel
theorem dX6_compareProducts_69 : decode cX6_compareProducts 69 = .ok (.aload_n 0, 1) := by decide +kernel
theorem dX6_compareProducts_70 : decode cX6_compareProducts 70 = .ok (.dup, 1) := by decide +kernel
theorem dX6_compareProducts_71 : decode cX6_compareProducts 71 = .ok (.getfield 69, 3) := by decide +kernel
theorem dX6_compareProducts_74 : decode cX6_compareProducts 74 = .ok (.iconst 1, 1) := by decide +kernel
theorem dX6_compareProducts_75 : decode cX6_compareProducts 75 = .ok (.iadd, 1) := by decide +kernel
theorem dX6_compareProducts_76 : decode cX6_compareProducts 76 = .ok (.putfield 69, 3) := by decide +kernel
theorem dX6_compareProducts_79 : decode cX6_compareProducts 79 = .ok (.iinc 2 1, 3) := by decide +kernel
theorem dX6_compareProducts_82 : decode cX6_compareProducts 82 = .ok (.goto (-62), 3) := by decide +kernel
theorem dX6_compareProducts_85 : decode cX6_compareProducts 85 = .ok (.iinc 1 1, 3) := by decide +kernel
theorem dX6_compareProducts_88 : decode cX6_compareProducts 88 = .ok (.goto (-81), 3) := by decide +kernel
theorem dX6_compareProducts_91 : decode cX6_compareProducts 91 = .ok (.return_, 1) := by decide +kernel
theorem dX6_traceOfPowers_0 : decode cX6_traceOfPowers 0 = .ok (.aload_n 0, 1) := by decide +kernel
theorem dX6_traceOfPowers_1 : decode cX6_traceOfPowers 1 = .ok (.invokevirtual 58, 3) := by decide +kernel
theorem dX6_traceOfPowers_4 : decode cX6_traceOfPowers 4 = .ok (.aload_n 0, 1) := by decide +kernel
theorem dX6_traceOfPowers_5 : decode cX6_traceOfPowers 5 = .ok (.aload_n 0, 1) := by decide +kernel
theorem dX6_traceOfPowers_6 : decode cX6_traceOfPowers 6 = .ok (.getfield 32, 3) := by decide +kernel
theorem dX6_traceOfPowers_9 : decode cX6_traceOfPowers 9 = .ok (.iconst 0, 1) := by decide +kernel
theorem dX6_traceOfPowers_10 : decode cX6_traceOfPowers 10 = .ok (.iconst 0, 1) := by decide +kernel
theorem dX6_traceOfPowers_11 : decode cX6_traceOfPowers 11 = .ok (.iload_n 1, 1) := by decide +kernel
theorem dX6_traceOfPowers_12 : decode cX6_traceOfPowers 12 = .ok (.invokevirtual 124, 3) := by decide +kernel
theorem dX6_traceOfPowers_15 : decode cX6_traceOfPowers 15 = .ok (.aload_n 0, 1) := by decide +kernel
theorem dX6_traceOfPowers_16 : decode cX6_traceOfPowers 16 = .ok (.aload_n 0, 1) := by decide +kernel
theorem dX6_traceOfPowers_17 : decode cX6_traceOfPowers 17 = .ok (.getfield 35, 3) := by decide +kernel
theorem dX6_traceOfPowers_20 : decode cX6_traceOfPowers 20 = .ok (.iconst 1, 1) := by decide +kernel
theorem dX6_traceOfPowers_21 : decode cX6_traceOfPowers 21 = .ok (.iconst 0, 1) := by decide +kernel
theorem dX6_traceOfPowers_22 : decode cX6_traceOfPowers 22 = .ok (.iload_n 2, 1) := by decide +kernel
theorem dX6_traceOfPowers_23 : decode cX6_traceOfPowers 23 = .ok (.invokevirtual 124, 3) := by decide +kernel
theorem dX6_traceOfPowers_26 : decode cX6_traceOfPowers 26 = .ok (.aload_n 0, 1) := by decide +kernel
theorem dX6_traceOfPowers_27 : decode cX6_traceOfPowers 27 = .ok (.getfield 32, 3) := by decide +kernel
theorem dX6_traceOfPowers_30 : decode cX6_traceOfPowers 30 = .ok (.aload_n 0, 1) := by decide +kernel
theorem dX6_traceOfPowers_31 : decode cX6_traceOfPowers 31 = .ok (.getfield 35, 3) := by decide +kernel
theorem dX6_traceOfPowers_34 : decode cX6_traceOfPowers 34 = .ok (.aload_n 0, 1) := by decide +kernel
theorem dX6_traceOfPowers_35 : decode cX6_traceOfPowers 35 = .ok (.getfield 54, 3) := by decide +kernel
theorem dX6_traceOfPowers_38 : decode cX6_traceOfPowers 38 = .ok (.getfield 87, 3) := by decide +kernel
theorem dX6_traceOfPowers_41 : decode cX6_traceOfPowers 41 = .ok (.invokevirtual 128, 3) := by decide +kernel
theorem dX6_traceOfPowers_44 : decode cX6_traceOfPowers 44 = .ok (.ireturn, 1) := by decide +kernel
theorem dX6_raise_0 : decode cX6_raise 0 = .ok (.aload_n 0, 1) := by decide +kernel
theorem dX6_raise_1 : decode cX6_raise 1 = .ok (.getfield 29, 3) := by decide +kernel
theorem dX6_raise_4 : decode cX6_raise 4 = .ok (.aload_n 0, 1) := by decide +kernel
theorem dX6_raise_5 : decode cX6_raise 5 = .ok (.iload_n 2, 1) := by decide +kernel
theorem dX6_raise_6 : decode cX6_raise 6 = .ok (.invokevirtual 61, 3) := by decide +kernel
theorem dX6_raise_9 : decode cX6_raise 9 = .ok (.iload_n 3, 1) := by decide +kernel
theorem dX6_raise_10 : decode cX6_raise 10 = .ok (.aload_n 0, 1) := by decide +kernel
theorem dX6_raise_11 : decode cX6_raise 11 = .ok (.getfield 54, 3) := by decide +kernel
theorem dX6_raise_14 : decode cX6_raise 14 = .ok (.getfield 87, 3) := by decide +kernel
theorem dX6_raise_17 : decode cX6_raise 17 = .ok (.invokevirtual 132, 3) := by decide +kernel
theorem dX6_raise_20 : decode cX6_raise 20 = .ok (.aload_n 1, 1) := by decide +kernel
theorem dX6_raise_21 : decode cX6_raise 21 = .ok (.aload_n 0, 1) := by decide +kernel
theorem dX6_raise_22 : decode cX6_raise 22 = .ok (.getfield 29, 3) := by decide +kernel
theorem dX6_raise_25 : decode cX6_raise 25 = .ok (.iload 4, 2) := by decide +kernel
theorem dX6_raise_27 : decode cX6_raise 27 = .ok (.aload_n 0, 1) := by decide +kernel
theorem dX6_raise_28 : decode cX6_raise 28 = .ok (.getfield 38, 3) := by decide +kernel
theorem dX6_raise_31 : decode cX6_raise 31 = .ok (.aload_n 0, 1) := by decide +kernel
theorem dX6_raise_32 : decode cX6_raise 32 = .ok (.getfield 54, 3) := by decide +kernel
theorem dX6_raise_35 : decode cX6_raise 35 = .ok (.getfield 87, 3) := by decide +kernel
theorem dX6_raise_38 : decode cX6_raise 38 = .ok (.invokevirtual 135, 3) := by decide +kernel
theorem dX6_raise_41 : decode cX6_raise 41 = .ok (.return_, 1) := by decide +kernel
theorem dX6_normalFormOfMonomial_0 : decode cX6_normalFormOfMonomial 0 = .ok (.aload_n 3, 1) := by decide +kernel
theorem dX6_normalFormOfMonomial_1 : decode cX6_normalFormOfMonomial 1 = .ok (.iconst 0, 1) := by decide +kernel
theorem dX6_normalFormOfMonomial_2 : decode cX6_normalFormOfMonomial 2 = .ok (.invokestatic 139, 3) := by decide +kernel
theorem dX6_normalFormOfMonomial_5 : decode cX6_normalFormOfMonomial 5 = .ok (.aload_n 3, 1) := by decide +kernel
theorem dX6_normalFormOfMonomial_6 : decode cX6_normalFormOfMonomial 6 = .ok (.arraylength, 1) := by decide +kernel
theorem dX6_normalFormOfMonomial_7 : decode cX6_normalFormOfMonomial 7 = .ok (.ifCond .le 7, 3) := by decide +kernel
theorem dX6_normalFormOfMonomial_10 : decode cX6_normalFormOfMonomial 10 = .ok (.aload_n 3, 1) := by decide +kernel
theorem dX6_normalFormOfMonomial_11 : decode cX6_normalFormOfMonomial 11 = .ok (.iconst 0, 1) := by decide +kernel
theorem dX6_normalFormOfMonomial_12 : decode cX6_normalFormOfMonomial 12 = .ok (.iconst 1, 1) := by decide +kernel
theorem dX6_normalFormOfMonomial_13 : decode cX6_normalFormOfMonomial 13 = .ok (.iastore, 1) := by decide +kernel
theorem dX6_normalFormOfMonomial_14 : decode cX6_normalFormOfMonomial 14 = .ok (.iconst 0, 1) := by decide +kernel
theorem dX6_normalFormOfMonomial_15 : decode cX6_normalFormOfMonomial 15 = .ok (.istore 4, 2) := by decide +kernel
theorem dX6_normalFormOfMonomial_17 : decode cX6_normalFormOfMonomial 17 = .ok (.iload 4, 2) := by decide +kernel
theorem dX6_normalFormOfMonomial_19 : decode cX6_normalFormOfMonomial 19 = .ok (.iload_n 2, 1) := by decide +kernel
theorem dX6_normalFormOfMonomial_20 : decode cX6_normalFormOfMonomial 20 = .ok (.if_icmp .ge 28, 3) := by decide +kernel
theorem dX6_normalFormOfMonomial_23 : decode cX6_normalFormOfMonomial 23 = .ok (.aload_n 0, 1) := by decide +kernel
theorem dX6_normalFormOfMonomial_24 : decode cX6_normalFormOfMonomial 24 = .ok (.getfield 20, 3) := by decide +kernel
theorem dX6_normalFormOfMonomial_27 : decode cX6_normalFormOfMonomial 27 = .ok (.aload_n 3, 1) := by decide +kernel
theorem dX6_normalFormOfMonomial_28 : decode cX6_normalFormOfMonomial 28 = .ok (.aload_n 0, 1) := by decide +kernel
theorem dX6_normalFormOfMonomial_29 : decode cX6_normalFormOfMonomial 29 = .ok (.getfield 48, 3) := by decide +kernel
theorem dX6_normalFormOfMonomial_32 : decode cX6_normalFormOfMonomial 32 = .ok (.aload_n 0, 1) := by decide +kernel
theorem dX6_normalFormOfMonomial_33 : decode cX6_normalFormOfMonomial 33 = .ok (.getfield 54, 3) := by decide +kernel
theorem dX6_normalFormOfMonomial_36 : decode cX6_normalFormOfMonomial 36 = .ok (.getfield 87, 3) := by decide +kernel
theorem dX6_normalFormOfMonomial_39 : decode cX6_normalFormOfMonomial 39 = .ok (.invokevirtual 145, 3) := by decide +kernel
theorem dX6_normalFormOfMonomial_42 : decode cX6_normalFormOfMonomial 42 = .ok (.iinc 4 1, 3) := by decide +kernel
theorem dX6_normalFormOfMonomial_45 : decode cX6_normalFormOfMonomial 45 = .ok (.goto (-28), 3) := by decide +kernel
theorem dX6_normalFormOfMonomial_48 : decode cX6_normalFormOfMonomial 48 = .ok (.iconst 0, 1) := by decide +kernel
theorem dX6_normalFormOfMonomial_49 : decode cX6_normalFormOfMonomial 49 = .ok (.istore 4, 2) := by decide +kernel
theorem dX6_normalFormOfMonomial_51 : decode cX6_normalFormOfMonomial 51 = .ok (.iload 4, 2) := by decide +kernel
theorem dX6_normalFormOfMonomial_53 : decode cX6_normalFormOfMonomial 53 = .ok (.iload_n 1, 1) := by decide +kernel
theorem dX6_normalFormOfMonomial_54 : decode cX6_normalFormOfMonomial 54 = .ok (.if_icmp .ge 28, 3) := by decide +kernel
theorem dX6_normalFormOfMonomial_57 : decode cX6_normalFormOfMonomial 57 = .ok (.aload_n 0, 1) := by decide +kernel
theorem dX6_normalFormOfMonomial_58 : decode cX6_normalFormOfMonomial 58 = .ok (.getfield 14, 3) := by decide +kernel
theorem dX6_normalFormOfMonomial_61 : decode cX6_normalFormOfMonomial 61 = .ok (.aload_n 3, 1) := by decide +kernel
theorem dX6_normalFormOfMonomial_62 : decode cX6_normalFormOfMonomial 62 = .ok (.aload_n 0, 1) := by decide +kernel
theorem dX6_normalFormOfMonomial_63 : decode cX6_normalFormOfMonomial 63 = .ok (.getfield 48, 3) := by decide +kernel
theorem dX6_normalFormOfMonomial_66 : decode cX6_normalFormOfMonomial 66 = .ok (.aload_n 0, 1) := by decide +kernel
theorem dX6_normalFormOfMonomial_67 : decode cX6_normalFormOfMonomial 67 = .ok (.getfield 54, 3) := by decide +kernel
theorem dX6_normalFormOfMonomial_70 : decode cX6_normalFormOfMonomial 70 = .ok (.getfield 87, 3) := by decide +kernel
theorem dX6_normalFormOfMonomial_73 : decode cX6_normalFormOfMonomial 73 = .ok (.invokevirtual 145, 3) := by decide +kernel
theorem dX6_normalFormOfMonomial_76 : decode cX6_normalFormOfMonomial 76 = .ok (.iinc 4 1, 3) := by decide +kernel
theorem dX6_normalFormOfMonomial_79 : decode cX6_normalFormOfMonomial 79 = .ok (.goto (-28), 3) := by decide +kernel
theorem dX6_normalFormOfMonomial_82 : decode cX6_normalFormOfMonomial 82 = .ok (.return_, 1) := by decide +kernel
theorem dX6_normalFormOf_0 : decode cX6_normalFormOf 0 = .ok (.aload_n 0, 1) := by decide +kernel
theorem dX6_normalFormOf_1 : decode cX6_normalFormOf 1 = .ok (.invokevirtual 58, 3) := by decide +kernel
theorem dX6_normalFormOf_4 : decode cX6_normalFormOf 4 = .ok (.aload_n 0, 1) := by decide +kernel
theorem dX6_normalFormOf_5 : decode cX6_normalFormOf 5 = .ok (.invokevirtual 149, 3) := by decide +kernel
theorem dX6_normalFormOf_8 : decode cX6_normalFormOf 8 = .ok (.aload_n 2, 1) := by decide +kernel
theorem dX6_normalFormOf_9 : decode cX6_normalFormOf 9 = .ok (.iconst 0, 1) := by decide +kernel
theorem dX6_normalFormOf_10 : decode cX6_normalFormOf 10 = .ok (.invokestatic 139, 3) := by decide +kernel
theorem dX6_normalFormOf_13 : decode cX6_normalFormOf 13 = .ok (.bipush 20, 2) := by decide +kernel
theorem dX6_normalFormOf_15 : decode cX6_normalFormOf 15 = .ok (.istore_n 3, 1) := by decide +kernel
theorem dX6_normalFormOf_16 : decode cX6_normalFormOf 16 = .ok (.iload_n 3, 1) := by decide +kernel
theorem dX6_normalFormOf_17 : decode cX6_normalFormOf 17 = .ok (.ifCond .lt 78, 3) := by decide +kernel
theorem dX6_normalFormOf_20 : decode cX6_normalFormOf 20 = .ok (.aload_n 0, 1) := by decide +kernel
theorem dX6_normalFormOf_21 : decode cX6_normalFormOf 21 = .ok (.getfield 14, 3) := by decide +kernel
theorem dX6_normalFormOf_24 : decode cX6_normalFormOf 24 = .ok (.aload_n 2, 1) := by decide +kernel
theorem dX6_normalFormOf_25 : decode cX6_normalFormOf 25 = .ok (.aload_n 0, 1) := by decide +kernel
theorem dX6_normalFormOf_26 : decode cX6_normalFormOf 26 = .ok (.getfield 48, 3) := by decide +kernel
theorem dX6_normalFormOf_29 : decode cX6_normalFormOf 29 = .ok (.aload_n 0, 1) := by decide +kernel
theorem dX6_normalFormOf_30 : decode cX6_normalFormOf 30 = .ok (.getfield 54, 3) := by decide +kernel
theorem dX6_normalFormOf_33 : decode cX6_normalFormOf 33 = .ok (.getfield 87, 3) := by decide +kernel
theorem dX6_normalFormOf_36 : decode cX6_normalFormOf 36 = .ok (.invokevirtual 145, 3) := by decide +kernel
theorem dX6_normalFormOf_39 : decode cX6_normalFormOf 39 = .ok (.iconst 0, 1) := by decide +kernel
theorem dX6_normalFormOf_40 : decode cX6_normalFormOf 40 = .ok (.istore 4, 2) := by decide +kernel
theorem dX6_normalFormOf_42 : decode cX6_normalFormOf 42 = .ok (.iload 4, 2) := by decide +kernel
theorem dX6_normalFormOf_44 : decode cX6_normalFormOf 44 = .ok (.bipush 20, 2) := by decide +kernel
theorem dX6_normalFormOf_46 : decode cX6_normalFormOf 46 = .ok (.if_icmp .gt 43, 3) := by decide +kernel
theorem dX6_normalFormOf_49 : decode cX6_normalFormOf 49 = .ok (.iload_n 3, 1) := by decide +kernel
theorem dX6_normalFormOf_50 : decode cX6_normalFormOf 50 = .ok (.bipush 21, 2) := by decide +kernel
theorem dX6_normalFormOf_52 : decode cX6_normalFormOf 52 = .ok (.imul, 1) := by decide +kernel
theorem dX6_normalFormOf_53 : decode cX6_normalFormOf 53 = .ok (.iload 4, 2) := by decide +kernel
theorem dX6_normalFormOf_55 : decode cX6_normalFormOf 55 = .ok (.iadd, 1) := by decide +kernel
theorem dX6_normalFormOf_56 : decode cX6_normalFormOf 56 = .ok (.istore 5, 2) := by decide +kernel
theorem dX6_normalFormOf_58 : decode cX6_normalFormOf 58 = .ok (.iload 5, 2) := by decide +kernel
theorem dX6_normalFormOf_60 : decode cX6_normalFormOf 60 = .ok (.aload_n 1, 1) := by decide +kernel
theorem dX6_normalFormOf_61 : decode cX6_normalFormOf 61 = .ok (.arraylength, 1) := by decide +kernel
theorem dX6_normalFormOf_62 : decode cX6_normalFormOf 62 = .ok (.if_icmp .ge 21, 3) := by decide +kernel
theorem dX6_normalFormOf_65 : decode cX6_normalFormOf 65 = .ok (.aload_n 1, 1) := by decide +kernel
theorem dX6_normalFormOf_66 : decode cX6_normalFormOf 66 = .ok (.iload 5, 2) := by decide +kernel
theorem dX6_normalFormOf_68 : decode cX6_normalFormOf 68 = .ok (.iaload, 1) := by decide +kernel
theorem dX6_normalFormOf_69 : decode cX6_normalFormOf 69 = .ok (.ifCond .eq 14, 3) := by decide +kernel
theorem dX6_normalFormOf_72 : decode cX6_normalFormOf 72 = .ok (.aload_n 0, 1) := by decide +kernel
theorem dX6_normalFormOf_73 : decode cX6_normalFormOf 73 = .ok (.aload_n 2, 1) := by decide +kernel
theorem dX6_normalFormOf_74 : decode cX6_normalFormOf 74 = .ok (.aload_n 1, 1) := by decide +kernel
theorem dX6_normalFormOf_75 : decode cX6_normalFormOf 75 = .ok (.iload 5, 2) := by decide +kernel
theorem dX6_normalFormOf_77 : decode cX6_normalFormOf 77 = .ok (.iaload, 1) := by decide +kernel
theorem dX6_normalFormOf_78 : decode cX6_normalFormOf 78 = .ok (.iload 4, 2) := by decide +kernel
theorem dX6_normalFormOf_80 : decode cX6_normalFormOf 80 = .ok (.invokevirtual 152, 3) := by decide +kernel
theorem dX6_normalFormOf_83 : decode cX6_normalFormOf 83 = .ok (.iinc 4 1, 3) := by decide +kernel
theorem dX6_normalFormOf_86 : decode cX6_normalFormOf 86 = .ok (.goto (-44), 3) := by decide +kernel
theorem dX6_normalFormOf_89 : decode cX6_normalFormOf 89 = .ok (.iinc 3 (-1), 3) := by decide +kernel
theorem dX6_normalFormOf_92 : decode cX6_normalFormOf 92 = .ok (.goto (-76), 3) := by decide +kernel
theorem dX6_normalFormOf_95 : decode cX6_normalFormOf 95 = .ok (.return_, 1) := by decide +kernel
theorem dX6_listFormsY_0 : decode cX6_listFormsY 0 = .ok (.aload_n 0, 1) := by decide +kernel
theorem dX6_listFormsY_1 : decode cX6_listFormsY 1 = .ok (.getfield 51, 3) := by decide +kernel
theorem dX6_listFormsY_4 : decode cX6_listFormsY 4 = .ok (.bipush 21, 2) := by decide +kernel
theorem dX6_listFormsY_6 : decode cX6_listFormsY 6 = .ok (.aload_n 0, 1) := by decide +kernel
theorem dX6_listFormsY_7 : decode cX6_listFormsY 7 = .ok (.getfield 54, 3) := by decide +kernel
theorem dX6_listFormsY_10 : decode cX6_listFormsY 10 = .ok (.getfield 99, 3) := by decide +kernel
theorem dX6_listFormsY_13 : decode cX6_listFormsY 13 = .ok (.invokevirtual 102, 3) := by decide +kernel
theorem dX6_listFormsY_16 : decode cX6_listFormsY 16 = .ok (.aload_n 0, 1) := by decide +kernel
theorem dX6_listFormsY_17 : decode cX6_listFormsY 17 = .ok (.iconst 0, 1) := by decide +kernel
theorem dX6_listFormsY_18 : decode cX6_listFormsY 18 = .ok (.iconst 0, 1) := by decide +kernel
theorem dX6_listFormsY_19 : decode cX6_listFormsY 19 = .ok (.aload_n 0, 1) := by decide +kernel
theorem dX6_listFormsY_20 : decode cX6_listFormsY 20 = .ok (.getfield 44, 3) := by decide +kernel
theorem dX6_listFormsY_23 : decode cX6_listFormsY 23 = .ok (.invokevirtual 156, 3) := by decide +kernel
theorem dX6_listFormsY_26 : decode cX6_listFormsY 26 = .ok (.iconst 0, 1) := by decide +kernel
theorem dX6_listFormsY_27 : decode cX6_listFormsY 27 = .ok (.istore_n 1, 1) := by decide +kernel
theorem dX6_listFormsY_28 : decode cX6_listFormsY 28 = .ok (.iload_n 1, 1) := by decide +kernel
theorem dX6_listFormsY_29 : decode cX6_listFormsY 29 = .ok (.bipush 20, 2) := by decide +kernel
theorem dX6_listFormsY_31 : decode cX6_listFormsY 31 = .ok (.if_icmp .gt 65, 3) := by decide +kernel
theorem dX6_listFormsY_34 : decode cX6_listFormsY 34 = .ok (.iconst 0, 1) := by decide +kernel
theorem dX6_listFormsY_35 : decode cX6_listFormsY 35 = .ok (.istore_n 2, 1) := by decide +kernel
theorem dX6_listFormsY_36 : decode cX6_listFormsY 36 = .ok (.iload_n 2, 1) := by decide +kernel
theorem dX6_listFormsY_37 : decode cX6_listFormsY 37 = .ok (.aload_n 0, 1) := by decide +kernel
theorem dX6_listFormsY_38 : decode cX6_listFormsY 38 = .ok (.getfield 54, 3) := by decide +kernel
theorem dX6_listFormsY_41 : decode cX6_listFormsY 41 = .ok (.getfield 99, 3) := by decide +kernel
theorem dX6_listFormsY_44 : decode cX6_listFormsY 44 = .ok (.if_icmp .ge 24, 3) := by decide +kernel
theorem dX6_listFormsY_47 : decode cX6_listFormsY 47 = .ok (.aload_n 0, 1) := by decide +kernel
theorem dX6_listFormsY_48 : decode cX6_listFormsY 48 = .ok (.getfield 51, 3) := by decide +kernel
theorem dX6_listFormsY_51 : decode cX6_listFormsY 51 = .ok (.iload_n 1, 1) := by decide +kernel
theorem dX6_listFormsY_52 : decode cX6_listFormsY 52 = .ok (.iload_n 2, 1) := by decide +kernel
theorem dX6_listFormsY_53 : decode cX6_listFormsY 53 = .ok (.aload_n 0, 1) := by decide +kernel
theorem dX6_listFormsY_54 : decode cX6_listFormsY 54 = .ok (.getfield 44, 3) := by decide +kernel
theorem dX6_listFormsY_57 : decode cX6_listFormsY 57 = .ok (.iload_n 2, 1) := by decide +kernel
theorem dX6_listFormsY_58 : decode cX6_listFormsY 58 = .ok (.iaload, 1) := by decide +kernel
theorem dX6_listFormsY_59 : decode cX6_listFormsY 59 = .ok (.invokevirtual 114, 3) := by decide +kernel
theorem dX6_listFormsY_62 : decode cX6_listFormsY 62 = .ok (.iinc 2 1, 3) := by decide +kernel
theorem dX6_listFormsY_65 : decode cX6_listFormsY 65 = .ok (.goto (-29), 3) := by decide +kernel
theorem dX6_listFormsY_68 : decode cX6_listFormsY 68 = .ok (.aload_n 0, 1) := by decide +kernel
theorem dX6_listFormsY_69 : decode cX6_listFormsY 69 = .ok (.getfield 20, 3) := by decide +kernel
theorem dX6_listFormsY_72 : decode cX6_listFormsY 72 = .ok (.aload_n 0, 1) := by decide +kernel
theorem dX6_listFormsY_73 : decode cX6_listFormsY 73 = .ok (.getfield 44, 3) := by decide +kernel
theorem dX6_listFormsY_76 : decode cX6_listFormsY 76 = .ok (.aload_n 0, 1) := by decide +kernel
theorem dX6_listFormsY_77 : decode cX6_listFormsY 77 = .ok (.getfield 48, 3) := by decide +kernel
theorem dX6_listFormsY_80 : decode cX6_listFormsY 80 = .ok (.aload_n 0, 1) := by decide +kernel
theorem dX6_listFormsY_81 : decode cX6_listFormsY 81 = .ok (.getfield 54, 3) := by decide +kernel
theorem dX6_listFormsY_84 : decode cX6_listFormsY 84 = .ok (.getfield 87, 3) := by decide +kernel
theorem dX6_listFormsY_87 : decode cX6_listFormsY 87 = .ok (.invokevirtual 145, 3) := by decide +kernel
theorem dX6_listFormsY_90 : decode cX6_listFormsY 90 = .ok (.iinc 1 1, 3) := by decide +kernel
theorem dX6_listFormsY_93 : decode cX6_listFormsY 93 = .ok (.goto (-65), 3) := by decide +kernel
theorem dX6_listFormsY_96 : decode cX6_listFormsY 96 = .ok (.return_, 1) := by decide +kernel
theorem dX6_addForm_0 : decode cX6_addForm 0 = .ok (.iconst 0, 1) := by decide +kernel
theorem dX6_addForm_1 : decode cX6_addForm 1 = .ok (.istore 4, 2) := by decide +kernel
theorem dX6_addForm_3 : decode cX6_addForm 3 = .ok (.iload 4, 2) := by decide +kernel
theorem dX6_addForm_5 : decode cX6_addForm 5 = .ok (.aload_n 0, 1) := by decide +kernel
theorem dX6_addForm_6 : decode cX6_addForm 6 = .ok (.getfield 54, 3) := by decide +kernel
theorem dX6_addForm_9 : decode cX6_addForm 9 = .ok (.getfield 99, 3) := by decide +kernel
theorem dX6_addForm_12 : decode cX6_addForm 12 = .ok (.if_icmp .ge 47, 3) := by decide +kernel
theorem dX6_addForm_15 : decode cX6_addForm 15 = .ok (.iload 4, 2) := by decide +kernel
theorem dX6_addForm_17 : decode cX6_addForm 17 = .ok (.aload_n 1, 1) := by decide +kernel
theorem dX6_addForm_18 : decode cX6_addForm 18 = .ok (.arraylength, 1) := by decide +kernel
theorem dX6_addForm_19 : decode cX6_addForm 19 = .ok (.if_icmp .ge 40, 3) := by decide +kernel
theorem dX6_addForm_22 : decode cX6_addForm 22 = .ok (.aload_n 1, 1) := by decide +kernel
theorem dX6_addForm_23 : decode cX6_addForm 23 = .ok (.iload 4, 2) := by decide +kernel
theorem dX6_addForm_25 : decode cX6_addForm 25 = .ok (.aload_n 1, 1) := by decide +kernel
theorem dX6_addForm_26 : decode cX6_addForm 26 = .ok (.iload 4, 2) := by decide +kernel
theorem dX6_addForm_28 : decode cX6_addForm 28 = .ok (.iaload, 1) := by decide +kernel
theorem dX6_addForm_29 : decode cX6_addForm 29 = .ok (.iload_n 2, 1) := by decide +kernel
theorem dX6_addForm_30 : decode cX6_addForm 30 = .ok (.aload_n 0, 1) := by decide +kernel
theorem dX6_addForm_31 : decode cX6_addForm 31 = .ok (.getfield 51, 3) := by decide +kernel
theorem dX6_addForm_34 : decode cX6_addForm 34 = .ok (.iload_n 3, 1) := by decide +kernel
theorem dX6_addForm_35 : decode cX6_addForm 35 = .ok (.iload 4, 2) := by decide +kernel
theorem dX6_addForm_37 : decode cX6_addForm 37 = .ok (.invokevirtual 65, 3) := by decide +kernel
theorem dX6_addForm_40 : decode cX6_addForm 40 = .ok (.imul, 1) := by decide +kernel
theorem dX6_addForm_41 : decode cX6_addForm 41 = .ok (.iadd, 1) := by decide +kernel
theorem dX6_addForm_42 : decode cX6_addForm 42 = .ok (.aload_n 0, 1) := by decide +kernel
theorem dX6_addForm_43 : decode cX6_addForm 43 = .ok (.getfield 54, 3) := by decide +kernel
theorem dX6_addForm_46 : decode cX6_addForm 46 = .ok (.getfield 87, 3) := by decide +kernel
theorem dX6_addForm_49 : decode cX6_addForm 49 = .ok (.invokestatic 160, 3) := by decide +kernel
theorem dX6_addForm_52 : decode cX6_addForm 52 = .ok (.iastore, 1) := by decide +kernel
theorem dX6_addForm_53 : decode cX6_addForm 53 = .ok (.iinc 4 1, 3) := by decide +kernel
theorem dX6_addForm_56 : decode cX6_addForm 56 = .ok (.goto (-53), 3) := by decide +kernel
theorem dX6_addForm_59 : decode cX6_addForm 59 = .ok (.return_, 1) := by decide +kernel
theorem dX6_determinantOf_0 : decode cX6_determinantOf 0 = .ok (.aload_n 0, 1) := by decide +kernel
theorem dX6_determinantOf_1 : decode cX6_determinantOf 1 = .ok (.invokevirtual 58, 3) := by decide +kernel
theorem dX6_determinantOf_4 : decode cX6_determinantOf 4 = .ok (.aload_n 0, 1) := by decide +kernel
theorem dX6_determinantOf_5 : decode cX6_determinantOf 5 = .ok (.getfield 29, 3) := by decide +kernel
theorem dX6_determinantOf_8 : decode cX6_determinantOf 8 = .ok (.aload_n 0, 1) := by decide +kernel
theorem dX6_determinantOf_9 : decode cX6_determinantOf 9 = .ok (.iload_n 1, 1) := by decide +kernel
theorem dX6_determinantOf_10 : decode cX6_determinantOf 10 = .ok (.invokevirtual 61, 3) := by decide +kernel
theorem dX6_determinantOf_13 : decode cX6_determinantOf 13 = .ok (.iconst 0, 1) := by decide +kernel
theorem dX6_determinantOf_14 : decode cX6_determinantOf 14 = .ok (.aload_n 0, 1) := by decide +kernel
theorem dX6_determinantOf_15 : decode cX6_determinantOf 15 = .ok (.getfield 54, 3) := by decide +kernel
theorem dX6_determinantOf_18 : decode cX6_determinantOf 18 = .ok (.getfield 87, 3) := by decide +kernel
theorem dX6_determinantOf_21 : decode cX6_determinantOf 21 = .ok (.invokevirtual 132, 3) := by decide +kernel
theorem dX6_determinantOf_24 : decode cX6_determinantOf 24 = .ok (.aload_n 0, 1) := by decide +kernel
theorem dX6_determinantOf_25 : decode cX6_determinantOf 25 = .ok (.getfield 29, 3) := by decide +kernel
theorem dX6_determinantOf_28 : decode cX6_determinantOf 28 = .ok (.aload_n 0, 1) := by decide +kernel
theorem dX6_determinantOf_29 : decode cX6_determinantOf 29 = .ok (.getfield 54, 3) := by decide +kernel
theorem dX6_determinantOf_32 : decode cX6_determinantOf 32 = .ok (.getfield 87, 3) := by decide +kernel
theorem dX6_determinantOf_35 : decode cX6_determinantOf 35 = .ok (.invokevirtual 163, 3) := by decide +kernel
theorem dX6_determinantOf_38 : decode cX6_determinantOf 38 = .ok (.pop, 1) := by decide +kernel
theorem dX6_determinantOf_39 : decode cX6_determinantOf 39 = .ok (.aload_n 0, 1) := by decide +kernel
theorem dX6_determinantOf_40 : decode cX6_determinantOf 40 = .ok (.getfield 29, 3) := by decide +kernel
theorem dX6_determinantOf_43 : decode cX6_determinantOf 43 = .ok (.getfield 167, 3) := by decide +kernel
theorem dX6_determinantOf_46 : decode cX6_determinantOf 46 = .ok (.ireturn, 1) := by decide +kernel
theorem dX6_nullityOf_0 : decode cX6_nullityOf 0 = .ok (.aload_n 0, 1) := by decide +kernel
theorem dX6_nullityOf_1 : decode cX6_nullityOf 1 = .ok (.invokevirtual 58, 3) := by decide +kernel
theorem dX6_nullityOf_4 : decode cX6_nullityOf 4 = .ok (.aload_n 0, 1) := by decide +kernel
theorem dX6_nullityOf_5 : decode cX6_nullityOf 5 = .ok (.getfield 29, 3) := by decide +kernel
theorem dX6_nullityOf_8 : decode cX6_nullityOf 8 = .ok (.aload_n 0, 1) := by decide +kernel
theorem dX6_nullityOf_9 : decode cX6_nullityOf 9 = .ok (.iload_n 1, 1) := by decide +kernel
theorem dX6_nullityOf_10 : decode cX6_nullityOf 10 = .ok (.invokevirtual 61, 3) := by decide +kernel
theorem dX6_nullityOf_13 : decode cX6_nullityOf 13 = .ok (.iload_n 2, 1) := by decide +kernel
theorem dX6_nullityOf_14 : decode cX6_nullityOf 14 = .ok (.aload_n 0, 1) := by decide +kernel
theorem dX6_nullityOf_15 : decode cX6_nullityOf 15 = .ok (.getfield 54, 3) := by decide +kernel
theorem dX6_nullityOf_18 : decode cX6_nullityOf 18 = .ok (.getfield 87, 3) := by decide +kernel
theorem dX6_nullityOf_21 : decode cX6_nullityOf 21 = .ok (.invokevirtual 132, 3) := by decide +kernel
theorem dX6_nullityOf_24 : decode cX6_nullityOf 24 = .ok (.aload_n 0, 1) := by decide +kernel
theorem dX6_nullityOf_25 : decode cX6_nullityOf 25 = .ok (.getfield 54, 3) := by decide +kernel
theorem dX6_nullityOf_28 : decode cX6_nullityOf 28 = .ok (.getfield 99, 3) := by decide +kernel
theorem dX6_nullityOf_31 : decode cX6_nullityOf 31 = .ok (.aload_n 0, 1) := by decide +kernel
theorem dX6_nullityOf_32 : decode cX6_nullityOf 32 = .ok (.getfield 29, 3) := by decide +kernel
theorem dX6_nullityOf_35 : decode cX6_nullityOf 35 = .ok (.aload_n 0, 1) := by decide +kernel
theorem dX6_nullityOf_36 : decode cX6_nullityOf 36 = .ok (.getfield 54, 3) := by decide +kernel
theorem dX6_nullityOf_39 : decode cX6_nullityOf 39 = .ok (.getfield 87, 3) := by decide +kernel
theorem dX6_nullityOf_42 : decode cX6_nullityOf 42 = .ok (.invokevirtual 163, 3) := by decide +kernel
theorem dX6_nullityOf_45 : decode cX6_nullityOf 45 = .ok (.isub, 1) := by decide +kernel
theorem dX6_nullityOf_46 : decode cX6_nullityOf 46 = .ok (.ireturn, 1) := by decide +kernel
theorem dX6_markRoots_0 : decode cX6_markRoots 0 = .ok (.aload_n 0, 1) := by decide +kernel
theorem dX6_markRoots_1 : decode cX6_markRoots 1 = .ok (.iload_n 1, 1) := by decide +kernel
theorem dX6_markRoots_2 : decode cX6_markRoots 2 = .ok (.invokevirtual 61, 3) := by decide +kernel
theorem dX6_markRoots_5 : decode cX6_markRoots 5 = .ok (.astore_n 3, 1) := by decide +kernel
theorem dX6_markRoots_6 : decode cX6_markRoots 6 = .ok (.aload_n 0, 1) := by decide +kernel
theorem dX6_markRoots_7 : decode cX6_markRoots 7 = .ok (.getfield 41, 3) := by decide +kernel
theorem dX6_markRoots_10 : decode cX6_markRoots 10 = .ok (.aload_n 0, 1) := by decide +kernel
theorem dX6_markRoots_11 : decode cX6_markRoots 11 = .ok (.getfield 54, 3) := by decide +kernel
theorem dX6_markRoots_14 : decode cX6_markRoots 14 = .ok (.getfield 99, 3) := by decide +kernel
theorem dX6_markRoots_17 : decode cX6_markRoots 17 = .ok (.aload_n 0, 1) := by decide +kernel
theorem dX6_markRoots_18 : decode cX6_markRoots 18 = .ok (.getfield 54, 3) := by decide +kernel
theorem dX6_markRoots_21 : decode cX6_markRoots 21 = .ok (.getfield 99, 3) := by decide +kernel
theorem dX6_markRoots_24 : decode cX6_markRoots 24 = .ok (.iconst 1, 1) := by decide +kernel
theorem dX6_markRoots_25 : decode cX6_markRoots 25 = .ok (.iadd, 1) := by decide +kernel
theorem dX6_markRoots_26 : decode cX6_markRoots 26 = .ok (.invokevirtual 102, 3) := by decide +kernel
theorem dX6_markRoots_29 : decode cX6_markRoots 29 = .ok (.aload_n 0, 1) := by decide +kernel
theorem dX6_markRoots_30 : decode cX6_markRoots 30 = .ok (.iconst 0, 1) := by decide +kernel
theorem dX6_markRoots_31 : decode cX6_markRoots 31 = .ok (.iconst 0, 1) := by decide +kernel
theorem dX6_markRoots_32 : decode cX6_markRoots 32 = .ok (.aload_n 0, 1) := by decide +kernel
theorem dX6_markRoots_33 : decode cX6_markRoots 33 = .ok (.getfield 44, 3) := by decide +kernel
theorem dX6_markRoots_36 : decode cX6_markRoots 36 = .ok (.invokevirtual 156, 3) := by decide +kernel
theorem dX6_markRoots_39 : decode cX6_markRoots 39 = .ok (.iconst 0, 1) := by decide +kernel
theorem dX6_markRoots_40 : decode cX6_markRoots 40 = .ok (.istore 4, 2) := by decide +kernel
theorem dX6_markRoots_42 : decode cX6_markRoots 42 = .ok (.iload 4, 2) := by decide +kernel
theorem dX6_markRoots_44 : decode cX6_markRoots 44 = .ok (.aload_n 0, 1) := by decide +kernel
theorem dX6_markRoots_45 : decode cX6_markRoots 45 = .ok (.getfield 54, 3) := by decide +kernel
theorem dX6_markRoots_48 : decode cX6_markRoots 48 = .ok (.getfield 99, 3) := by decide +kernel
theorem dX6_markRoots_51 : decode cX6_markRoots 51 = .ok (.if_icmp .gt 67, 3) := by decide +kernel
theorem dX6_markRoots_54 : decode cX6_markRoots 54 = .ok (.iconst 0, 1) := by decide +kernel
theorem dX6_markRoots_55 : decode cX6_markRoots 55 = .ok (.istore 5, 2) := by decide +kernel
theorem dX6_markRoots_57 : decode cX6_markRoots 57 = .ok (.iload 5, 2) := by decide +kernel
theorem dX6_markRoots_59 : decode cX6_markRoots 59 = .ok (.aload_n 0, 1) := by decide +kernel
theorem dX6_markRoots_60 : decode cX6_markRoots 60 = .ok (.getfield 54, 3) := by decide +kernel
theorem dX6_markRoots_63 : decode cX6_markRoots 63 = .ok (.getfield 99, 3) := by decide +kernel
theorem dX6_markRoots_66 : decode cX6_markRoots 66 = .ok (.if_icmp .ge 27, 3) := by decide +kernel
theorem dX6_markRoots_69 : decode cX6_markRoots 69 = .ok (.aload_n 0, 1) := by decide +kernel
theorem dX6_markRoots_70 : decode cX6_markRoots 70 = .ok (.getfield 41, 3) := by decide +kernel
theorem dX6_markRoots_73 : decode cX6_markRoots 73 = .ok (.iload 5, 2) := by decide +kernel
theorem dX6_markRoots_75 : decode cX6_markRoots 75 = .ok (.iload 4, 2) := by decide +kernel
theorem dX6_markRoots_77 : decode cX6_markRoots 77 = .ok (.aload_n 0, 1) := by decide +kernel
theorem dX6_markRoots_78 : decode cX6_markRoots 78 = .ok (.getfield 44, 3) := by decide +kernel
theorem dX6_markRoots_81 : decode cX6_markRoots 81 = .ok (.iload 5, 2) := by decide +kernel
theorem dX6_markRoots_83 : decode cX6_markRoots 83 = .ok (.iaload, 1) := by decide +kernel
theorem dX6_markRoots_84 : decode cX6_markRoots 84 = .ok (.invokevirtual 114, 3) := by decide +kernel
theorem dX6_markRoots_87 : decode cX6_markRoots 87 = .ok (.iinc 5 1, 3) := by decide +kernel
theorem dX6_markRoots_90 : decode cX6_markRoots 90 = .ok (.goto (-33), 3) := by decide +kernel
theorem dX6_markRoots_93 : decode cX6_markRoots 93 = .ok (.aload_n 3, 1) := by decide +kernel
theorem dX6_markRoots_94 : decode cX6_markRoots 94 = .ok (.aload_n 0, 1) := by decide +kernel
theorem dX6_markRoots_95 : decode cX6_markRoots 95 = .ok (.getfield 44, 3) := by decide +kernel
theorem dX6_markRoots_98 : decode cX6_markRoots 98 = .ok (.aload_n 0, 1) := by decide +kernel
theorem dX6_markRoots_99 : decode cX6_markRoots 99 = .ok (.getfield 48, 3) := by decide +kernel
theorem dX6_markRoots_102 : decode cX6_markRoots 102 = .ok (.aload_n 0, 1) := by decide +kernel
theorem dX6_markRoots_103 : decode cX6_markRoots 103 = .ok (.getfield 54, 3) := by decide +kernel
theorem dX6_markRoots_106 : decode cX6_markRoots 106 = .ok (.getfield 87, 3) := by decide +kernel
theorem dX6_markRoots_109 : decode cX6_markRoots 109 = .ok (.invokevirtual 145, 3) := by decide +kernel
theorem dX6_markRoots_112 : decode cX6_markRoots 112 = .ok (.iinc 4 1, 3) := by decide +kernel
theorem dX6_markRoots_115 : decode cX6_markRoots 115 = .ok (.goto (-73), 3) := by decide +kernel
theorem dX6_markRoots_118 : decode cX6_markRoots 118 = .ok (.aload_n 0, 1) := by decide +kernel
theorem dX6_markRoots_119 : decode cX6_markRoots 119 = .ok (.getfield 41, 3) := by decide +kernel
theorem dX6_markRoots_122 : decode cX6_markRoots 122 = .ok (.aload_n 0, 1) := by decide +kernel
theorem dX6_markRoots_123 : decode cX6_markRoots 123 = .ok (.getfield 54, 3) := by decide +kernel
theorem dX6_markRoots_126 : decode cX6_markRoots 126 = .ok (.getfield 87, 3) := by decide +kernel
theorem dX6_markRoots_129 : decode cX6_markRoots 129 = .ok (.invokevirtual 163, 3) := by decide +kernel
theorem dX6_markRoots_132 : decode cX6_markRoots 132 = .ok (.istore 4, 2) := by decide +kernel
theorem dX6_markRoots_134 : decode cX6_markRoots 134 = .ok (.iconst 0, 1) := by decide +kernel
theorem dX6_markRoots_135 : decode cX6_markRoots 135 = .ok (.istore 5, 2) := by decide +kernel
theorem dX6_markRoots_137 : decode cX6_markRoots 137 = .ok (.iload 5, 2) := by decide +kernel
theorem dX6_markRoots_139 : decode cX6_markRoots 139 = .ok (.aload_n 0, 1) := by decide +kernel
theorem dX6_markRoots_140 : decode cX6_markRoots 140 = .ok (.getfield 54, 3) := by decide +kernel
theorem dX6_markRoots_143 : decode cX6_markRoots 143 = .ok (.getfield 87, 3) := by decide +kernel
theorem dX6_markRoots_146 : decode cX6_markRoots 146 = .ok (.if_icmp .ge 28, 3) := by decide +kernel
theorem dX6_markRoots_149 : decode cX6_markRoots 149 = .ok (.iload 5, 2) := by decide +kernel
theorem dX6_markRoots_151 : decode cX6_markRoots 151 = .ok (.aload_n 2, 1) := by decide +kernel
theorem dX6_markRoots_152 : decode cX6_markRoots 152 = .ok (.arraylength, 1) := by decide +kernel
theorem dX6_markRoots_153 : decode cX6_markRoots 153 = .ok (.if_icmp .ge 21, 3) := by decide +kernel
theorem dX6_markRoots_156 : decode cX6_markRoots 156 = .ok (.aload_n 2, 1) := by decide +kernel
theorem dX6_markRoots_157 : decode cX6_markRoots 157 = .ok (.iload 5, 2) := by decide +kernel
theorem dX6_markRoots_159 : decode cX6_markRoots 159 = .ok (.aload_n 0, 1) := by decide +kernel
theorem dX6_markRoots_160 : decode cX6_markRoots 160 = .ok (.iload 5, 2) := by decide +kernel
theorem dX6_markRoots_162 : decode cX6_markRoots 162 = .ok (.iload 4, 2) := by decide +kernel
theorem dX6_markRoots_164 : decode cX6_markRoots 164 = .ok (.invokevirtual 170, 3) := by decide +kernel
theorem dX6_markRoots_167 : decode cX6_markRoots 167 = .ok (.bastore, 1) := by decide +kernel
theorem dX6_markRoots_168 : decode cX6_markRoots 168 = .ok (.iinc 5 1, 3) := by decide +kernel
theorem dX6_markRoots_171 : decode cX6_markRoots 171 = .ok (.goto (-34), 3) := by decide +kernel
theorem dX6_markRoots_174 : decode cX6_markRoots 174 = .ok (.return_, 1) := by decide +kernel
theorem dX6_isRoot_0 : decode cX6_isRoot 0 = .ok (.iconst 1, 1) := by decide +kernel
theorem dX6_isRoot_1 : decode cX6_isRoot 1 = .ok (.istore_n 3, 1) := by decide +kernel
theorem dX6_isRoot_2 : decode cX6_isRoot 2 = .ok (.iload_n 2, 1) := by decide +kernel
theorem dX6_isRoot_3 : decode cX6_isRoot 3 = .ok (.iconst 1, 1) := by decide +kernel
theorem dX6_isRoot_4 : decode cX6_isRoot 4 = .ok (.isub, 1) := by decide +kernel
theorem dX6_isRoot_5 : decode cX6_isRoot 5 = .ok (.istore 4, 2) := by decide +kernel
theorem dX6_isRoot_7 : decode cX6_isRoot 7 = .ok (.iload 4, 2) := by decide +kernel
theorem dX6_isRoot_9 : decode cX6_isRoot 9 = .ok (.ifCond .lt 34, 3) := by decide +kernel
theorem dX6_isRoot_12 : decode cX6_isRoot 12 = .ok (.iload_n 3, 1) := by decide +kernel
theorem dX6_isRoot_13 : decode cX6_isRoot 13 = .ok (.iload_n 1, 1) := by decide +kernel
theorem dX6_isRoot_14 : decode cX6_isRoot 14 = .ok (.imul, 1) := by decide +kernel
theorem dX6_isRoot_15 : decode cX6_isRoot 15 = .ok (.aload_n 0, 1) := by decide +kernel
theorem dX6_isRoot_16 : decode cX6_isRoot 16 = .ok (.getfield 41, 3) := by decide +kernel
theorem dX6_isRoot_19 : decode cX6_isRoot 19 = .ok (.iload 4, 2) := by decide +kernel
theorem dX6_isRoot_21 : decode cX6_isRoot 21 = .ok (.iload_n 2, 1) := by decide +kernel
theorem dX6_isRoot_22 : decode cX6_isRoot 22 = .ok (.invokevirtual 65, 3) := by decide +kernel
theorem dX6_isRoot_25 : decode cX6_isRoot 25 = .ok (.isub, 1) := by decide +kernel
theorem dX6_isRoot_26 : decode cX6_isRoot 26 = .ok (.aload_n 0, 1) := by decide +kernel
theorem dX6_isRoot_27 : decode cX6_isRoot 27 = .ok (.getfield 54, 3) := by decide +kernel
theorem dX6_isRoot_30 : decode cX6_isRoot 30 = .ok (.getfield 87, 3) := by decide +kernel
theorem dX6_isRoot_33 : decode cX6_isRoot 33 = .ok (.invokestatic 160, 3) := by decide +kernel
theorem dX6_isRoot_36 : decode cX6_isRoot 36 = .ok (.istore_n 3, 1) := by decide +kernel
theorem dX6_isRoot_37 : decode cX6_isRoot 37 = .ok (.iinc 4 (-1), 3) := by decide +kernel
theorem dX6_isRoot_40 : decode cX6_isRoot 40 = .ok (.goto (-33), 3) := by decide +kernel
theorem dX6_isRoot_43 : decode cX6_isRoot 43 = .ok (.iload_n 3, 1) := by decide +kernel
theorem dX6_isRoot_44 : decode cX6_isRoot 44 = .ok (.ifCond .ne 7, 3) := by decide +kernel
theorem dX6_isRoot_47 : decode cX6_isRoot 47 = .ok (.iconst 1, 1) := by decide +kernel
theorem dX6_isRoot_48 : decode cX6_isRoot 48 = .ok (.goto 4, 3) := by decide +kernel
theorem dX6_isRoot_51 : decode cX6_isRoot 51 = .ok (.iconst 0, 1) := by decide +kernel
theorem dX6_isRoot_52 : decode cX6_isRoot 52 = .ok (.ireturn, 1) := by decide +kernel
theorem dX7_init_0 : decode cX7_init 0 = .ok (.aload_n 0, 1) := by decide +kernel
theorem dX7_init_1 : decode cX7_init 1 = .ok (.invokespecial 3, 3) := by decide +kernel
theorem dX7_init_4 : decode cX7_init 4 = .ok (.aload_n 0, 1) := by decide +kernel
theorem dX7_init_5 : decode cX7_init 5 = .ok (.sipush 900, 3) := by decide +kernel
theorem dX7_init_8 : decode cX7_init 8 = .ok (.newarray .byte, 2) := by decide +kernel
theorem dX7_init_10 : decode cX7_init 10 = .ok (.putfield 9, 3) := by decide +kernel
theorem dX7_init_13 : decode cX7_init 13 = .ok (.return_, 1) := by decide +kernel
theorem dX7_append_0 : decode cX7_append 0 = .ok (.aload_n 0, 1) := by decide +kernel
theorem dX7_append_1 : decode cX7_append 1 = .ok (.getfield 15, 3) := by decide +kernel
theorem dX7_append_4 : decode cX7_append 4 = .ok (.sipush 900, 3) := by decide +kernel
theorem dX7_append_7 : decode cX7_append 7 = .ok (.if_icmp .ge 23, 3) := by decide +kernel
theorem dX7_append_10 : decode cX7_append 10 = .ok (.aload_n 0, 1) := by decide +kernel
theorem dX7_append_11 : decode cX7_append 11 = .ok (.getfield 9, 3) := by decide +kernel
theorem dX7_append_14 : decode cX7_append 14 = .ok (.aload_n 0, 1) := by decide +kernel
theorem dX7_append_15 : decode cX7_append 15 = .ok (.getfield 15, 3) := by decide +kernel
theorem dX7_append_18 : decode cX7_append 18 = .ok (.iload_n 1, 1) := by decide +kernel
theorem dX7_append_19 : decode cX7_append 19 = .ok (.bastore, 1) := by decide +kernel
theorem dX7_append_20 : decode cX7_append 20 = .ok (.aload_n 0, 1) := by decide +kernel
theorem dX7_append_21 : decode cX7_append 21 = .ok (.dup, 1) := by decide +kernel
theorem dX7_append_22 : decode cX7_append 22 = .ok (.getfield 15, 3) := by decide +kernel
theorem dX7_append_25 : decode cX7_append 25 = .ok (.iconst 1, 1) := by decide +kernel
theorem dX7_append_26 : decode cX7_append 26 = .ok (.iadd, 1) := by decide +kernel
theorem dX7_append_27 : decode cX7_append 27 = .ok (.putfield 15, 3) := by decide +kernel
theorem dX7_append_30 : decode cX7_append 30 = .ok (.return_, 1) := by decide +kernel
theorem dX7_rewind_0 : decode cX7_rewind 0 = .ok (.aload_n 0, 1) := by decide +kernel
theorem dX7_rewind_1 : decode cX7_rewind 1 = .ok (.iconst 0, 1) := by decide +kernel
theorem dX7_rewind_2 : decode cX7_rewind 2 = .ok (.putfield 19, 3) := by decide +kernel
theorem dX7_rewind_5 : decode cX7_rewind 5 = .ok (.aload_n 0, 1) := by decide +kernel
theorem dX7_rewind_6 : decode cX7_rewind 6 = .ok (.invokevirtual 22, 3) := by decide +kernel
theorem dX7_rewind_9 : decode cX7_rewind 9 = .ok (.return_, 1) := by decide +kernel
theorem dX7_advance_0 : decode cX7_advance 0 = .ok (.aload_n 0, 1) := by decide +kernel
theorem dX7_advance_1 : decode cX7_advance 1 = .ok (.getfield 19, 3) := by decide +kernel
theorem dX7_advance_4 : decode cX7_advance 4 = .ok (.aload_n 0, 1) := by decide +kernel
theorem dX7_advance_5 : decode cX7_advance 5 = .ok (.getfield 15, 3) := by decide +kernel
theorem dX7_advance_8 : decode cX7_advance 8 = .ok (.if_icmp .ge 42, 3) := by decide +kernel
theorem dX7_advance_11 : decode cX7_advance 11 = .ok (.aload_n 0, 1) := by decide +kernel
theorem dX7_advance_12 : decode cX7_advance 12 = .ok (.aload_n 0, 1) := by decide +kernel
theorem dX7_advance_13 : decode cX7_advance 13 = .ok (.getfield 19, 3) := by decide +kernel
theorem dX7_advance_16 : decode cX7_advance 16 = .ok (.invokevirtual 25, 3) := by decide +kernel
theorem dX7_advance_19 : decode cX7_advance 19 = .ok (.bipush 32, 2) := by decide +kernel
theorem dX7_advance_21 : decode cX7_advance 21 = .ok (.if_icmp .eq 16, 3) := by decide +kernel
theorem dX7_advance_24 : decode cX7_advance 24 = .ok (.aload_n 0, 1) := by decide +kernel
theorem dX7_advance_25 : decode cX7_advance 25 = .ok (.aload_n 0, 1) := by decide +kernel
theorem dX7_advance_26 : decode cX7_advance 26 = .ok (.getfield 19, 3) := by decide +kernel
theorem dX7_advance_29 : decode cX7_advance 29 = .ok (.invokevirtual 25, 3) := by decide +kernel
theorem dX7_advance_32 : decode cX7_advance 32 = .ok (.bipush 10, 2) := by decide +kernel
theorem dX7_advance_34 : decode cX7_advance 34 = .ok (.if_icmp .ne 16, 3) := by decide +kernel
theorem dX7_advance_37 : decode cX7_advance 37 = .ok (.aload_n 0, 1) := by decide +kernel
theorem dX7_advance_38 : decode cX7_advance 38 = .ok (.dup, 1) := by decide +kernel
theorem dX7_advance_39 : decode cX7_advance 39 = .ok (.getfield 19, 3) := by decide +kernel
theorem dX7_advance_42 : decode cX7_advance 42 = .ok (.iconst 1, 1) := by decide +kernel
theorem dX7_advance_43 : decode cX7_advance 43 = .ok (.iadd, 1) := by decide +kernel
theorem dX7_advance_44 : decode cX7_advance 44 = .ok (.putfield 19, 3) := by decide +kernel
theorem dX7_advance_47 : decode cX7_advance 47 = .ok (.goto (-47), 3) := by decide +kernel
theorem dX7_advance_50 : decode cX7_advance 50 = .ok (.aload_n 0, 1) := by decide +kernel
theorem dX7_advance_51 : decode cX7_advance 51 = .ok (.aload_n 0, 1) := by decide +kernel
theorem dX7_advance_52 : decode cX7_advance 52 = .ok (.getfield 19, 3) := by decide +kernel
theorem dX7_advance_55 : decode cX7_advance 55 = .ok (.putfield 29, 3) := by decide +kernel
theorem dX7_advance_58 : decode cX7_advance 58 = .ok (.aload_n 0, 1) := by decide +kernel
theorem dX7_advance_59 : decode cX7_advance 59 = .ok (.aload_n 0, 1) := by decide +kernel
theorem dX7_advance_60 : decode cX7_advance 60 = .ok (.getfield 19, 3) := by decide +kernel
theorem dX7_advance_63 : decode cX7_advance 63 = .ok (.invokevirtual 25, 3) := by decide +kernel
theorem dX7_advance_66 : decode cX7_advance 66 = .ok (.istore_n 1, 1) := by decide +kernel
theorem dX7_advance_67 : decode cX7_advance 67 = .ok (.aload_n 0, 1) := by decide +kernel
theorem dX7_advance_68 : decode cX7_advance 68 = .ok (.getfield 19, 3) := by decide +kernel
theorem dX7_advance_71 : decode cX7_advance 71 = .ok (.aload_n 0, 1) := by decide +kernel
theorem dX7_advance_72 : decode cX7_advance 72 = .ok (.getfield 15, 3) := by decide +kernel
theorem dX7_advance_75 : decode cX7_advance 75 = .ok (.if_icmp .lt 11, 3) := by decide +kernel
theorem dX7_advance_78 : decode cX7_advance 78 = .ok (.aload_n 0, 1) := by decide +kernel
theorem dX7_advance_79 : decode cX7_advance 79 = .ok (.iconst 0, 1) := by decide +kernel
theorem dX7_advance_80 : decode cX7_advance 80 = .ok (.putfield 32, 3) := by decide +kernel
theorem dX7_advance_83 : decode cX7_advance 83 = .ok (.goto 173, 3) := by decide +kernel
theorem dX7_advance_86 : decode cX7_advance 86 = .ok (.iload_n 1, 1) := by decide +kernel
theorem dX7_advance_87 : decode cX7_advance 87 = .ok (.invokestatic 35, 3) := by decide +kernel
theorem dX7_advance_90 : decode cX7_advance 90 = .ok (.ifCond .eq 46, 3) := by decide +kernel
theorem dX7_advance_93 : decode cX7_advance 93 = .ok (.aload_n 0, 1) := by decide +kernel
theorem dX7_advance_94 : decode cX7_advance 94 = .ok (.iconst 1, 1) := by decide +kernel
theorem dX7_advance_95 : decode cX7_advance 95 = .ok (.putfield 32, 3) := by decide +kernel
theorem dX7_advance_98 : decode cX7_advance 98 = .ok (.aload_n 0, 1) := by decide +kernel
theorem dX7_advance_99 : decode cX7_advance 99 = .ok (.getfield 19, 3) := by decide +kernel
theorem dX7_advance_102 : decode cX7_advance 102 = .ok (.aload_n 0, 1) := by decide +kernel
theorem dX7_advance_103 : decode cX7_advance 103 = .ok (.getfield 15, 3) := by decide +kernel
theorem dX7_advance_106 : decode cX7_advance 106 = .ok (.if_icmp .ge 150, 3) := by decide +kernel
theorem dX7_advance_109 : decode cX7_advance 109 = .ok (.aload_n 0, 1) := by decide +kernel
theorem dX7_advance_110 : decode cX7_advance 110 = .ok (.aload_n 0, 1) := by decide +kernel
theorem dX7_advance_111 : decode cX7_advance 111 = .ok (.getfield 19, 3) := by decide +kernel
theorem dX7_advance_114 : decode cX7_advance 114 = .ok (.invokevirtual 25, 3) := by decide +kernel
theorem dX7_advance_117 : decode cX7_advance 117 = .ok (.invokestatic 35, 3) := by decide +kernel
theorem dX7_advance_120 : decode cX7_advance 120 = .ok (.ifCond .eq 136, 3) := by decide +kernel
theorem dX7_advance_123 : decode cX7_advance 123 = .ok (.aload_n 0, 1) := by decide +kernel
theorem dX7_advance_124 : decode cX7_advance 124 = .ok (.dup, 1) := by decide +kernel
theorem dX7_advance_125 : decode cX7_advance 125 = .ok (.getfield 19, 3) := by decide +kernel
theorem dX7_advance_128 : decode cX7_advance 128 = .ok (.iconst 1, 1) := by decide +kernel
theorem dX7_advance_129 : decode cX7_advance 129 = .ok (.iadd, 1) := by decide +kernel
theorem dX7_advance_130 : decode cX7_advance 130 = .ok (.putfield 19, 3) := by decide +kernel
theorem dX7_advance_133 : decode cX7_advance 133 = .ok (.goto (-35), 3) := by decide +kernel
theorem dX7_advance_136 : decode cX7_advance 136 = .ok (.iload_n 1, 1) := by decide +kernel
theorem dX7_advance_137 : decode cX7_advance 137 = .ok (.invokestatic 39, 3) := by decide +kernel
theorem dX7_advance_140 : decode cX7_advance 140 = .ok (.ifCond .eq 79, 3) := by decide +kernel
theorem dX7_advance_143 : decode cX7_advance 143 = .ok (.aload_n 0, 1) := by decide +kernel
theorem dX7_advance_144 : decode cX7_advance 144 = .ok (.iconst 2, 1) := by decide +kernel
theorem dX7_advance_145 : decode cX7_advance 145 = .ok (.putfield 32, 3) := by decide +kernel
theorem dX7_advance_148 : decode cX7_advance 148 = .ok (.aload_n 0, 1) := by decide +kernel
theorem dX7_advance_149 : decode cX7_advance 149 = .ok (.iconst 0, 1) := by decide +kernel
theorem dX7_advance_150 : decode cX7_advance 150 = .ok (.putfield 42, 3) := by decide +kernel
theorem dX7_advance_153 : decode cX7_advance 153 = .ok (.aload_n 0, 1) := by decide +kernel
theorem dX7_advance_154 : decode cX7_advance 154 = .ok (.getfield 19, 3) := by decide +kernel
theorem dX7_advance_157 : decode cX7_advance 157 = .ok (.aload_n 0, 1) := by decide +kernel
theorem dX7_advance_158 : decode cX7_advance 158 = .ok (.getfield 15, 3) := by decide +kernel
theorem dX7_advance_161 : decode cX7_advance 161 = .ok (.if_icmp .ge 95, 3) := by decide +kernel
theorem dX7_advance_164 : decode cX7_advance 164 = .ok (.aload_n 0, 1) := by decide +kernel
theorem dX7_advance_165 : decode cX7_advance 165 = .ok (.aload_n 0, 1) := by decide +kernel
theorem dX7_advance_166 : decode cX7_advance 166 = .ok (.getfield 19, 3) := by decide +kernel
theorem dX7_advance_169 : decode cX7_advance 169 = .ok (.invokevirtual 25, 3) := by decide +kernel
theorem dX7_advance_172 : decode cX7_advance 172 = .ok (.invokestatic 39, 3) := by decide +kernel
theorem dX7_advance_175 : decode cX7_advance 175 = .ok (.ifCond .eq 81, 3) := by decide +kernel
theorem dX7_advance_178 : decode cX7_advance 178 = .ok (.aload_n 0, 1) := by decide +kernel
theorem dX7_advance_179 : decode cX7_advance 179 = .ok (.aload_n 0, 1) := by decide +kernel
theorem dX7_advance_180 : decode cX7_advance 180 = .ok (.getfield 42, 3) := by decide +kernel
theorem dX7_advance_183 : decode cX7_advance 183 = .ok (.bipush 10, 2) := by decide +kernel
theorem dX7_advance_185 : decode cX7_advance 185 = .ok (.imul, 1) := by decide +kernel
theorem dX7_advance_186 : decode cX7_advance 186 = .ok (.aload_n 0, 1) := by decide +kernel
theorem dX7_advance_187 : decode cX7_advance 187 = .ok (.aload_n 0, 1) := by decide +kernel
theorem dX7_advance_188 : decode cX7_advance 188 = .ok (.getfield 19, 3) := by decide +kernel
theorem dX7_advance_191 : decode cX7_advance 191 = .ok (.invokevirtual 25, 3) := by decide +kernel
theorem dX7_advance_194 : decode cX7_advance 194 = .ok (.iadd, 1) := by decide +kernel
theorem dX7_advance_195 : decode cX7_advance 195 = .ok (.bipush 48, 2) := by decide +kernel
theorem dX7_advance_197 : decode cX7_advance 197 = .ok (.isub, 1) := by decide +kernel
theorem dX7_advance_198 : decode cX7_advance 198 = .ok (.ldc 45, 2) := by decide +kernel
theorem dX7_advance_200 : decode cX7_advance 200 = .ok (.invokestatic 46, 3) := by decide +kernel
theorem dX7_advance_203 : decode cX7_advance 203 = .ok (.putfield 42, 3) := by decide +kernel
theorem dX7_advance_206 : decode cX7_advance 206 = .ok (.aload_n 0, 1) := by decide +kernel
theorem dX7_advance_207 : decode cX7_advance 207 = .ok (.dup, 1) := by decide +kernel
theorem dX7_advance_208 : decode cX7_advance 208 = .ok (.getfield 19, 3) := by decide +kernel
theorem dX7_advance_211 : decode cX7_advance 211 = .ok (.iconst 1, 1) := by decide +kernel
theorem dX7_advance_212 : decode cX7_advance 212 = .ok (.iadd, 1) := by decide +kernel
theorem dX7_advance_213 : decode cX7_advance 213 = .ok (.putfield 19, 3) := by decide +kernel
theorem dX7_advance_216 : decode cX7_advance 216 = .ok (.goto (-63), 3) := by decide +kernel
theorem dX7_advance_219 : decode cX7_advance 219 = .ok (.aload_n 0, 1) := by decide +kernel
theorem dX7_advance_220 : decode cX7_advance 220 = .ok (.iload_n 1, 1) := by decide +kernel
theorem dX7_advance_221 : decode cX7_advance 221 = .ok (.bipush 59, 2) := by decide +kernel
theorem dX7_advance_223 : decode cX7_advance 223 = .ok (.if_icmp .eq 15, 3) := by decide +kernel
theorem dX7_advance_226 : decode cX7_advance 226 = .ok (.iload_n 1, 1) := by decide +kernel
theorem dX7_advance_227 : decode cX7_advance 227 = .ok (.bipush 44, 2) := by decide +kernel
theorem dX7_advance_229 : decode cX7_advance 229 = .ok (.if_icmp .eq 9, 3) := by decide +kernel
theorem dX7_advance_232 : decode cX7_advance 232 = .ok (.iload_n 1, 1) := by decide +kernel
theorem dX7_advance_233 : decode cX7_advance 233 = .ok (.bipush 45, 2) := by decide +kernel
theorem dX7_advance_235 : decode cX7_advance 235 = .ok (.if_icmp .ne 7, 3) := by decide +kernel
theorem dX7_advance_238 : decode cX7_advance 238 = .ok (.iload_n 1, 1) := by decide +kernel
theorem dX7_advance_239 : decode cX7_advance 239 = .ok (.goto 4, 3) := by decide +kernel
theorem dX7_advance_242 : decode cX7_advance 242 = .ok (.iconst 3, 1) := by decide +kernel
theorem dX7_advance_243 : decode cX7_advance 243 = .ok (.putfield 32, 3) := by decide +kernel
theorem dX7_advance_246 : decode cX7_advance 246 = .ok (.aload_n 0, 1) := by decide +kernel
theorem dX7_advance_247 : decode cX7_advance 247 = .ok (.dup, 1) := by decide +kernel
theorem dX7_advance_248 : decode cX7_advance 248 = .ok (.getfield 19, 3) := by decide +kernel
theorem dX7_advance_251 : decode cX7_advance 251 = .ok (.iconst 1, 1) := by decide +kernel
theorem dX7_advance_252 : decode cX7_advance 252 = .ok (.iadd, 1) := by decide +kernel
theorem dX7_advance_253 : decode cX7_advance 253 = .ok (.putfield 19, 3) := by decide +kernel
theorem dX7_advance_256 : decode cX7_advance 256 = .ok (.return_, 1) := by decide +kernel
theorem dX7_isWord_0 : decode cX7_isWord 0 = .ok (.aload_n 0, 1) := by decide +kernel
theorem dX7_isWord_1 : decode cX7_isWord 1 = .ok (.getfield 32, 3) := by decide +kernel
theorem dX7_isWord_4 : decode cX7_isWord 4 = .ok (.iconst 1, 1) := by decide +kernel
theorem dX7_isWord_5 : decode cX7_isWord 5 = .ok (.if_icmp .ne 19, 3) := by decide +kernel
theorem dX7_isWord_8 : decode cX7_isWord 8 = .ok (.aload_n 0, 1) := by decide +kernel
theorem dX7_isWord_9 : decode cX7_isWord 9 = .ok (.getfield 19, 3) := by decide +kernel
theorem dX7_isWord_12 : decode cX7_isWord 12 = .ok (.aload_n 0, 1) := by decide +kernel
theorem dX7_isWord_13 : decode cX7_isWord 13 = .ok (.getfield 29, 3) := by decide +kernel
theorem dX7_isWord_16 : decode cX7_isWord 16 = .ok (.isub, 1) := by decide +kernel
theorem dX7_isWord_17 : decode cX7_isWord 17 = .ok (.aload_n 1, 1) := by decide +kernel
theorem dX7_isWord_18 : decode cX7_isWord 18 = .ok (.invokevirtual 52, 3) := by decide +kernel
theorem dX7_isWord_21 : decode cX7_isWord 21 = .ok (.if_icmp .eq 5, 3) := by decide +kernel
theorem dX7_isWord_24 : decode cX7_isWord 24 = .ok (.iconst 0, 1) := by decide +kernel
theorem dX7_isWord_25 : decode cX7_isWord 25 = .ok (.ireturn, 1) := by decide +kernel
theorem dX7_isWord_26 : decode cX7_isWord 26 = .ok (.iconst 0, 1) := by decide +kernel
theorem dX7_isWord_27 : decode cX7_isWord 27 = .ok (.istore_n 2, 1) := by decide +kernel
theorem dX7_isWord_28 : decode cX7_isWord 28 = .ok (.iload_n 2, 1) := by decide +kernel
theorem dX7_isWord_29 : decode cX7_isWord 29 = .ok (.aload_n 1, 1) := by decide +kernel
theorem dX7_isWord_30 : decode cX7_isWord 30 = .ok (.invokevirtual 52, 3) := by decide +kernel
theorem dX7_isWord_33 : decode cX7_isWord 33 = .ok (.if_icmp .ge 29, 3) := by decide +kernel
theorem dX7_isWord_36 : decode cX7_isWord 36 = .ok (.aload_n 0, 1) := by decide +kernel
theorem dX7_isWord_37 : decode cX7_isWord 37 = .ok (.aload_n 0, 1) := by decide +kernel
theorem dX7_isWord_38 : decode cX7_isWord 38 = .ok (.getfield 29, 3) := by decide +kernel
theorem dX7_isWord_41 : decode cX7_isWord 41 = .ok (.iload_n 2, 1) := by decide +kernel
theorem dX7_isWord_42 : decode cX7_isWord 42 = .ok (.iadd, 1) := by decide +kernel
theorem dX7_isWord_43 : decode cX7_isWord 43 = .ok (.invokevirtual 25, 3) := by decide +kernel
theorem dX7_isWord_46 : decode cX7_isWord 46 = .ok (.aload_n 1, 1) := by decide +kernel
theorem dX7_isWord_47 : decode cX7_isWord 47 = .ok (.iload_n 2, 1) := by decide +kernel
theorem dX7_isWord_48 : decode cX7_isWord 48 = .ok (.invokevirtual 57, 3) := by decide +kernel
theorem dX7_isWord_51 : decode cX7_isWord 51 = .ok (.if_icmp .eq 5, 3) := by decide +kernel
theorem dX7_isWord_54 : decode cX7_isWord 54 = .ok (.iconst 0, 1) := by decide +kernel
theorem dX7_isWord_55 : decode cX7_isWord 55 = .ok (.ireturn, 1) := by decide +kernel
theorem dX7_isWord_56 : decode cX7_isWord 56 = .ok (.iinc 2 1, 3) := by decide +kernel
theorem dX7_isWord_59 : decode cX7_isWord 59 = .ok (.goto (-31), 3) := by decide +kernel
theorem dX7_isWord_62 : decode cX7_isWord 62 = .ok (.iconst 1, 1) := by decide +kernel
theorem dX7_isWord_63 : decode cX7_isWord 63 = .ok (.ireturn, 1) := by decide +kernel
theorem dX7_byteAt_0 : decode cX7_byteAt 0 = .ok (.iload_n 1, 1) := by decide +kernel
theorem dX7_byteAt_1 : decode cX7_byteAt 1 = .ok (.ifCond .lt 31, 3) := by decide +kernel
theorem dX7_byteAt_4 : decode cX7_byteAt 4 = .ok (.iload_n 1, 1) := by decide +kernel
theorem dX7_byteAt_5 : decode cX7_byteAt 5 = .ok (.aload_n 0, 1) := by decide +kernel
theorem dX7_byteAt_6 : decode cX7_byteAt 6 = .ok (.getfield 15, 3) := by decide +kernel
theorem dX7_byteAt_9 : decode cX7_byteAt 9 = .ok (.if_icmp .ge 23, 3) := by decide +kernel
theorem dX7_byteAt_12 : decode cX7_byteAt 12 = .ok (.iload_n 1, 1) := by decide +kernel
theorem dX7_byteAt_13 : decode cX7_byteAt 13 = .ok (.sipush 900, 3) := by decide +kernel
theorem dX7_byteAt_16 : decode cX7_byteAt 16 = .ok (.if_icmp .ge 16, 3) := by decide +kernel
theorem dX7_byteAt_19 : decode cX7_byteAt 19 = .ok (.aload_n 0, 1) := by decide +kernel
theorem dX7_byteAt_20 : decode cX7_byteAt 20 = .ok (.getfield 9, 3) := by decide +kernel
theorem dX7_byteAt_23 : decode cX7_byteAt 23 = .ok (.iload_n 1, 1) := by decide +kernel
theorem dX7_byteAt_24 : decode cX7_byteAt 24 = .ok (.baload, 1) := by decide +kernel
theorem dX7_byteAt_25 : decode cX7_byteAt 25 = .ok (.sipush 255, 3) := by decide +kernel
theorem dX7_byteAt_28 : decode cX7_byteAt 28 = .ok (.iand, 1) := by decide +kernel
theorem dX7_byteAt_29 : decode cX7_byteAt 29 = .ok (.goto 4, 3) := by decide +kernel
theorem dX7_byteAt_32 : decode cX7_byteAt 32 = .ok (.iconst 0, 1) := by decide +kernel
theorem dX7_byteAt_33 : decode cX7_byteAt 33 = .ok (.ireturn, 1) := by decide +kernel
theorem dX7_isLetter_0 : decode cX7_isLetter 0 = .ok (.iload_n 0, 1) := by decide +kernel
theorem dX7_isLetter_1 : decode cX7_isLetter 1 = .ok (.bipush 97, 2) := by decide +kernel
theorem dX7_isLetter_3 : decode cX7_isLetter 3 = .ok (.if_icmp .lt 13, 3) := by decide +kernel
theorem dX7_isLetter_6 : decode cX7_isLetter 6 = .ok (.iload_n 0, 1) := by decide +kernel
theorem dX7_isLetter_7 : decode cX7_isLetter 7 = .ok (.bipush 122, 2) := by decide +kernel
theorem dX7_isLetter_9 : decode cX7_isLetter 9 = .ok (.if_icmp .gt 7, 3) := by decide +kernel
theorem dX7_isLetter_12 : decode cX7_isLetter 12 = .ok (.iconst 1, 1) := by decide +kernel
theorem dX7_isLetter_13 : decode cX7_isLetter 13 = .ok (.goto 4, 3) := by decide +kernel
theorem dX7_isLetter_16 : decode cX7_isLetter 16 = .ok (.iconst 0, 1) := by decide +kernel
theorem dX7_isLetter_17 : decode cX7_isLetter 17 = .ok (.ireturn, 1) := by decide +kernel
theorem dX7_isDigit_0 : decode cX7_isDigit 0 = .ok (.iload_n 0, 1) := by decide +kernel
theorem dX7_isDigit_1 : decode cX7_isDigit 1 = .ok (.bipush 48, 2) := by decide +kernel
theorem dX7_isDigit_3 : decode cX7_isDigit 3 = .ok (.if_icmp .lt 13, 3) := by decide +kernel
theorem dX7_isDigit_6 : decode cX7_isDigit 6 = .ok (.iload_n 0, 1) := by decide +kernel
theorem dX7_isDigit_7 : decode cX7_isDigit 7 = .ok (.bipush 57, 2) := by decide +kernel
theorem dX7_isDigit_9 : decode cX7_isDigit 9 = .ok (.if_icmp .gt 7, 3) := by decide +kernel
theorem dX7_isDigit_12 : decode cX7_isDigit 12 = .ok (.iconst 1, 1) := by decide +kernel
theorem dX7_isDigit_13 : decode cX7_isDigit 13 = .ok (.goto 4, 3) := by decide +kernel
theorem dX7_isDigit_16 : decode cX7_isDigit 16 = .ok (.iconst 0, 1) := by decide +kernel
theorem dX7_isDigit_17 : decode cX7_isDigit 17 = .ok (.ireturn, 1) := by decide +kernel
theorem dX8_init_0 : decode cX8_init 0 = .ok (.aload_n 0, 1) := by decide +kernel
theorem dX8_init_1 : decode cX8_init 1 = .ok (.invokespecial 3, 3) := by decide +kernel
theorem dX8_init_4 : decode cX8_init 4 = .ok (.aload_n 0, 1) := by decide +kernel
theorem dX8_init_5 : decode cX8_init 5 = .ok (.bipush 97, 2) := by decide +kernel
theorem dX8_init_7 : decode cX8_init 7 = .ok (.newarray .boolean, 2) := by decide +kernel
theorem dX8_init_9 : decode cX8_init 9 = .ok (.putfield 9, 3) := by decide +kernel
theorem dX8_init_12 : decode cX8_init 12 = .ok (.aload_n 0, 1) := by decide +kernel
theorem dX8_init_13 : decode cX8_init 13 = .ok (.bipush 97, 2) := by decide +kernel
theorem dX8_init_15 : decode cX8_init 15 = .ok (.newarray .boolean, 2) := by decide +kernel
theorem dX8_init_17 : decode cX8_init 17 = .ok (.putfield 15, 3) := by decide +kernel
theorem dX8_init_20 : decode cX8_init 20 = .ok (.aload_n 0, 1) := by decide +kernel
theorem dX8_init_21 : decode cX8_init 21 = .ok (.bipush 12, 2) := by decide +kernel
theorem dX8_init_23 : decode cX8_init 23 = .ok (.newarray .int, 2) := by decide +kernel
theorem dX8_init_25 : decode cX8_init 25 = .ok (.putfield 18, 3) := by decide +kernel
theorem dX8_init_28 : decode cX8_init 28 = .ok (.aload_n 0, 1) := by decide +kernel
theorem dX8_init_29 : decode cX8_init 29 = .ok (.bipush 12, 2) := by decide +kernel
theorem dX8_init_31 : decode cX8_init 31 = .ok (.newarray .int, 2) := by decide +kernel
theorem dX8_init_33 : decode cX8_init 33 = .ok (.putfield 22, 3) := by decide +kernel
theorem dX8_init_36 : decode cX8_init 36 = .ok (.aload_n 0, 1) := by decide +kernel
theorem dX8_init_37 : decode cX8_init 37 = .ok (.bipush 12, 2) := by decide +kernel
theorem dX8_init_39 : decode cX8_init 39 = .ok (.newarray .int, 2) := by decide +kernel
theorem dX8_init_41 : decode cX8_init 41 = .ok (.putfield 25, 3) := by decide +kernel
theorem dX8_init_44 : decode cX8_init 44 = .ok (.aload_n 0, 1) := by decide +kernel
theorem dX8_init_45 : decode cX8_init 45 = .ok (.new 28, 3) := by decide +kernel
theorem dX8_init_48 : decode cX8_init 48 = .ok (.dup, 1) := by decide +kernel
theorem dX8_init_49 : decode cX8_init 49 = .ok (.bipush 12, 2) := by decide +kernel
theorem dX8_init_51 : decode cX8_init 51 = .ok (.bipush 12, 2) := by decide +kernel
theorem dX8_init_53 : decode cX8_init 53 = .ok (.invokespecial 30, 3) := by decide +kernel
theorem dX8_init_56 : decode cX8_init 56 = .ok (.putfield 33, 3) := by decide +kernel
theorem dX8_init_59 : decode cX8_init 59 = .ok (.aload_n 0, 1) := by decide +kernel
theorem dX8_init_60 : decode cX8_init 60 = .ok (.new 28, 3) := by decide +kernel
theorem dX8_init_63 : decode cX8_init 63 = .ok (.dup, 1) := by decide +kernel
theorem dX8_init_64 : decode cX8_init 64 = .ok (.bipush 24, 2) := by decide +kernel
theorem dX8_init_66 : decode cX8_init 66 = .ok (.bipush 12, 2) := by decide +kernel
theorem dX8_init_68 : decode cX8_init 68 = .ok (.invokespecial 30, 3) := by decide +kernel
theorem dX8_init_71 : decode cX8_init 71 = .ok (.putfield 37, 3) := by decide +kernel
theorem dX8_init_74 : decode cX8_init 74 = .ok (.aload_n 0, 1) := by decide +kernel
theorem dX8_init_75 : decode cX8_init 75 = .ok (.new 28, 3) := by decide +kernel
theorem dX8_init_78 : decode cX8_init 78 = .ok (.dup, 1) := by decide +kernel
theorem dX8_init_79 : decode cX8_init 79 = .ok (.bipush 12, 2) := by decide +kernel
theorem dX8_init_81 : decode cX8_init 81 = .ok (.bipush 12, 2) := by decide +kernel
theorem dX8_init_83 : decode cX8_init 83 = .ok (.invokespecial 30, 3) := by decide +kernel
theorem dX8_init_86 : decode cX8_init 86 = .ok (.putfield 40, 3) := by decide +kernel
theorem dX8_init_89 : decode cX8_init 89 = .ok (.aload_n 0, 1) := by decide +kernel
theorem dX8_init_90 : decode cX8_init 90 = .ok (.bipush 12, 2) := by decide +kernel
theorem dX8_init_92 : decode cX8_init 92 = .ok (.anewarray 28, 3) := by decide +kernel
theorem dX8_init_95 : decode cX8_init 95 = .ok (.putfield 43, 3) := by decide +kernel
theorem dX8_init_98 : decode cX8_init 98 = .ok (.aload_n 0, 1) := by decide +kernel
theorem dX8_init_99 : decode cX8_init 99 = .ok (.iconst (-1), 1) := by decide +kernel
theorem dX8_init_100 : decode cX8_init 100 = .ok (.putfield 47, 3) := by decide +kernel
theorem dX8_init_103 : decode cX8_init 103 = .ok (.aload_n 0, 1) := by decide +kernel
theorem dX8_init_104 : decode cX8_init 104 = .ok (.aload_n 1, 1) := by decide +kernel
theorem dX8_init_105 : decode cX8_init 105 = .ok (.putfield 51, 3) := by decide +kernel
theorem dX8_init_108 : decode cX8_init 108 = .ok (.aload_n 0, 1) := by decide +kernel
theorem dX8_init_109 : decode cX8_init 109 = .ok (.aload_n 2, 1) := by decide +kernel
theorem dX8_init_110 : decode cX8_init 110 = .ok (.putfield 55, 3) := by decide +kernel
theorem dX8_init_113 : decode cX8_init 113 = .ok (.aload_n 0, 1) := by decide +kernel
theorem dX8_init_114 : decode cX8_init 114 = .ok (.aload_n 3, 1) := by decide +kernel
theorem dX8_init_115 : decode cX8_init 115 = .ok (.putfield 59, 3) := by decide +kernel
theorem dX8_init_118 : decode cX8_init 118 = .ok (.return_, 1) := by decide +kernel
theorem dX8_forget_0 : decode cX8_forget 0 = .ok (.aload_n 0, 1) := by decide +kernel
theorem dX8_forget_1 : decode cX8_forget 1 = .ok (.iconst 0, 1) := by decide +kernel
theorem dX8_forget_2 : decode cX8_forget 2 = .ok (.putfield 63, 3) := by decide +kernel
theorem dX8_forget_5 : decode cX8_forget 5 = .ok (.aload_n 0, 1) := by decide +kernel
theorem dX8_forget_6 : decode cX8_forget 6 = .ok (.iconst (-1), 1) := by decide +kernel
theorem dX8_forget_7 : decode cX8_forget 7 = .ok (.putfield 47, 3) := by decide +kernel
theorem dX8_forget_10 : decode cX8_forget 10 = .ok (.return_, 1) := by decide +kernel
theorem dX8_number_0 : decode cX8_number 0 = .ok (.aload_n 0, 1) := by decide +kernel
theorem dX8_number_1 : decode cX8_number 1 = .ok (.invokevirtual 67, 3) := by decide +kernel
theorem dX8_number_4 : decode cX8_number 4 = .ok (.aload_n 0, 1) := by decide +kernel
theorem dX8_number_5 : decode cX8_number 5 = .ok (.getfield 70, 3) := by decide +kernel
theorem dX8_number_8 : decode cX8_number 8 = .ok (.ireturn, 1) := by decide +kernel
theorem dX8_indexOf_0 : decode cX8_indexOf 0 = .ok (.aload_n 0, 1) := by decide +kernel
theorem dX8_indexOf_1 : decode cX8_indexOf 1 = .ok (.invokevirtual 67, 3) := by decide +kernel
theorem dX8_indexOf_4 : decode cX8_indexOf 4 = .ok (.iconst 0, 1) := by decide +kernel
theorem dX8_indexOf_5 : decode cX8_indexOf 5 = .ok (.istore_n 3, 1) := by decide +kernel
theorem dX8_indexOf_6 : decode cX8_indexOf 6 = .ok (.iload_n 3, 1) := by decide +kernel
theorem dX8_indexOf_7 : decode cX8_indexOf 7 = .ok (.aload_n 0, 1) := by decide +kernel
theorem dX8_indexOf_8 : decode cX8_indexOf 8 = .ok (.getfield 70, 3) := by decide +kernel
theorem dX8_indexOf_11 : decode cX8_indexOf 11 = .ok (.if_icmp .ge 31, 3) := by decide +kernel
theorem dX8_indexOf_14 : decode cX8_indexOf 14 = .ok (.aload_n 0, 1) := by decide +kernel
theorem dX8_indexOf_15 : decode cX8_indexOf 15 = .ok (.getfield 18, 3) := by decide +kernel
theorem dX8_indexOf_18 : decode cX8_indexOf 18 = .ok (.iload_n 3, 1) := by decide +kernel
theorem dX8_indexOf_19 : decode cX8_indexOf 19 = .ok (.iaload, 1) := by decide +kernel
theorem dX8_indexOf_20 : decode cX8_indexOf 20 = .ok (.iload_n 1, 1) := by decide +kernel
theorem dX8_indexOf_21 : decode cX8_indexOf 21 = .ok (.if_icmp .ne 15, 3) := by decide +kernel
theorem dX8_indexOf_24 : decode cX8_indexOf 24 = .ok (.aload_n 0, 1) := by decide +kernel
theorem dX8_indexOf_25 : decode cX8_indexOf 25 = .ok (.getfield 22, 3) := by decide +kernel
theorem dX8_indexOf_28 : decode cX8_indexOf 28 = .ok (.iload_n 3, 1) := by decide +kernel
theorem dX8_indexOf_29 : decode cX8_indexOf 29 = .ok (.iaload, 1) := by decide +kernel
theorem dX8_indexOf_30 : decode cX8_indexOf 30 = .ok (.iload_n 2, 1) := by decide +kernel
theorem dX8_indexOf_31 : decode cX8_indexOf 31 = .ok (.if_icmp .ne 5, 3) := by decide +kernel
theorem dX8_indexOf_34 : decode cX8_indexOf 34 = .ok (.iload_n 3, 1) := by decide +kernel
theorem dX8_indexOf_35 : decode cX8_indexOf 35 = .ok (.ireturn, 1) := by decide +kernel
theorem dX8_indexOf_36 : decode cX8_indexOf 36 = .ok (.iinc 3 1, 3) := by decide +kernel
theorem dX8_indexOf_39 : decode cX8_indexOf 39 = .ok (.goto (-33), 3) := by decide +kernel
theorem dX8_indexOf_42 : decode cX8_indexOf 42 = .ok (.iconst (-1), 1) := by decide +kernel
theorem dX8_indexOf_43 : decode cX8_indexOf 43 = .ok (.ireturn, 1) := by decide +kernel
theorem dX8_find_0 : decode cX8_find 0 = .ok (.aload_n 0, 1) := by decide +kernel
theorem dX8_find_1 : decode cX8_find 1 = .ok (.getfield 63, 3) := by decide +kernel
theorem dX8_find_4 : decode cX8_find 4 = .ok (.ifCond .eq 4, 3) := by decide +kernel
theorem dX8_find_7 : decode cX8_find 7 = .ok (.return_, 1) := by decide +kernel
theorem dX8_find_8 : decode cX8_find 8 = .ok (.aload_n 0, 1) := by decide +kernel
theorem dX8_find_9 : decode cX8_find 9 = .ok (.getfield 55, 3) := by decide +kernel
theorem dX8_find_12 : decode cX8_find 12 = .ok (.invokevirtual 73, 3) := by decide +kernel
theorem dX8_find_15 : decode cX8_find 15 = .ok (.aload_n 0, 1) := by decide +kernel
theorem dX8_find_16 : decode cX8_find 16 = .ok (.getfield 55, 3) := by decide +kernel
theorem dX8_find_19 : decode cX8_find 19 = .ok (.iconst 0, 1) := by decide +kernel
theorem dX8_find_20 : decode cX8_find 20 = .ok (.aload_n 0, 1) := by decide +kernel
theorem dX8_find_21 : decode cX8_find 21 = .ok (.getfield 9, 3) := by decide +kernel
theorem dX8_find_24 : decode cX8_find 24 = .ok (.invokevirtual 78, 3) := by decide +kernel
theorem dX8_find_27 : decode cX8_find 27 = .ok (.aload_n 0, 1) := by decide +kernel
theorem dX8_find_28 : decode cX8_find 28 = .ok (.getfield 55, 3) := by decide +kernel
theorem dX8_find_31 : decode cX8_find 31 = .ok (.iconst 1, 1) := by decide +kernel
theorem dX8_find_32 : decode cX8_find 32 = .ok (.aload_n 0, 1) := by decide +kernel
theorem dX8_find_33 : decode cX8_find 33 = .ok (.getfield 15, 3) := by decide +kernel
theorem dX8_find_36 : decode cX8_find 36 = .ok (.invokevirtual 78, 3) := by decide +kernel
theorem dX8_find_39 : decode cX8_find 39 = .ok (.aload_n 0, 1) := by decide +kernel
theorem dX8_find_40 : decode cX8_find 40 = .ok (.iconst 0, 1) := by decide +kernel
theorem dX8_find_41 : decode cX8_find 41 = .ok (.putfield 70, 3) := by decide +kernel
theorem dX8_find_44 : decode cX8_find 44 = .ok (.iconst 0, 1) := by decide +kernel
theorem dX8_find_45 : decode cX8_find 45 = .ok (.istore_n 1, 1) := by decide +kernel
theorem dX8_find_46 : decode cX8_find 46 = .ok (.iload_n 1, 1) := by decide +kernel
theorem dX8_find_47 : decode cX8_find 47 = .ok (.aload_n 0, 1) := by decide +kernel
theorem dX8_find_48 : decode cX8_find 48 = .ok (.getfield 51, 3) := by decide +kernel
theorem dX8_find_51 : decode cX8_find 51 = .ok (.getfield 82, 3) := by decide +kernel
theorem dX8_find_54 : decode cX8_find 54 = .ok (.if_icmp .ge 64, 3) := by decide +kernel
theorem dX8_find_57 : decode cX8_find 57 = .ok (.iload_n 1, 1) := by decide +kernel
theorem dX8_find_58 : decode cX8_find 58 = .ok (.bipush 97, 2) := by decide +kernel
theorem dX8_find_60 : decode cX8_find 60 = .ok (.if_icmp .ge 58, 3) := by decide +kernel
theorem dX8_find_63 : decode cX8_find 63 = .ok (.iconst 0, 1) := by decide +kernel
theorem dX8_find_64 : decode cX8_find 64 = .ok (.istore_n 2, 1) := by decide +kernel
theorem dX8_find_65 : decode cX8_find 65 = .ok (.aload_n 0, 1) := by decide +kernel
theorem dX8_find_66 : decode cX8_find 66 = .ok (.getfield 9, 3) := by decide +kernel
theorem dX8_find_69 : decode cX8_find 69 = .ok (.iload_n 1, 1) := by decide +kernel
theorem dX8_find_70 : decode cX8_find 70 = .ok (.baload, 1) := by decide +kernel
theorem dX8_find_71 : decode cX8_find 71 = .ok (.ifCond .eq 41, 3) := by decide +kernel
theorem dX8_find_74 : decode cX8_find 74 = .ok (.iload_n 2, 1) := by decide +kernel
theorem dX8_find_75 : decode cX8_find 75 = .ok (.aload_n 0, 1) := by decide +kernel
theorem dX8_find_76 : decode cX8_find 76 = .ok (.getfield 51, 3) := by decide +kernel
theorem dX8_find_79 : decode cX8_find 79 = .ok (.getfield 82, 3) := by decide +kernel
theorem dX8_find_82 : decode cX8_find 82 = .ok (.if_icmp .ge 30, 3) := by decide +kernel
theorem dX8_find_85 : decode cX8_find 85 = .ok (.iload_n 2, 1) := by decide +kernel
theorem dX8_find_86 : decode cX8_find 86 = .ok (.bipush 97, 2) := by decide +kernel
theorem dX8_find_88 : decode cX8_find 88 = .ok (.if_icmp .ge 24, 3) := by decide +kernel
theorem dX8_find_91 : decode cX8_find 91 = .ok (.aload_n 0, 1) := by decide +kernel
theorem dX8_find_92 : decode cX8_find 92 = .ok (.getfield 15, 3) := by decide +kernel
theorem dX8_find_95 : decode cX8_find 95 = .ok (.iload_n 2, 1) := by decide +kernel
theorem dX8_find_96 : decode cX8_find 96 = .ok (.baload, 1) := by decide +kernel
theorem dX8_find_97 : decode cX8_find 97 = .ok (.ifCond .eq 9, 3) := by decide +kernel
theorem dX8_find_100 : decode cX8_find 100 = .ok (.aload_n 0, 1) := by decide +kernel
theorem dX8_find_101 : decode cX8_find 101 = .ok (.iload_n 1, 1) := by decide +kernel
theorem dX8_find_102 : decode cX8_find 102 = .ok (.iload_n 2, 1) := by decide +kernel
theorem dX8_find_103 : decode cX8_find 103 = .ok (.invokevirtual 87, 3) := by decide +kernel
theorem dX8_find_106 : decode cX8_find 106 = .ok (.iinc 2 1, 3) := by decide +kernel
theorem dX8_find_109 : decode cX8_find 109 = .ok (.goto (-44), 3) := by decide +kernel
theorem dX8_find_112 : decode cX8_find 112 = .ok (.iinc 1 1, 3) := by decide +kernel
theorem dX8_find_115 : decode cX8_find 115 = .ok (.goto (-69), 3) := by decide +kernel
theorem dX8_find_118 : decode cX8_find 118 = .ok (.aload_n 0, 1) := by decide +kernel
theorem dX8_find_119 : decode cX8_find 119 = .ok (.getfield 25, 3) := by decide +kernel
theorem dX8_find_122 : decode cX8_find 122 = .ok (.iconst (-1), 1) := by decide +kernel
theorem dX8_find_123 : decode cX8_find 123 = .ok (.invokestatic 90, 3) := by decide +kernel
theorem dX8_find_126 : decode cX8_find 126 = .ok (.aload_n 0, 1) := by decide +kernel
theorem dX8_find_127 : decode cX8_find 127 = .ok (.iconst 1, 1) := by decide +kernel
theorem dX8_find_128 : decode cX8_find 128 = .ok (.putfield 63, 3) := by decide +kernel
theorem dX8_find_131 : decode cX8_find 131 = .ok (.return_, 1) := by decide +kernel
theorem dX8_tryPoint_0 : decode cX8_tryPoint 0 = .ok (.aload_n 0, 1) := by decide +kernel
theorem dX8_tryPoint_1 : decode cX8_tryPoint 1 = .ok (.getfield 59, 3) := by decide +kernel
theorem dX8_tryPoint_4 : decode cX8_tryPoint 4 = .ok (.iload_n 1, 1) := by decide +kernel
theorem dX8_tryPoint_5 : decode cX8_tryPoint 5 = .ok (.iload_n 2, 1) := by decide +kernel
theorem dX8_tryPoint_6 : decode cX8_tryPoint 6 = .ok (.aload_n 0, 1) := by decide +kernel
theorem dX8_tryPoint_7 : decode cX8_tryPoint 7 = .ok (.getfield 51, 3) := by decide +kernel
theorem dX8_tryPoint_10 : decode cX8_tryPoint 10 = .ok (.getfield 82, 3) := by decide +kernel
theorem dX8_tryPoint_13 : decode cX8_tryPoint 13 = .ok (.invokevirtual 96, 3) := by decide +kernel
theorem dX8_tryPoint_16 : decode cX8_tryPoint 16 = .ok (.aload_n 0, 1) := by decide +kernel
theorem dX8_tryPoint_17 : decode cX8_tryPoint 17 = .ok (.getfield 70, 3) := by decide +kernel
theorem dX8_tryPoint_20 : decode cX8_tryPoint 20 = .ok (.bipush 12, 2) := by decide +kernel
theorem dX8_tryPoint_22 : decode cX8_tryPoint 22 = .ok (.if_icmp .ge 47, 3) := by decide +kernel
theorem dX8_tryPoint_25 : decode cX8_tryPoint 25 = .ok (.aload_n 0, 1) := by decide +kernel
theorem dX8_tryPoint_26 : decode cX8_tryPoint 26 = .ok (.getfield 59, 3) := by decide +kernel
theorem dX8_tryPoint_29 : decode cX8_tryPoint 29 = .ok (.aload_n 0, 1) := by decide +kernel
theorem dX8_tryPoint_30 : decode cX8_tryPoint 30 = .ok (.getfield 51, 3) := by decide +kernel
theorem dX8_tryPoint_33 : decode cX8_tryPoint 33 = .ok (.invokevirtual 102, 3) := by decide +kernel
theorem dX8_tryPoint_36 : decode cX8_tryPoint 36 = .ok (.ifCond .eq 33, 3) := by decide +kernel
theorem dX8_tryPoint_39 : decode cX8_tryPoint 39 = .ok (.aload_n 0, 1) := by decide +kernel
theorem dX8_tryPoint_40 : decode cX8_tryPoint 40 = .ok (.getfield 18, 3) := by decide +kernel
theorem dX8_tryPoint_43 : decode cX8_tryPoint 43 = .ok (.aload_n 0, 1) := by decide +kernel
theorem dX8_tryPoint_44 : decode cX8_tryPoint 44 = .ok (.getfield 70, 3) := by decide +kernel
theorem dX8_tryPoint_47 : decode cX8_tryPoint 47 = .ok (.iload_n 1, 1) := by decide +kernel
theorem dX8_tryPoint_48 : decode cX8_tryPoint 48 = .ok (.iastore, 1) := by decide +kernel
theorem dX8_tryPoint_49 : decode cX8_tryPoint 49 = .ok (.aload_n 0, 1) := by decide +kernel
theorem dX8_tryPoint_50 : decode cX8_tryPoint 50 = .ok (.getfield 22, 3) := by decide +kernel
theorem dX8_tryPoint_53 : decode cX8_tryPoint 53 = .ok (.aload_n 0, 1) := by decide +kernel
theorem dX8_tryPoint_54 : decode cX8_tryPoint 54 = .ok (.getfield 70, 3) := by decide +kernel
theorem dX8_tryPoint_57 : decode cX8_tryPoint 57 = .ok (.iload_n 2, 1) := by decide +kernel
theorem dX8_tryPoint_58 : decode cX8_tryPoint 58 = .ok (.iastore, 1) := by decide +kernel
theorem dX8_tryPoint_59 : decode cX8_tryPoint 59 = .ok (.aload_n 0, 1) := by decide +kernel
theorem dX8_tryPoint_60 : decode cX8_tryPoint 60 = .ok (.dup, 1) := by decide +kernel
theorem dX8_tryPoint_61 : decode cX8_tryPoint 61 = .ok (.getfield 70, 3) := by decide +kernel
theorem dX8_tryPoint_64 : decode cX8_tryPoint 64 = .ok (.iconst 1, 1) := by decide +kernel
theorem dX8_tryPoint_65 : decode cX8_tryPoint 65 = .ok (.iadd, 1) := by decide +kernel
theorem dX8_tryPoint_66 : decode cX8_tryPoint 66 = .ok (.putfield 70, 3) := by decide +kernel
theorem dX8_tryPoint_69 : decode cX8_tryPoint 69 = .ok (.return_, 1) := by decide +kernel
theorem dX8_multiplicityOf_0 : decode cX8_multiplicityOf 0 = .ok (.iload_n 1, 1) := by decide +kernel
theorem dX8_multiplicityOf_1 : decode cX8_multiplicityOf 1 = .ok (.aload_n 0, 1) := by decide +kernel
theorem dX8_multiplicityOf_2 : decode cX8_multiplicityOf 2 = .ok (.getfield 70, 3) := by decide +kernel
theorem dX8_multiplicityOf_5 : decode cX8_multiplicityOf 5 = .ok (.iconst 1, 1) := by decide +kernel
theorem dX8_multiplicityOf_6 : decode cX8_multiplicityOf 6 = .ok (.isub, 1) := by decide +kernel
theorem dX8_multiplicityOf_7 : decode cX8_multiplicityOf 7 = .ok (.invokestatic 106, 3) := by decide +kernel
theorem dX8_multiplicityOf_10 : decode cX8_multiplicityOf 10 = .ok (.ifCond .eq 5, 3) := by decide +kernel
theorem dX8_multiplicityOf_13 : decode cX8_multiplicityOf 13 = .ok (.iconst 0, 1) := by decide +kernel
theorem dX8_multiplicityOf_14 : decode cX8_multiplicityOf 14 = .ok (.ireturn, 1) := by decide +kernel
theorem dX8_multiplicityOf_15 : decode cX8_multiplicityOf 15 = .ok (.aload_n 0, 1) := by decide +kernel
theorem dX8_multiplicityOf_16 : decode cX8_multiplicityOf 16 = .ok (.getfield 25, 3) := by decide +kernel
theorem dX8_multiplicityOf_19 : decode cX8_multiplicityOf 19 = .ok (.iload_n 1, 1) := by decide +kernel
theorem dX8_multiplicityOf_20 : decode cX8_multiplicityOf 20 = .ok (.iaload, 1) := by decide +kernel
theorem dX8_multiplicityOf_21 : decode cX8_multiplicityOf 21 = .ok (.iconst (-1), 1) := by decide +kernel
theorem dX8_multiplicityOf_22 : decode cX8_multiplicityOf 22 = .ok (.if_icmp .ne 106, 3) := by decide +kernel
theorem dX8_multiplicityOf_25 : decode cX8_multiplicityOf 25 = .ok (.aload_n 0, 1) := by decide +kernel
theorem dX8_multiplicityOf_26 : decode cX8_multiplicityOf 26 = .ok (.getfield 51, 3) := by decide +kernel
theorem dX8_multiplicityOf_29 : decode cX8_multiplicityOf 29 = .ok (.getfield 110, 3) := by decide +kernel
theorem dX8_multiplicityOf_32 : decode cX8_multiplicityOf 32 = .ok (.istore_n 2, 1) := by decide +kernel
theorem dX8_multiplicityOf_33 : decode cX8_multiplicityOf 33 = .ok (.aload_n 0, 1) := by decide +kernel
theorem dX8_multiplicityOf_34 : decode cX8_multiplicityOf 34 = .ok (.getfield 37, 3) := by decide +kernel
theorem dX8_multiplicityOf_37 : decode cX8_multiplicityOf 37 = .ok (.iconst 2, 1) := by decide +kernel
theorem dX8_multiplicityOf_38 : decode cX8_multiplicityOf 38 = .ok (.iload_n 2, 1) := by decide +kernel
theorem dX8_multiplicityOf_39 : decode cX8_multiplicityOf 39 = .ok (.imul, 1) := by decide +kernel
theorem dX8_multiplicityOf_40 : decode cX8_multiplicityOf 40 = .ok (.iload_n 2, 1) := by decide +kernel
theorem dX8_multiplicityOf_41 : decode cX8_multiplicityOf 41 = .ok (.invokevirtual 113, 3) := by decide +kernel
theorem dX8_multiplicityOf_44 : decode cX8_multiplicityOf 44 = .ok (.aload_n 0, 1) := by decide +kernel
theorem dX8_multiplicityOf_45 : decode cX8_multiplicityOf 45 = .ok (.getfield 55, 3) := by decide +kernel
theorem dX8_multiplicityOf_48 : decode cX8_multiplicityOf 48 = .ok (.aload_n 0, 1) := by decide +kernel
theorem dX8_multiplicityOf_49 : decode cX8_multiplicityOf 49 = .ok (.getfield 33, 3) := by decide +kernel
theorem dX8_multiplicityOf_52 : decode cX8_multiplicityOf 52 = .ok (.iconst 0, 1) := by decide +kernel
theorem dX8_multiplicityOf_53 : decode cX8_multiplicityOf 53 = .ok (.aload_n 0, 1) := by decide +kernel
theorem dX8_multiplicityOf_54 : decode cX8_multiplicityOf 54 = .ok (.getfield 18, 3) := by decide +kernel
theorem dX8_multiplicityOf_57 : decode cX8_multiplicityOf 57 = .ok (.iload_n 1, 1) := by decide +kernel
theorem dX8_multiplicityOf_58 : decode cX8_multiplicityOf 58 = .ok (.iaload, 1) := by decide +kernel
theorem dX8_multiplicityOf_59 : decode cX8_multiplicityOf 59 = .ok (.iload_n 2, 1) := by decide +kernel
theorem dX8_multiplicityOf_60 : decode cX8_multiplicityOf 60 = .ok (.invokevirtual 116, 3) := by decide +kernel
theorem dX8_multiplicityOf_63 : decode cX8_multiplicityOf 63 = .ok (.aload_n 0, 1) := by decide +kernel
theorem dX8_multiplicityOf_64 : decode cX8_multiplicityOf 64 = .ok (.getfield 37, 3) := by decide +kernel
theorem dX8_multiplicityOf_67 : decode cX8_multiplicityOf 67 = .ok (.aload_n 0, 1) := by decide +kernel
theorem dX8_multiplicityOf_68 : decode cX8_multiplicityOf 68 = .ok (.getfield 33, 3) := by decide +kernel
theorem dX8_multiplicityOf_71 : decode cX8_multiplicityOf 71 = .ok (.iconst 0, 1) := by decide +kernel
theorem dX8_multiplicityOf_72 : decode cX8_multiplicityOf 72 = .ok (.invokevirtual 120, 3) := by decide +kernel
theorem dX8_multiplicityOf_75 : decode cX8_multiplicityOf 75 = .ok (.aload_n 0, 1) := by decide +kernel
theorem dX8_multiplicityOf_76 : decode cX8_multiplicityOf 76 = .ok (.getfield 55, 3) := by decide +kernel
theorem dX8_multiplicityOf_79 : decode cX8_multiplicityOf 79 = .ok (.aload_n 0, 1) := by decide +kernel
theorem dX8_multiplicityOf_80 : decode cX8_multiplicityOf 80 = .ok (.getfield 33, 3) := by decide +kernel
theorem dX8_multiplicityOf_83 : decode cX8_multiplicityOf 83 = .ok (.iconst 1, 1) := by decide +kernel
theorem dX8_multiplicityOf_84 : decode cX8_multiplicityOf 84 = .ok (.aload_n 0, 1) := by decide +kernel
theorem dX8_multiplicityOf_85 : decode cX8_multiplicityOf 85 = .ok (.getfield 22, 3) := by decide +kernel
theorem dX8_multiplicityOf_88 : decode cX8_multiplicityOf 88 = .ok (.iload_n 1, 1) := by decide +kernel
theorem dX8_multiplicityOf_89 : decode cX8_multiplicityOf 89 = .ok (.iaload, 1) := by decide +kernel
theorem dX8_multiplicityOf_90 : decode cX8_multiplicityOf 90 = .ok (.iload_n 2, 1) := by decide +kernel
theorem dX8_multiplicityOf_91 : decode cX8_multiplicityOf 91 = .ok (.invokevirtual 116, 3) := by decide +kernel
theorem dX8_multiplicityOf_94 : decode cX8_multiplicityOf 94 = .ok (.aload_n 0, 1) := by decide +kernel
theorem dX8_multiplicityOf_95 : decode cX8_multiplicityOf 95 = .ok (.getfield 37, 3) := by decide +kernel
theorem dX8_multiplicityOf_98 : decode cX8_multiplicityOf 98 = .ok (.aload_n 0, 1) := by decide +kernel
theorem dX8_multiplicityOf_99 : decode cX8_multiplicityOf 99 = .ok (.getfield 33, 3) := by decide +kernel
theorem dX8_multiplicityOf_102 : decode cX8_multiplicityOf 102 = .ok (.iload_n 2, 1) := by decide +kernel
theorem dX8_multiplicityOf_103 : decode cX8_multiplicityOf 103 = .ok (.invokevirtual 120, 3) := by decide +kernel
theorem dX8_multiplicityOf_106 : decode cX8_multiplicityOf 106 = .ok (.aload_n 0, 1) := by decide +kernel
theorem dX8_multiplicityOf_107 : decode cX8_multiplicityOf 107 = .ok (.getfield 25, 3) := by decide +kernel
theorem dX8_multiplicityOf_110 : decode cX8_multiplicityOf 110 = .ok (.iload_n 1, 1) := by decide +kernel
theorem dX8_multiplicityOf_111 : decode cX8_multiplicityOf 111 = .ok (.iload_n 2, 1) := by decide +kernel
theorem dX8_multiplicityOf_112 : decode cX8_multiplicityOf 112 = .ok (.aload_n 0, 1) := by decide +kernel
theorem dX8_multiplicityOf_113 : decode cX8_multiplicityOf 113 = .ok (.getfield 37, 3) := by decide +kernel
theorem dX8_multiplicityOf_116 : decode cX8_multiplicityOf 116 = .ok (.aload_n 0, 1) := by decide +kernel
theorem dX8_multiplicityOf_117 : decode cX8_multiplicityOf 117 = .ok (.getfield 51, 3) := by decide +kernel
theorem dX8_multiplicityOf_120 : decode cX8_multiplicityOf 120 = .ok (.getfield 82, 3) := by decide +kernel
theorem dX8_multiplicityOf_123 : decode cX8_multiplicityOf 123 = .ok (.invokevirtual 124, 3) := by decide +kernel
theorem dX8_multiplicityOf_126 : decode cX8_multiplicityOf 126 = .ok (.isub, 1) := by decide +kernel
theorem dX8_multiplicityOf_127 : decode cX8_multiplicityOf 127 = .ok (.iastore, 1) := by decide +kernel
theorem dX8_multiplicityOf_128 : decode cX8_multiplicityOf 128 = .ok (.aload_n 0, 1) := by decide +kernel
theorem dX8_multiplicityOf_129 : decode cX8_multiplicityOf 129 = .ok (.getfield 25, 3) := by decide +kernel
theorem dX8_multiplicityOf_132 : decode cX8_multiplicityOf 132 = .ok (.iload_n 1, 1) := by decide +kernel
theorem dX8_multiplicityOf_133 : decode cX8_multiplicityOf 133 = .ok (.iaload, 1) := by decide +kernel
theorem dX8_multiplicityOf_134 : decode cX8_multiplicityOf 134 = .ok (.ireturn, 1) := by decide +kernel
theorem dX8_allMultiplicities_0 : decode cX8_allMultiplicities 0 = .ok (.aload_n 0, 1) := by decide +kernel
theorem dX8_allMultiplicities_1 : decode cX8_allMultiplicities 1 = .ok (.invokevirtual 67, 3) := by decide +kernel
theorem dX8_allMultiplicities_4 : decode cX8_allMultiplicities 4 = .ok (.iconst 0, 1) := by decide +kernel
theorem dX8_allMultiplicities_5 : decode cX8_allMultiplicities 5 = .ok (.istore_n 1, 1) := by decide +kernel
theorem dX8_allMultiplicities_6 : decode cX8_allMultiplicities 6 = .ok (.iconst 0, 1) := by decide +kernel
theorem dX8_allMultiplicities_7 : decode cX8_allMultiplicities 7 = .ok (.istore_n 2, 1) := by decide +kernel
theorem dX8_allMultiplicities_8 : decode cX8_allMultiplicities 8 = .ok (.iload_n 2, 1) := by decide +kernel
theorem dX8_allMultiplicities_9 : decode cX8_allMultiplicities 9 = .ok (.aload_n 0, 1) := by decide +kernel
theorem dX8_allMultiplicities_10 : decode cX8_allMultiplicities 10 = .ok (.getfield 70, 3) := by decide +kernel
theorem dX8_allMultiplicities_13 : decode cX8_allMultiplicities 13 = .ok (.if_icmp .ge 17, 3) := by decide +kernel
theorem dX8_allMultiplicities_16 : decode cX8_allMultiplicities 16 = .ok (.iload_n 1, 1) := by decide +kernel
theorem dX8_allMultiplicities_17 : decode cX8_allMultiplicities 17 = .ok (.aload_n 0, 1) := by decide +kernel
theorem dX8_allMultiplicities_18 : decode cX8_allMultiplicities 18 = .ok (.iload_n 2, 1) := by decide +kernel
theorem dX8_allMultiplicities_19 : decode cX8_allMultiplicities 19 = .ok (.invokevirtual 128, 3) := by decide +kernel
theorem dX8_allMultiplicities_22 : decode cX8_allMultiplicities 22 = .ok (.iadd, 1) := by decide +kernel
theorem dX8_allMultiplicities_23 : decode cX8_allMultiplicities 23 = .ok (.istore_n 1, 1) := by decide +kernel
theorem dX8_allMultiplicities_24 : decode cX8_allMultiplicities 24 = .ok (.iinc 2 1, 3) := by decide +kernel
theorem dX8_allMultiplicities_27 : decode cX8_allMultiplicities 27 = .ok (.goto (-19), 3) := by decide +kernel
theorem dX8_allMultiplicities_30 : decode cX8_allMultiplicities 30 = .ok (.iload_n 1, 1) := by decide +kernel
theorem dX8_allMultiplicities_31 : decode cX8_allMultiplicities 31 = .ok (.ireturn, 1) := by decide +kernel
theorem dX8_distinctEverywhere_0 : decode cX8_distinctEverywhere 0 = .ok (.aload_n 0, 1) := by decide +kernel
theorem dX8_distinctEverywhere_1 : decode cX8_distinctEverywhere 1 = .ok (.getfield 47, 3) := by decide +kernel
theorem dX8_distinctEverywhere_4 : decode cX8_distinctEverywhere 4 = .ok (.iconst (-1), 1) := by decide +kernel
theorem dX8_distinctEverywhere_5 : decode cX8_distinctEverywhere 5 = .ok (.if_icmp .ne 32, 3) := by decide +kernel
theorem dX8_distinctEverywhere_8 : decode cX8_distinctEverywhere 8 = .ok (.aload_n 0, 1) := by decide +kernel
theorem dX8_distinctEverywhere_9 : decode cX8_distinctEverywhere 9 = .ok (.getfield 55, 3) := by decide +kernel
theorem dX8_distinctEverywhere_12 : decode cX8_distinctEverywhere 12 = .ok (.invokevirtual 73, 3) := by decide +kernel
theorem dX8_distinctEverywhere_15 : decode cX8_distinctEverywhere 15 = .ok (.aload_n 0, 1) := by decide +kernel
theorem dX8_distinctEverywhere_16 : decode cX8_distinctEverywhere 16 = .ok (.invokevirtual 131, 3) := by decide +kernel
theorem dX8_distinctEverywhere_19 : decode cX8_distinctEverywhere 19 = .ok (.aload_n 0, 1) := by decide +kernel
theorem dX8_distinctEverywhere_20 : decode cX8_distinctEverywhere 20 = .ok (.aload_n 0, 1) := by decide +kernel
theorem dX8_distinctEverywhere_21 : decode cX8_distinctEverywhere 21 = .ok (.getfield 40, 3) := by decide +kernel
theorem dX8_distinctEverywhere_24 : decode cX8_distinctEverywhere 24 = .ok (.aload_n 0, 1) := by decide +kernel
theorem dX8_distinctEverywhere_25 : decode cX8_distinctEverywhere 25 = .ok (.getfield 51, 3) := by decide +kernel
theorem dX8_distinctEverywhere_28 : decode cX8_distinctEverywhere 28 = .ok (.getfield 82, 3) := by decide +kernel
theorem dX8_distinctEverywhere_31 : decode cX8_distinctEverywhere 31 = .ok (.invokevirtual 124, 3) := by decide +kernel
theorem dX8_distinctEverywhere_34 : decode cX8_distinctEverywhere 34 = .ok (.putfield 47, 3) := by decide +kernel
theorem dX8_distinctEverywhere_37 : decode cX8_distinctEverywhere 37 = .ok (.aload_n 0, 1) := by decide +kernel
theorem dX8_distinctEverywhere_38 : decode cX8_distinctEverywhere 38 = .ok (.getfield 47, 3) := by decide +kernel
theorem dX8_distinctEverywhere_41 : decode cX8_distinctEverywhere 41 = .ok (.ireturn, 1) := by decide +kernel
theorem dX8_fillForm_0 : decode cX8_fillForm 0 = .ok (.aload_n 0, 1) := by decide +kernel
theorem dX8_fillForm_1 : decode cX8_fillForm 1 = .ok (.invokevirtual 134, 3) := by decide +kernel
theorem dX8_fillForm_4 : decode cX8_fillForm 4 = .ok (.aload_n 0, 1) := by decide +kernel
theorem dX8_fillForm_5 : decode cX8_fillForm 5 = .ok (.getfield 40, 3) := by decide +kernel
theorem dX8_fillForm_8 : decode cX8_fillForm 8 = .ok (.aload_n 0, 1) := by decide +kernel
theorem dX8_fillForm_9 : decode cX8_fillForm 9 = .ok (.getfield 51, 3) := by decide +kernel
theorem dX8_fillForm_12 : decode cX8_fillForm 12 = .ok (.getfield 110, 3) := by decide +kernel
theorem dX8_fillForm_15 : decode cX8_fillForm 15 = .ok (.aload_n 0, 1) := by decide +kernel
theorem dX8_fillForm_16 : decode cX8_fillForm 16 = .ok (.getfield 51, 3) := by decide +kernel
theorem dX8_fillForm_19 : decode cX8_fillForm 19 = .ok (.getfield 110, 3) := by decide +kernel
theorem dX8_fillForm_22 : decode cX8_fillForm 22 = .ok (.invokevirtual 113, 3) := by decide +kernel
theorem dX8_fillForm_25 : decode cX8_fillForm 25 = .ok (.iconst 0, 1) := by decide +kernel
theorem dX8_fillForm_26 : decode cX8_fillForm 26 = .ok (.istore_n 1, 1) := by decide +kernel
theorem dX8_fillForm_27 : decode cX8_fillForm 27 = .ok (.iload_n 1, 1) := by decide +kernel
theorem dX8_fillForm_28 : decode cX8_fillForm 28 = .ok (.aload_n 0, 1) := by decide +kernel
theorem dX8_fillForm_29 : decode cX8_fillForm 29 = .ok (.getfield 51, 3) := by decide +kernel
theorem dX8_fillForm_32 : decode cX8_fillForm 32 = .ok (.getfield 110, 3) := by decide +kernel
theorem dX8_fillForm_35 : decode cX8_fillForm 35 = .ok (.if_icmp .ge 83, 3) := by decide +kernel
theorem dX8_fillForm_38 : decode cX8_fillForm 38 = .ok (.iconst 0, 1) := by decide +kernel
theorem dX8_fillForm_39 : decode cX8_fillForm 39 = .ok (.istore_n 2, 1) := by decide +kernel
theorem dX8_fillForm_40 : decode cX8_fillForm 40 = .ok (.iload_n 2, 1) := by decide +kernel
theorem dX8_fillForm_41 : decode cX8_fillForm 41 = .ok (.iload_n 1, 1) := by decide +kernel
theorem dX8_fillForm_42 : decode cX8_fillForm 42 = .ok (.if_icmp .gt 70, 3) := by decide +kernel
theorem dX8_fillForm_45 : decode cX8_fillForm 45 = .ok (.aload_n 0, 1) := by decide +kernel
theorem dX8_fillForm_46 : decode cX8_fillForm 46 = .ok (.getfield 43, 3) := by decide +kernel
theorem dX8_fillForm_49 : decode cX8_fillForm 49 = .ok (.iload_n 1, 1) := by decide +kernel
theorem dX8_fillForm_50 : decode cX8_fillForm 50 = .ok (.aaload, 1) := by decide +kernel
theorem dX8_fillForm_51 : decode cX8_fillForm 51 = .ok (.astore_n 3, 1) := by decide +kernel
theorem dX8_fillForm_52 : decode cX8_fillForm 52 = .ok (.aload_n 0, 1) := by decide +kernel
theorem dX8_fillForm_53 : decode cX8_fillForm 53 = .ok (.getfield 43, 3) := by decide +kernel
theorem dX8_fillForm_56 : decode cX8_fillForm 56 = .ok (.iload_n 2, 1) := by decide +kernel
theorem dX8_fillForm_57 : decode cX8_fillForm 57 = .ok (.aaload, 1) := by decide +kernel
theorem dX8_fillForm_58 : decode cX8_fillForm 58 = .ok (.astore 4, 2) := by decide +kernel
theorem dX8_fillForm_60 : decode cX8_fillForm 60 = .ok (.aload_n 3, 1) := by decide +kernel
theorem dX8_fillForm_61 : decode cX8_fillForm 61 = .ok (.ifnull 45, 3) := by decide +kernel
theorem dX8_fillForm_64 : decode cX8_fillForm 64 = .ok (.aload 4, 2) := by decide +kernel
theorem dX8_fillForm_66 : decode cX8_fillForm 66 = .ok (.ifnull 40, 3) := by decide +kernel
theorem dX8_fillForm_69 : decode cX8_fillForm 69 = .ok (.aload_n 3, 1) := by decide +kernel
theorem dX8_fillForm_70 : decode cX8_fillForm 70 = .ok (.aload 4, 2) := by decide +kernel
theorem dX8_fillForm_72 : decode cX8_fillForm 72 = .ok (.aload_n 0, 1) := by decide +kernel
theorem dX8_fillForm_73 : decode cX8_fillForm 73 = .ok (.getfield 51, 3) := by decide +kernel
theorem dX8_fillForm_76 : decode cX8_fillForm 76 = .ok (.getfield 82, 3) := by decide +kernel
theorem dX8_fillForm_79 : decode cX8_fillForm 79 = .ok (.invokevirtual 137, 3) := by decide +kernel
theorem dX8_fillForm_82 : decode cX8_fillForm 82 = .ok (.istore 5, 2) := by decide +kernel
theorem dX8_fillForm_84 : decode cX8_fillForm 84 = .ok (.aload_n 0, 1) := by decide +kernel
theorem dX8_fillForm_85 : decode cX8_fillForm 85 = .ok (.getfield 40, 3) := by decide +kernel
theorem dX8_fillForm_88 : decode cX8_fillForm 88 = .ok (.iload_n 1, 1) := by decide +kernel
theorem dX8_fillForm_89 : decode cX8_fillForm 89 = .ok (.iload_n 2, 1) := by decide +kernel
theorem dX8_fillForm_90 : decode cX8_fillForm 90 = .ok (.iload 5, 2) := by decide +kernel
theorem dX8_fillForm_92 : decode cX8_fillForm 92 = .ok (.invokevirtual 141, 3) := by decide +kernel
theorem dX8_fillForm_95 : decode cX8_fillForm 95 = .ok (.aload_n 0, 1) := by decide +kernel
theorem dX8_fillForm_96 : decode cX8_fillForm 96 = .ok (.getfield 40, 3) := by decide +kernel
theorem dX8_fillForm_99 : decode cX8_fillForm 99 = .ok (.iload_n 2, 1) := by decide +kernel
theorem dX8_fillForm_100 : decode cX8_fillForm 100 = .ok (.iload_n 1, 1) := by decide +kernel
theorem dX8_fillForm_101 : decode cX8_fillForm 101 = .ok (.iload 5, 2) := by decide +kernel
theorem dX8_fillForm_103 : decode cX8_fillForm 103 = .ok (.invokevirtual 141, 3) := by decide +kernel
theorem dX8_fillForm_106 : decode cX8_fillForm 106 = .ok (.iinc 2 1, 3) := by decide +kernel
theorem dX8_fillForm_109 : decode cX8_fillForm 109 = .ok (.goto (-69), 3) := by decide +kernel
theorem dX8_fillForm_112 : decode cX8_fillForm 112 = .ok (.iinc 1 1, 3) := by decide +kernel
theorem dX8_fillForm_115 : decode cX8_fillForm 115 = .ok (.goto (-88), 3) := by decide +kernel
theorem dX8_fillForm_118 : decode cX8_fillForm 118 = .ok (.return_, 1) := by decide +kernel
theorem dX8_makeMonomialTables_0 : decode cX8_makeMonomialTables 0 = .ok (.iconst 0, 1) := by decide +kernel
theorem dX8_makeMonomialTables_1 : decode cX8_makeMonomialTables 1 = .ok (.istore_n 1, 1) := by decide +kernel
theorem dX8_makeMonomialTables_2 : decode cX8_makeMonomialTables 2 = .ok (.iload_n 1, 1) := by decide +kernel
theorem dX8_makeMonomialTables_3 : decode cX8_makeMonomialTables 3 = .ok (.aload_n 0, 1) := by decide +kernel
theorem dX8_makeMonomialTables_4 : decode cX8_makeMonomialTables 4 = .ok (.getfield 51, 3) := by decide +kernel
theorem dX8_makeMonomialTables_7 : decode cX8_makeMonomialTables 7 = .ok (.getfield 110, 3) := by decide +kernel
theorem dX8_makeMonomialTables_10 : decode cX8_makeMonomialTables 10 = .ok (.if_icmp .ge 63, 3) := by decide +kernel
theorem dX8_makeMonomialTables_13 : decode cX8_makeMonomialTables 13 = .ok (.aload_n 0, 1) := by decide +kernel
theorem dX8_makeMonomialTables_14 : decode cX8_makeMonomialTables 14 = .ok (.getfield 43, 3) := by decide +kernel
theorem dX8_makeMonomialTables_17 : decode cX8_makeMonomialTables 17 = .ok (.iload_n 1, 1) := by decide +kernel
theorem dX8_makeMonomialTables_18 : decode cX8_makeMonomialTables 18 = .ok (.aaload, 1) := by decide +kernel
theorem dX8_makeMonomialTables_19 : decode cX8_makeMonomialTables 19 = .ok (.ifnonnull 20, 3) := by decide +kernel
theorem dX8_makeMonomialTables_22 : decode cX8_makeMonomialTables 22 = .ok (.aload_n 0, 1) := by decide +kernel
theorem dX8_makeMonomialTables_23 : decode cX8_makeMonomialTables 23 = .ok (.getfield 43, 3) := by decide +kernel
theorem dX8_makeMonomialTables_26 : decode cX8_makeMonomialTables 26 = .ok (.iload_n 1, 1) := by decide +kernel
theorem dX8_makeMonomialTables_27 : decode cX8_makeMonomialTables 27 = .ok (.new 28, 3) := by decide +kernel
theorem dX8_makeMonomialTables_30 : decode cX8_makeMonomialTables 30 = .ok (.dup, 1) := by decide +kernel
theorem dX8_makeMonomialTables_31 : decode cX8_makeMonomialTables 31 = .ok (.bipush 12, 2) := by decide +kernel
theorem dX8_makeMonomialTables_33 : decode cX8_makeMonomialTables 33 = .ok (.bipush 12, 2) := by decide +kernel
theorem dX8_makeMonomialTables_35 : decode cX8_makeMonomialTables 35 = .ok (.invokespecial 30, 3) := by decide +kernel
theorem dX8_makeMonomialTables_38 : decode cX8_makeMonomialTables 38 = .ok (.aastore, 1) := by decide +kernel
theorem dX8_makeMonomialTables_39 : decode cX8_makeMonomialTables 39 = .ok (.aload_n 0, 1) := by decide +kernel
theorem dX8_makeMonomialTables_40 : decode cX8_makeMonomialTables 40 = .ok (.aload_n 0, 1) := by decide +kernel
theorem dX8_makeMonomialTables_41 : decode cX8_makeMonomialTables 41 = .ok (.getfield 43, 3) := by decide +kernel
theorem dX8_makeMonomialTables_44 : decode cX8_makeMonomialTables 44 = .ok (.iload_n 1, 1) := by decide +kernel
theorem dX8_makeMonomialTables_45 : decode cX8_makeMonomialTables 45 = .ok (.aaload, 1) := by decide +kernel
theorem dX8_makeMonomialTables_46 : decode cX8_makeMonomialTables 46 = .ok (.aload_n 0, 1) := by decide +kernel
theorem dX8_makeMonomialTables_47 : decode cX8_makeMonomialTables 47 = .ok (.getfield 51, 3) := by decide +kernel
theorem dX8_makeMonomialTables_50 : decode cX8_makeMonomialTables 50 = .ok (.getfield 144, 3) := by decide +kernel
theorem dX8_makeMonomialTables_53 : decode cX8_makeMonomialTables 53 = .ok (.iload_n 1, 1) := by decide +kernel
theorem dX8_makeMonomialTables_54 : decode cX8_makeMonomialTables 54 = .ok (.iaload, 1) := by decide +kernel
theorem dX8_makeMonomialTables_55 : decode cX8_makeMonomialTables 55 = .ok (.aload_n 0, 1) := by decide +kernel
theorem dX8_makeMonomialTables_56 : decode cX8_makeMonomialTables 56 = .ok (.getfield 51, 3) := by decide +kernel
theorem dX8_makeMonomialTables_59 : decode cX8_makeMonomialTables 59 = .ok (.getfield 147, 3) := by decide +kernel
theorem dX8_makeMonomialTables_62 : decode cX8_makeMonomialTables 62 = .ok (.iload_n 1, 1) := by decide +kernel
theorem dX8_makeMonomialTables_63 : decode cX8_makeMonomialTables 63 = .ok (.iaload, 1) := by decide +kernel
theorem dX8_makeMonomialTables_64 : decode cX8_makeMonomialTables 64 = .ok (.invokevirtual 150, 3) := by decide +kernel
theorem dX8_makeMonomialTables_67 : decode cX8_makeMonomialTables 67 = .ok (.iinc 1 1, 3) := by decide +kernel
theorem dX8_makeMonomialTables_70 : decode cX8_makeMonomialTables 70 = .ok (.goto (-68), 3) := by decide +kernel
theorem dX8_makeMonomialTables_73 : decode cX8_makeMonomialTables 73 = .ok (.return_, 1) := by decide +kernel
theorem dX8_makeMonomialTable_0 : decode cX8_makeMonomialTable 0 = .ok (.iload_n 2, 1) := by decide +kernel
theorem dX8_makeMonomialTable_1 : decode cX8_makeMonomialTable 1 = .ok (.ifCond .le 7, 3) := by decide +kernel
theorem dX8_makeMonomialTable_4 : decode cX8_makeMonomialTable 4 = .ok (.iconst 0, 1) := by decide +kernel
theorem dX8_makeMonomialTable_5 : decode cX8_makeMonomialTable 5 = .ok (.goto 4, 3) := by decide +kernel
theorem dX8_makeMonomialTable_8 : decode cX8_makeMonomialTable 8 = .ok (.iconst 1, 1) := by decide +kernel
theorem dX8_makeMonomialTable_9 : decode cX8_makeMonomialTable 9 = .ok (.istore 4, 2) := by decide +kernel
theorem dX8_makeMonomialTable_11 : decode cX8_makeMonomialTable 11 = .ok (.iload_n 2, 1) := by decide +kernel
theorem dX8_makeMonomialTable_12 : decode cX8_makeMonomialTable 12 = .ok (.ifCond .le 17, 3) := by decide +kernel
theorem dX8_makeMonomialTable_15 : decode cX8_makeMonomialTable 15 = .ok (.aload_n 0, 1) := by decide +kernel
theorem dX8_makeMonomialTable_16 : decode cX8_makeMonomialTable 16 = .ok (.getfield 51, 3) := by decide +kernel
theorem dX8_makeMonomialTable_19 : decode cX8_makeMonomialTable 19 = .ok (.iload_n 2, 1) := by decide +kernel
theorem dX8_makeMonomialTable_20 : decode cX8_makeMonomialTable 20 = .ok (.iconst 1, 1) := by decide +kernel
theorem dX8_makeMonomialTable_21 : decode cX8_makeMonomialTable 21 = .ok (.isub, 1) := by decide +kernel
theorem dX8_makeMonomialTable_22 : decode cX8_makeMonomialTable 22 = .ok (.iload_n 3, 1) := by decide +kernel
theorem dX8_makeMonomialTable_23 : decode cX8_makeMonomialTable 23 = .ok (.invokevirtual 154, 3) := by decide +kernel
theorem dX8_makeMonomialTable_26 : decode cX8_makeMonomialTable 26 = .ok (.goto 14, 3) := by decide +kernel
theorem dX8_makeMonomialTable_29 : decode cX8_makeMonomialTable 29 = .ok (.aload_n 0, 1) := by decide +kernel
theorem dX8_makeMonomialTable_30 : decode cX8_makeMonomialTable 30 = .ok (.getfield 51, 3) := by decide +kernel
theorem dX8_makeMonomialTable_33 : decode cX8_makeMonomialTable 33 = .ok (.iload_n 2, 1) := by decide +kernel
theorem dX8_makeMonomialTable_34 : decode cX8_makeMonomialTable 34 = .ok (.iload_n 3, 1) := by decide +kernel
theorem dX8_makeMonomialTable_35 : decode cX8_makeMonomialTable 35 = .ok (.iconst 1, 1) := by decide +kernel
theorem dX8_makeMonomialTable_36 : decode cX8_makeMonomialTable 36 = .ok (.isub, 1) := by decide +kernel
theorem dX8_makeMonomialTable_37 : decode cX8_makeMonomialTable 37 = .ok (.invokevirtual 154, 3) := by decide +kernel
theorem dX8_makeMonomialTable_40 : decode cX8_makeMonomialTable 40 = .ok (.istore 5, 2) := by decide +kernel
theorem dX8_makeMonomialTable_42 : decode cX8_makeMonomialTable 42 = .ok (.iload 5, 2) := by decide +kernel
theorem dX8_makeMonomialTable_44 : decode cX8_makeMonomialTable 44 = .ok (.iconst (-1), 1) := by decide +kernel
theorem dX8_makeMonomialTable_45 : decode cX8_makeMonomialTable 45 = .ok (.if_icmp .eq 13, 3) := by decide +kernel
theorem dX8_makeMonomialTable_48 : decode cX8_makeMonomialTable 48 = .ok (.aload_n 0, 1) := by decide +kernel
theorem dX8_makeMonomialTable_49 : decode cX8_makeMonomialTable 49 = .ok (.getfield 43, 3) := by decide +kernel
theorem dX8_makeMonomialTable_52 : decode cX8_makeMonomialTable 52 = .ok (.iload 5, 2) := by decide +kernel
theorem dX8_makeMonomialTable_54 : decode cX8_makeMonomialTable 54 = .ok (.aaload, 1) := by decide +kernel
theorem dX8_makeMonomialTable_55 : decode cX8_makeMonomialTable 55 = .ok (.ifnonnull 17, 3) := by decide +kernel
theorem dX8_makeMonomialTable_58 : decode cX8_makeMonomialTable 58 = .ok (.aload_n 1, 1) := by decide +kernel
theorem dX8_makeMonomialTable_59 : decode cX8_makeMonomialTable 59 = .ok (.aload_n 0, 1) := by decide +kernel
theorem dX8_makeMonomialTable_60 : decode cX8_makeMonomialTable 60 = .ok (.getfield 51, 3) := by decide +kernel
theorem dX8_makeMonomialTable_63 : decode cX8_makeMonomialTable 63 = .ok (.getfield 110, 3) := by decide +kernel
theorem dX8_makeMonomialTable_66 : decode cX8_makeMonomialTable 66 = .ok (.invokevirtual 158, 3) := by decide +kernel
theorem dX8_makeMonomialTable_69 : decode cX8_makeMonomialTable 69 = .ok (.goto 30, 3) := by decide +kernel
theorem dX8_makeMonomialTable_72 : decode cX8_makeMonomialTable 72 = .ok (.aload_n 1, 1) := by decide +kernel
theorem dX8_makeMonomialTable_73 : decode cX8_makeMonomialTable 73 = .ok (.aload_n 0, 1) := by decide +kernel
theorem dX8_makeMonomialTable_74 : decode cX8_makeMonomialTable 74 = .ok (.getfield 55, 3) := by decide +kernel
theorem dX8_makeMonomialTable_77 : decode cX8_makeMonomialTable 77 = .ok (.iload 4, 2) := by decide +kernel
theorem dX8_makeMonomialTable_79 : decode cX8_makeMonomialTable 79 = .ok (.invokevirtual 162, 3) := by decide +kernel
theorem dX8_makeMonomialTable_82 : decode cX8_makeMonomialTable 82 = .ok (.aload_n 0, 1) := by decide +kernel
theorem dX8_makeMonomialTable_83 : decode cX8_makeMonomialTable 83 = .ok (.getfield 43, 3) := by decide +kernel
theorem dX8_makeMonomialTable_86 : decode cX8_makeMonomialTable 86 = .ok (.iload 5, 2) := by decide +kernel
theorem dX8_makeMonomialTable_88 : decode cX8_makeMonomialTable 88 = .ok (.aaload, 1) := by decide +kernel
theorem dX8_makeMonomialTable_89 : decode cX8_makeMonomialTable 89 = .ok (.aload_n 0, 1) := by decide +kernel
theorem dX8_makeMonomialTable_90 : decode cX8_makeMonomialTable 90 = .ok (.getfield 51, 3) := by decide +kernel
theorem dX8_makeMonomialTable_93 : decode cX8_makeMonomialTable 93 = .ok (.getfield 82, 3) := by decide +kernel
theorem dX8_makeMonomialTable_96 : decode cX8_makeMonomialTable 96 = .ok (.invokevirtual 166, 3) := by decide +kernel
theorem dX8_makeMonomialTable_99 : decode cX8_makeMonomialTable 99 = .ok (.return_, 1) := by decide +kernel
theorem dX9_init_0 : decode cX9_init 0 = .ok (.aload_n 0, 1) := by decide +kernel
theorem dX9_init_1 : decode cX9_init 1 = .ok (.invokespecial 3, 3) := by decide +kernel
theorem dX9_init_4 : decode cX9_init 4 = .ok (.aload_n 0, 1) := by decide +kernel
theorem dX9_init_5 : decode cX9_init 5 = .ok (.new 9, 3) := by decide +kernel
theorem dX9_init_8 : decode cX9_init 8 = .ok (.dup, 1) := by decide +kernel
theorem dX9_init_9 : decode cX9_init 9 = .ok (.invokespecial 11, 3) := by decide +kernel
theorem dX9_init_12 : decode cX9_init 12 = .ok (.putfield 12, 3) := by decide +kernel
theorem dX9_init_15 : decode cX9_init 15 = .ok (.aload_n 0, 1) := by decide +kernel
theorem dX9_init_16 : decode cX9_init 16 = .ok (.new 9, 3) := by decide +kernel
theorem dX9_init_19 : decode cX9_init 19 = .ok (.dup, 1) := by decide +kernel
theorem dX9_init_20 : decode cX9_init 20 = .ok (.invokespecial 11, 3) := by decide +kernel
theorem dX9_init_23 : decode cX9_init 23 = .ok (.putfield 16, 3) := by decide +kernel
theorem dX9_init_26 : decode cX9_init 26 = .ok (.aload_n 0, 1) := by decide +kernel
theorem dX9_init_27 : decode cX9_init 27 = .ok (.new 9, 3) := by decide +kernel
theorem dX9_init_30 : decode cX9_init 30 = .ok (.dup, 1) := by decide +kernel
theorem dX9_init_31 : decode cX9_init 31 = .ok (.invokespecial 11, 3) := by decide +kernel
theorem dX9_init_34 : decode cX9_init 34 = .ok (.putfield 19, 3) := by decide +kernel
theorem dX9_init_37 : decode cX9_init 37 = .ok (.aload_n 0, 1) := by decide +kernel
theorem dX9_init_38 : decode cX9_init 38 = .ok (.iconst 2, 1) := by decide +kernel
theorem dX9_init_39 : decode cX9_init 39 = .ok (.anewarray 9, 3) := by decide +kernel
theorem dX9_init_42 : decode cX9_init 42 = .ok (.putfield 22, 3) := by decide +kernel
theorem dX9_init_45 : decode cX9_init 45 = .ok (.aload_n 0, 1) := by decide +kernel
theorem dX9_init_46 : decode cX9_init 46 = .ok (.new 26, 3) := by decide +kernel
theorem dX9_init_49 : decode cX9_init 49 = .ok (.dup, 1) := by decide +kernel
theorem dX9_init_50 : decode cX9_init 50 = .ok (.invokespecial 28, 3) := by decide +kernel
theorem dX9_init_53 : decode cX9_init 53 = .ok (.putfield 29, 3) := by decide +kernel
theorem dX9_init_56 : decode cX9_init 56 = .ok (.aload_n 0, 1) := by decide +kernel
theorem dX9_init_57 : decode cX9_init 57 = .ok (.bipush 6, 2) := by decide +kernel
theorem dX9_init_59 : decode cX9_init 59 = .ok (.newarray .int, 2) := by decide +kernel
theorem dX9_init_61 : decode cX9_init 61 = .ok (.putfield 33, 3) := by decide +kernel
theorem dX9_init_64 : decode cX9_init 64 = .ok (.aload_n 0, 1) := by decide +kernel
theorem dX9_init_65 : decode cX9_init 65 = .ok (.new 37, 3) := by decide +kernel
theorem dX9_init_68 : decode cX9_init 68 = .ok (.dup, 1) := by decide +kernel
theorem dX9_init_69 : decode cX9_init 69 = .ok (.invokespecial 39, 3) := by decide +kernel
theorem dX9_init_72 : decode cX9_init 72 = .ok (.putfield 40, 3) := by decide +kernel
theorem dX9_init_75 : decode cX9_init 75 = .ok (.aload_n 0, 1) := by decide +kernel
theorem dX9_init_76 : decode cX9_init 76 = .ok (.new 44, 3) := by decide +kernel
theorem dX9_init_79 : decode cX9_init 79 = .ok (.dup, 1) := by decide +kernel
theorem dX9_init_80 : decode cX9_init 80 = .ok (.aload_n 0, 1) := by decide +kernel
theorem dX9_init_81 : decode cX9_init 81 = .ok (.getfield 12, 3) := by decide +kernel
theorem dX9_init_84 : decode cX9_init 84 = .ok (.invokespecial 46, 3) := by decide +kernel
theorem dX9_init_87 : decode cX9_init 87 = .ok (.putfield 49, 3) := by decide +kernel
theorem dX9_init_90 : decode cX9_init 90 = .ok (.aload_n 0, 1) := by decide +kernel
theorem dX9_init_91 : decode cX9_init 91 = .ok (.new 53, 3) := by decide +kernel
theorem dX9_init_94 : decode cX9_init 94 = .ok (.dup, 1) := by decide +kernel
theorem dX9_init_95 : decode cX9_init 95 = .ok (.aload_n 0, 1) := by decide +kernel
theorem dX9_init_96 : decode cX9_init 96 = .ok (.getfield 12, 3) := by decide +kernel
theorem dX9_init_99 : decode cX9_init 99 = .ok (.aload_n 0, 1) := by decide +kernel
theorem dX9_init_100 : decode cX9_init 100 = .ok (.getfield 49, 3) := by decide +kernel
theorem dX9_init_103 : decode cX9_init 103 = .ok (.aload_n 0, 1) := by decide +kernel
theorem dX9_init_104 : decode cX9_init 104 = .ok (.getfield 40, 3) := by decide +kernel
theorem dX9_init_107 : decode cX9_init 107 = .ok (.invokespecial 55, 3) := by decide +kernel
theorem dX9_init_110 : decode cX9_init 110 = .ok (.putfield 58, 3) := by decide +kernel
theorem dX9_init_113 : decode cX9_init 113 = .ok (.aload_n 0, 1) := by decide +kernel
theorem dX9_init_114 : decode cX9_init 114 = .ok (.new 62, 3) := by decide +kernel
theorem dX9_init_117 : decode cX9_init 117 = .ok (.dup, 1) := by decide +kernel
theorem dX9_init_118 : decode cX9_init 118 = .ok (.aload_n 0, 1) := by decide +kernel
theorem dX9_init_119 : decode cX9_init 119 = .ok (.getfield 40, 3) := by decide +kernel
theorem dX9_init_122 : decode cX9_init 122 = .ok (.invokespecial 64, 3) := by decide +kernel
theorem dX9_init_125 : decode cX9_init 125 = .ok (.putfield 67, 3) := by decide +kernel
theorem dX9_init_128 : decode cX9_init 128 = .ok (.aload_n 0, 1) := by decide +kernel
theorem dX9_init_129 : decode cX9_init 129 = .ok (.new 71, 3) := by decide +kernel
theorem dX9_init_132 : decode cX9_init 132 = .ok (.dup, 1) := by decide +kernel
theorem dX9_init_133 : decode cX9_init 133 = .ok (.invokespecial 73, 3) := by decide +kernel
theorem dX9_init_136 : decode cX9_init 136 = .ok (.putfield 74, 3) := by decide +kernel
theorem dX9_init_139 : decode cX9_init 139 = .ok (.aload_n 0, 1) := by decide +kernel
theorem dX9_init_140 : decode cX9_init 140 = .ok (.new 78, 3) := by decide +kernel
theorem dX9_init_143 : decode cX9_init 143 = .ok (.dup, 1) := by decide +kernel
theorem dX9_init_144 : decode cX9_init 144 = .ok (.aload_n 0, 1) := by decide +kernel
theorem dX9_init_145 : decode cX9_init 145 = .ok (.getfield 74, 3) := by decide +kernel
theorem dX9_init_148 : decode cX9_init 148 = .ok (.aload_n 0, 1) := by decide +kernel
theorem dX9_init_149 : decode cX9_init 149 = .ok (.getfield 16, 3) := by decide +kernel
theorem dX9_init_152 : decode cX9_init 152 = .ok (.invokespecial 80, 3) := by decide +kernel
theorem dX9_init_155 : decode cX9_init 155 = .ok (.putfield 83, 3) := by decide +kernel
theorem dX9_init_158 : decode cX9_init 158 = .ok (.aload_n 0, 1) := by decide +kernel
theorem dX9_init_159 : decode cX9_init 159 = .ok (.bipush 12, 2) := by decide +kernel
theorem dX9_init_161 : decode cX9_init 161 = .ok (.newarray .int, 2) := by decide +kernel
theorem dX9_init_163 : decode cX9_init 163 = .ok (.putfield 87, 3) := by decide +kernel
theorem dX9_init_166 : decode cX9_init 166 = .ok (.aload_n 0, 1) := by decide +kernel
theorem dX9_init_167 : decode cX9_init 167 = .ok (.bipush 12, 2) := by decide +kernel
theorem dX9_init_169 : decode cX9_init 169 = .ok (.newarray .int, 2) := by decide +kernel
theorem dX9_init_171 : decode cX9_init 171 = .ok (.putfield 90, 3) := by decide +kernel
theorem dX9_init_174 : decode cX9_init 174 = .ok (.return_, 1) := by decide +kernel
theorem dX9_appendText_0 : decode cX9_appendText 0 = .ok (.aload_n 0, 1) := by decide +kernel
theorem dX9_appendText_1 : decode cX9_appendText 1 = .ok (.getfield 74, 3) := by decide +kernel
theorem dX9_appendText_4 : decode cX9_appendText 4 = .ok (.getfield 93, 3) := by decide +kernel
theorem dX9_appendText_7 : decode cX9_appendText 7 = .ok (.sipush 896, 3) := by decide +kernel
theorem dX9_appendText_10 : decode cX9_appendText 10 = .ok (.if_icmp .le 11, 3) := by decide +kernel
theorem dX9_appendText_13 : decode cX9_appendText 13 = .ok (.new 97, 3) := by decide +kernel
theorem dX9_appendText_16 : decode cX9_appendText 16 = .ok (.dup, 1) := by decide +kernel
theorem dX9_appendText_17 : decode cX9_appendText 17 = .ok (.invokespecial 99, 3) := by decide +kernel
theorem dX9_appendText_20 : decode cX9_appendText 20 = .ok (.athrow, 1) := by decide +kernel
theorem dX9_appendText_21 : decode cX9_appendText 21 = .ok (.bipush 24, 2) := by decide +kernel
theorem dX9_appendText_23 : decode cX9_appendText 23 = .ok (.istore_n 2, 1) := by decide +kernel
theorem dX9_appendText_24 : decode cX9_appendText 24 = .ok (.iload_n 2, 1) := by decide +kernel
theorem dX9_appendText_25 : decode cX9_appendText 25 = .ok (.ifCond .lt 20, 3) := by decide +kernel
theorem dX9_appendText_28 : decode cX9_appendText 28 = .ok (.aload_n 0, 1) := by decide +kernel
theorem dX9_appendText_29 : decode cX9_appendText 29 = .ok (.getfield 74, 3) := by decide +kernel
theorem dX9_appendText_32 : decode cX9_appendText 32 = .ok (.iload_n 1, 1) := by decide +kernel
theorem dX9_appendText_33 : decode cX9_appendText 33 = .ok (.iload_n 2, 1) := by decide +kernel
theorem dX9_appendText_34 : decode cX9_appendText 34 = .ok (.ishr, 1) := by decide +kernel
theorem dX9_appendText_35 : decode cX9_appendText 35 = .ok (.i2b, 1) := by decide +kernel
theorem dX9_appendText_36 : decode cX9_appendText 36 = .ok (.invokevirtual 100, 3) := by decide +kernel
theorem dX9_appendText_39 : decode cX9_appendText 39 = .ok (.iinc 2 (-8), 3) := by decide +kernel
theorem dX9_appendText_42 : decode cX9_appendText 42 = .ok (.goto (-18), 3) := by decide +kernel
theorem dX9_appendText_45 : decode cX9_appendText 45 = .ok (.aload_n 0, 1) := by decide +kernel
theorem dX9_appendText_46 : decode cX9_appendText 46 = .ok (.getfield 74, 3) := by decide +kernel
theorem dX9_appendText_49 : decode cX9_appendText 49 = .ok (.getfield 93, 3) := by decide +kernel
theorem dX9_appendText_52 : decode cX9_appendText 52 = .ok (.ireturn, 1) := by decide +kernel
theorem dX9_truncateText_0 : decode cX9_truncateText 0 = .ok (.iload_n 1, 1) := by decide +kernel
theorem dX9_truncateText_1 : decode cX9_truncateText 1 = .ok (.ifCond .lt 14, 3) := by decide +kernel
theorem dX9_truncateText_4 : decode cX9_truncateText 4 = .ok (.iload_n 1, 1) := by decide +kernel
theorem dX9_truncateText_5 : decode cX9_truncateText 5 = .ok (.aload_n 0, 1) := by decide +kernel
theorem dX9_truncateText_6 : decode cX9_truncateText 6 = .ok (.getfield 74, 3) := by decide +kernel
theorem dX9_truncateText_9 : decode cX9_truncateText 9 = .ok (.getfield 93, 3) := by decide +kernel
theorem dX9_truncateText_12 : decode cX9_truncateText 12 = .ok (.if_icmp .le 11, 3) := by decide +kernel
theorem dX9_truncateText_15 : decode cX9_truncateText 15 = .ok (.new 104, 3) := by decide +kernel
theorem dX9_truncateText_18 : decode cX9_truncateText 18 = .ok (.dup, 1) := by decide +kernel
theorem dX9_truncateText_19 : decode cX9_truncateText 19 = .ok (.invokespecial 106, 3) := by decide +kernel
theorem dX9_truncateText_22 : decode cX9_truncateText 22 = .ok (.athrow, 1) := by decide +kernel
theorem dX9_truncateText_23 : decode cX9_truncateText 23 = .ok (.aload_n 0, 1) := by decide +kernel
theorem dX9_truncateText_24 : decode cX9_truncateText 24 = .ok (.getfield 74, 3) := by decide +kernel
theorem dX9_truncateText_27 : decode cX9_truncateText 27 = .ok (.iload_n 1, 1) := by decide +kernel
theorem dX9_truncateText_28 : decode cX9_truncateText 28 = .ok (.putfield 93, 3) := by decide +kernel
theorem dX9_truncateText_31 : decode cX9_truncateText 31 = .ok (.iload_n 1, 1) := by decide +kernel
theorem dX9_truncateText_32 : decode cX9_truncateText 32 = .ok (.ireturn, 1) := by decide +kernel
theorem dX9_load_0 : decode cX9_load 0 = .ok (.aload_n 0, 1) := by decide +kernel
theorem dX9_load_1 : decode cX9_load 1 = .ok (.getfield 83, 3) := by decide +kernel
theorem dX9_load_4 : decode cX9_load 4 = .ok (.invokevirtual 107, 3) := by decide +kernel
theorem dX9_load_7 : decode cX9_load 7 = .ok (.istore_n 1, 1) := by decide +kernel
theorem dX9_load_8 : decode cX9_load 8 = .ok (.aload_n 0, 1) := by decide +kernel
theorem dX9_load_9 : decode cX9_load 9 = .ok (.getfield 74, 3) := by decide +kernel
theorem dX9_load_12 : decode cX9_load 12 = .ok (.iconst 0, 1) := by decide +kernel
theorem dX9_load_13 : decode cX9_load 13 = .ok (.putfield 93, 3) := by decide +kernel
theorem dX9_load_16 : decode cX9_load 16 = .ok (.iload_n 1, 1) := by decide +kernel
theorem dX9_load_17 : decode cX9_load 17 = .ok (.ifCond .ne 5, 3) := by decide +kernel
theorem dX9_load_20 : decode cX9_load 20 = .ok (.iconst (-1), 1) := by decide +kernel
theorem dX9_load_21 : decode cX9_load 21 = .ok (.ireturn, 1) := by decide +kernel
theorem dX9_load_22 : decode cX9_load 22 = .ok (.aload_n 0, 1) := by decide +kernel
theorem dX9_load_23 : decode cX9_load 23 = .ok (.getfield 12, 3) := by decide +kernel
theorem dX9_load_26 : decode cX9_load 26 = .ok (.aload_n 0, 1) := by decide +kernel
theorem dX9_load_27 : decode cX9_load 27 = .ok (.getfield 83, 3) := by decide +kernel
theorem dX9_load_30 : decode cX9_load 30 = .ok (.getfield 111, 3) := by decide +kernel
theorem dX9_load_33 : decode cX9_load 33 = .ok (.invokevirtual 114, 3) := by decide +kernel
theorem dX9_load_36 : decode cX9_load 36 = .ok (.aload_n 0, 1) := by decide +kernel
theorem dX9_load_37 : decode cX9_load 37 = .ok (.getfield 29, 3) := by decide +kernel
theorem dX9_load_40 : decode cX9_load 40 = .ok (.iconst 0, 1) := by decide +kernel
theorem dX9_load_41 : decode cX9_load 41 = .ok (.putfield 117, 3) := by decide +kernel
theorem dX9_load_44 : decode cX9_load 44 = .ok (.aload_n 0, 1) := by decide +kernel
theorem dX9_load_45 : decode cX9_load 45 = .ok (.getfield 33, 3) := by decide +kernel
theorem dX9_load_48 : decode cX9_load 48 = .ok (.iconst 0, 1) := by decide +kernel
theorem dX9_load_49 : decode cX9_load 49 = .ok (.invokestatic 120, 3) := by decide +kernel
theorem dX9_load_52 : decode cX9_load 52 = .ok (.aload_n 0, 1) := by decide +kernel
theorem dX9_load_53 : decode cX9_load 53 = .ok (.invokevirtual 126, 3) := by decide +kernel
theorem dX9_load_56 : decode cX9_load 56 = .ok (.aload_n 0, 1) := by decide +kernel
theorem dX9_load_57 : decode cX9_load 57 = .ok (.getfield 12, 3) := by decide +kernel
theorem dX9_load_60 : decode cX9_load 60 = .ok (.getfield 129, 3) := by decide +kernel
theorem dX9_load_63 : decode cX9_load 63 = .ok (.ireturn, 1) := by decide +kernel
theorem dX9_reduce_0 : decode cX9_reduce 0 = .ok (.aload_n 0, 1) := by decide +kernel
theorem dX9_reduce_1 : decode cX9_reduce 1 = .ok (.getfield 83, 3) := by decide +kernel
theorem dX9_reduce_4 : decode cX9_reduce 4 = .ok (.aload_n 0, 1) := by decide +kernel
theorem dX9_reduce_5 : decode cX9_reduce 5 = .ok (.getfield 12, 3) := by decide +kernel
theorem dX9_reduce_8 : decode cX9_reduce 8 = .ok (.getfield 132, 3) := by decide +kernel
theorem dX9_reduce_11 : decode cX9_reduce 11 = .ok (.invokevirtual 135, 3) := by decide +kernel
theorem dX9_reduce_14 : decode cX9_reduce 14 = .ok (.istore_n 1, 1) := by decide +kernel
theorem dX9_reduce_15 : decode cX9_reduce 15 = .ok (.aload_n 0, 1) := by decide +kernel
theorem dX9_reduce_16 : decode cX9_reduce 16 = .ok (.getfield 74, 3) := by decide +kernel
theorem dX9_reduce_19 : decode cX9_reduce 19 = .ok (.iconst 0, 1) := by decide +kernel
theorem dX9_reduce_20 : decode cX9_reduce 20 = .ok (.putfield 93, 3) := by decide +kernel
theorem dX9_reduce_23 : decode cX9_reduce 23 = .ok (.iload_n 1, 1) := by decide +kernel
theorem dX9_reduce_24 : decode cX9_reduce 24 = .ok (.ifCond .ne 5, 3) := by decide +kernel
theorem dX9_reduce_27 : decode cX9_reduce 27 = .ok (.iconst (-1), 1) := by decide +kernel
theorem dX9_reduce_28 : decode cX9_reduce 28 = .ok (.ireturn, 1) := by decide +kernel
theorem dX9_reduce_29 : decode cX9_reduce 29 = .ok (.aload_n 0, 1) := by decide +kernel
theorem dX9_reduce_30 : decode cX9_reduce 30 = .ok (.getfield 49, 3) := by decide +kernel
theorem dX9_reduce_33 : decode cX9_reduce 33 = .ok (.aload_n 0, 1) := by decide +kernel
theorem dX9_reduce_34 : decode cX9_reduce 34 = .ok (.getfield 83, 3) := by decide +kernel
theorem dX9_reduce_37 : decode cX9_reduce 37 = .ok (.getfield 139, 3) := by decide +kernel
theorem dX9_reduce_40 : decode cX9_reduce 40 = .ok (.aload_n 0, 1) := by decide +kernel
theorem dX9_reduce_41 : decode cX9_reduce 41 = .ok (.getfield 87, 3) := by decide +kernel
theorem dX9_reduce_44 : decode cX9_reduce 44 = .ok (.invokevirtual 142, 3) := by decide +kernel
theorem dX9_reduce_47 : decode cX9_reduce 47 = .ok (.iconst 0, 1) := by decide +kernel
theorem dX9_reduce_48 : decode cX9_reduce 48 = .ok (.istore_n 2, 1) := by decide +kernel
theorem dX9_reduce_49 : decode cX9_reduce 49 = .ok (.iconst 0, 1) := by decide +kernel
theorem dX9_reduce_50 : decode cX9_reduce 50 = .ok (.istore_n 3, 1) := by decide +kernel
theorem dX9_reduce_51 : decode cX9_reduce 51 = .ok (.iload_n 3, 1) := by decide +kernel
theorem dX9_reduce_52 : decode cX9_reduce 52 = .ok (.bipush 12, 2) := by decide +kernel
theorem dX9_reduce_54 : decode cX9_reduce 54 = .ok (.if_icmp .ge 21, 3) := by decide +kernel
theorem dX9_reduce_57 : decode cX9_reduce 57 = .ok (.aload_n 0, 1) := by decide +kernel
theorem dX9_reduce_58 : decode cX9_reduce 58 = .ok (.getfield 87, 3) := by decide +kernel
theorem dX9_reduce_61 : decode cX9_reduce 61 = .ok (.iload_n 3, 1) := by decide +kernel
theorem dX9_reduce_62 : decode cX9_reduce 62 = .ok (.iaload, 1) := by decide +kernel
theorem dX9_reduce_63 : decode cX9_reduce 63 = .ok (.ifCond .eq 6, 3) := by decide +kernel
theorem dX9_reduce_66 : decode cX9_reduce 66 = .ok (.iinc 2 1, 3) := by decide +kernel
theorem dX9_reduce_69 : decode cX9_reduce 69 = .ok (.iinc 3 1, 3) := by decide +kernel
theorem dX9_reduce_72 : decode cX9_reduce 72 = .ok (.goto (-21), 3) := by decide +kernel
theorem dX9_reduce_75 : decode cX9_reduce 75 = .ok (.iload_n 2, 1) := by decide +kernel
theorem dX9_reduce_76 : decode cX9_reduce 76 = .ok (.ireturn, 1) := by decide +kernel
theorem dX9_errorCode_0 : decode cX9_errorCode 0 = .ok (.aload_n 0, 1) := by decide +kernel
theorem dX9_errorCode_1 : decode cX9_errorCode 1 = .ok (.getfield 83, 3) := by decide +kernel
theorem dX9_errorCode_4 : decode cX9_errorCode 4 = .ok (.getfield 146, 3) := by decide +kernel
theorem dX9_errorCode_7 : decode cX9_errorCode 7 = .ok (.ireturn, 1) := by decide +kernel
theorem dX9_errorPosition_0 : decode cX9_errorPosition 0 = .ok (.aload_n 0, 1) := by decide +kernel
theorem dX9_errorPosition_1 : decode cX9_errorPosition 1 = .ok (.getfield 83, 3) := by decide +kernel
theorem dX9_errorPosition_4 : decode cX9_errorPosition 4 = .ok (.getfield 149, 3) := by decide +kernel
theorem dX9_errorPosition_7 : decode cX9_errorPosition 7 = .ok (.ireturn, 1) := by decide +kernel
theorem dX9_result_0 : decode cX9_result 0 = .ok (.iload_n 1, 1) := by decide +kernel
theorem dX9_result_1 : decode cX9_result 1 = .ok (.ifCond .lt 9, 3) := by decide +kernel
theorem dX9_result_4 : decode cX9_result 4 = .ok (.iload_n 1, 1) := by decide +kernel
theorem dX9_result_5 : decode cX9_result 5 = .ok (.bipush 12, 2) := by decide +kernel
theorem dX9_result_7 : decode cX9_result 7 = .ok (.if_icmp .lt 11, 3) := by decide +kernel
theorem dX9_result_10 : decode cX9_result 10 = .ok (.new 152, 3) := by decide +kernel
theorem dX9_result_13 : decode cX9_result 13 = .ok (.dup, 1) := by decide +kernel
theorem dX9_result_14 : decode cX9_result 14 = .ok (.invokespecial 154, 3) := by decide +kernel
theorem dX9_result_17 : decode cX9_result 17 = .ok (.athrow, 1) := by decide +kernel
theorem dX9_result_18 : decode cX9_result 18 = .ok (.aload_n 0, 1) := by decide +kernel
theorem dX9_result_19 : decode cX9_result 19 = .ok (.getfield 87, 3) := by decide +kernel
theorem dX9_result_22 : decode cX9_result 22 = .ok (.iload_n 1, 1) := by decide +kernel
theorem dX9_result_23 : decode cX9_result 23 = .ok (.iaload, 1) := by decide +kernel
theorem dX9_result_24 : decode cX9_result 24 = .ok (.ireturn, 1) := by decide +kernel
theorem dX9_count_0 : decode cX9_count 0 = .ok (.iload_n 1, 1) := by decide +kernel
theorem dX9_count_1 : decode cX9_count 1 = .ok (.tableswitch 111 0 7 #[47, 55, 63, 71, 79, 87, 95, 103], 47) := by decide +kernel
theorem dX9_count_48 : decode cX9_count 48 = .ok (.aload_n 0, 1) := by decide +kernel
theorem dX9_count_49 : decode cX9_count 49 = .ok (.getfield 12, 3) := by decide +kernel
theorem dX9_count_52 : decode cX9_count 52 = .ok (.getfield 132, 3) := by decide +kernel
theorem dX9_count_55 : decode cX9_count 55 = .ok (.ireturn, 1) := by decide +kernel
theorem dX9_count_56 : decode cX9_count 56 = .ok (.aload_n 0, 1) := by decide +kernel
theorem dX9_count_57 : decode cX9_count 57 = .ok (.getfield 12, 3) := by decide +kernel
theorem dX9_count_60 : decode cX9_count 60 = .ok (.getfield 129, 3) := by decide +kernel
theorem dX9_count_63 : decode cX9_count 63 = .ok (.ireturn, 1) := by decide +kernel
theorem dX9_count_64 : decode cX9_count 64 = .ok (.aload_n 0, 1) := by decide +kernel
theorem dX9_count_65 : decode cX9_count 65 = .ok (.getfield 12, 3) := by decide +kernel
theorem dX9_count_68 : decode cX9_count 68 = .ok (.getfield 155, 3) := by decide +kernel
theorem dX9_count_71 : decode cX9_count 71 = .ok (.ireturn, 1) := by decide +kernel
theorem dX9_count_72 : decode cX9_count 72 = .ok (.aload_n 0, 1) := by decide +kernel
theorem dX9_count_73 : decode cX9_count 73 = .ok (.getfield 12, 3) := by decide +kernel
theorem dX9_count_76 : decode cX9_count 76 = .ok (.invokevirtual 158, 3) := by decide +kernel
theorem dX9_count_79 : decode cX9_count 79 = .ok (.ireturn, 1) := by decide +kernel
theorem dX9_count_80 : decode cX9_count 80 = .ok (.aload_n 0, 1) := by decide +kernel
theorem dX9_count_81 : decode cX9_count 81 = .ok (.getfield 12, 3) := by decide +kernel
theorem dX9_count_84 : decode cX9_count 84 = .ok (.getfield 162, 3) := by decide +kernel
theorem dX9_count_87 : decode cX9_count 87 = .ok (.ireturn, 1) := by decide +kernel
theorem dX9_count_88 : decode cX9_count 88 = .ok (.aload_n 0, 1) := by decide +kernel
theorem dX9_count_89 : decode cX9_count 89 = .ok (.getfield 29, 3) := by decide +kernel
theorem dX9_count_92 : decode cX9_count 92 = .ok (.getfield 117, 3) := by decide +kernel
theorem dX9_count_95 : decode cX9_count 95 = .ok (.ireturn, 1) := by decide +kernel
theorem dX9_count_96 : decode cX9_count 96 = .ok (.aload_n 0, 1) := by decide +kernel
theorem dX9_count_97 : decode cX9_count 97 = .ok (.getfield 12, 3) := by decide +kernel
theorem dX9_count_100 : decode cX9_count 100 = .ok (.invokevirtual 165, 3) := by decide +kernel
theorem dX9_count_103 : decode cX9_count 103 = .ok (.ireturn, 1) := by decide +kernel
theorem dX9_count_104 : decode cX9_count 104 = .ok (.aload_n 0, 1) := by decide +kernel
theorem dX9_count_105 : decode cX9_count 105 = .ok (.getfield 12, 3) := by decide +kernel
theorem dX9_count_108 : decode cX9_count 108 = .ok (.invokevirtual 168, 3) := by decide +kernel
theorem dX9_count_111 : decode cX9_count 111 = .ok (.ireturn, 1) := by decide +kernel
theorem dX9_count_112 : decode cX9_count 112 = .ok (.new 104, 3) := by decide +kernel
theorem dX9_count_115 : decode cX9_count 115 = .ok (.dup, 1) := by decide +kernel
theorem dX9_count_116 : decode cX9_count 116 = .ok (.invokespecial 106, 3) := by decide +kernel
theorem dX9_count_119 : decode cX9_count 119 = .ok (.athrow, 1) := by decide +kernel
theorem dX9_changes_0 : decode cX9_changes 0 = .ok (.iload_n 1, 1) := by decide +kernel
theorem dX9_changes_1 : decode cX9_changes 1 = .ok (.ifCond .lt 9, 3) := by decide +kernel
theorem dX9_changes_4 : decode cX9_changes 4 = .ok (.iload_n 1, 1) := by decide +kernel
theorem dX9_changes_5 : decode cX9_changes 5 = .ok (.bipush 6, 2) := by decide +kernel
theorem dX9_changes_7 : decode cX9_changes 7 = .ok (.if_icmp .lt 11, 3) := by decide +kernel
theorem dX9_changes_10 : decode cX9_changes 10 = .ok (.new 104, 3) := by decide +kernel
theorem dX9_changes_13 : decode cX9_changes 13 = .ok (.dup, 1) := by decide +kernel
theorem dX9_changes_14 : decode cX9_changes 14 = .ok (.invokespecial 106, 3) := by decide +kernel
theorem dX9_changes_17 : decode cX9_changes 17 = .ok (.athrow, 1) := by decide +kernel
theorem dX9_changes_18 : decode cX9_changes 18 = .ok (.aload_n 0, 1) := by decide +kernel
theorem dX9_changes_19 : decode cX9_changes 19 = .ok (.getfield 33, 3) := by decide +kernel
theorem dX9_changes_22 : decode cX9_changes 22 = .ok (.iload_n 1, 1) := by decide +kernel
theorem dX9_changes_23 : decode cX9_changes 23 = .ok (.iaload, 1) := by decide +kernel
theorem dX9_changes_24 : decode cX9_changes 24 = .ok (.ireturn, 1) := by decide +kernel
theorem dX9_refusal_0 : decode cX9_refusal 0 = .ok (.iload_n 1, 1) := by decide +kernel
theorem dX9_refusal_1 : decode cX9_refusal 1 = .ok (.bipush 11, 2) := by decide +kernel
theorem dX9_refusal_3 : decode cX9_refusal 3 = .ok (.invokestatic 171, 3) := by decide +kernel
theorem dX9_refusal_6 : decode cX9_refusal 6 = .ok (.ifCond .ne 12, 3) := by decide +kernel
theorem dX9_refusal_9 : decode cX9_refusal 9 = .ok (.iload_n 2, 1) := by decide +kernel
theorem dX9_refusal_10 : decode cX9_refusal 10 = .ok (.bipush 11, 2) := by decide +kernel
theorem dX9_refusal_12 : decode cX9_refusal 12 = .ok (.invokestatic 171, 3) := by decide +kernel
theorem dX9_refusal_15 : decode cX9_refusal 15 = .ok (.ifCond .eq 11, 3) := by decide +kernel
theorem dX9_refusal_18 : decode cX9_refusal 18 = .ok (.new 104, 3) := by decide +kernel
theorem dX9_refusal_21 : decode cX9_refusal 21 = .ok (.dup, 1) := by decide +kernel
theorem dX9_refusal_22 : decode cX9_refusal 22 = .ok (.invokespecial 106, 3) := by decide +kernel
theorem dX9_refusal_25 : decode cX9_refusal 25 = .ok (.athrow, 1) := by decide +kernel
theorem dX9_refusal_26 : decode cX9_refusal 26 = .ok (.aload_n 0, 1) := by decide +kernel
theorem dX9_refusal_27 : decode cX9_refusal 27 = .ok (.getfield 12, 3) := by decide +kernel
theorem dX9_refusal_30 : decode cX9_refusal 30 = .ok (.iload_n 1, 1) := by decide +kernel
theorem dX9_refusal_31 : decode cX9_refusal 31 = .ok (.iload_n 2, 1) := by decide +kernel
theorem dX9_refusal_32 : decode cX9_refusal 32 = .ok (.invokevirtual 175, 3) := by decide +kernel
theorem dX9_refusal_35 : decode cX9_refusal 35 = .ok (.ireturn, 1) := by decide +kernel
theorem dX9_join_0 : decode cX9_join 0 = .ok (.iload_n 1, 1) := by decide +kernel
theorem dX9_join_1 : decode cX9_join 1 = .ok (.bipush 11, 2) := by decide +kernel
theorem dX9_join_3 : decode cX9_join 3 = .ok (.invokestatic 171, 3) := by decide +kernel
theorem dX9_join_6 : decode cX9_join 6 = .ok (.ifCond .ne 12, 3) := by decide +kernel
theorem dX9_join_9 : decode cX9_join 9 = .ok (.iload_n 2, 1) := by decide +kernel
theorem dX9_join_10 : decode cX9_join 10 = .ok (.bipush 11, 2) := by decide +kernel
theorem dX9_join_12 : decode cX9_join 12 = .ok (.invokestatic 171, 3) := by decide +kernel
theorem dX9_join_15 : decode cX9_join 15 = .ok (.ifCond .eq 11, 3) := by decide +kernel
theorem dX9_join_18 : decode cX9_join 18 = .ok (.new 104, 3) := by decide +kernel
theorem dX9_join_21 : decode cX9_join 21 = .ok (.dup, 1) := by decide +kernel
theorem dX9_join_22 : decode cX9_join 22 = .ok (.invokespecial 106, 3) := by decide +kernel
theorem dX9_join_25 : decode cX9_join 25 = .ok (.athrow, 1) := by decide +kernel
theorem dX9_join_26 : decode cX9_join 26 = .ok (.aload_n 0, 1) := by decide +kernel
theorem dX9_join_27 : decode cX9_join 27 = .ok (.getfield 12, 3) := by decide +kernel
theorem dX9_join_30 : decode cX9_join 30 = .ok (.iload_n 1, 1) := by decide +kernel
theorem dX9_join_31 : decode cX9_join 31 = .ok (.iload_n 2, 1) := by decide +kernel
theorem dX9_join_32 : decode cX9_join 32 = .ok (.invokevirtual 175, 3) := by decide +kernel
theorem dX9_join_35 : decode cX9_join 35 = .ok (.ifCond .eq 11, 3) := by decide +kernel
theorem dX9_join_38 : decode cX9_join 38 = .ok (.new 97, 3) := by decide +kernel
theorem dX9_join_41 : decode cX9_join 41 = .ok (.dup, 1) := by decide +kernel
theorem dX9_join_42 : decode cX9_join 42 = .ok (.invokespecial 99, 3) := by decide +kernel
theorem dX9_join_45 : decode cX9_join 45 = .ok (.athrow, 1) := by decide +kernel
theorem dX9_join_46 : decode cX9_join 46 = .ok (.aload_n 0, 1) := by decide +kernel
theorem dX9_join_47 : decode cX9_join 47 = .ok (.iconst 0, 1) := by decide +kernel
theorem dX9_join_48 : decode cX9_join 48 = .ok (.invokevirtual 179, 3) := by decide +kernel
theorem dX9_join_51 : decode cX9_join 51 = .ok (.aload_n 0, 1) := by decide +kernel
theorem dX9_join_52 : decode cX9_join 52 = .ok (.getfield 12, 3) := by decide +kernel
theorem dX9_join_55 : decode cX9_join 55 = .ok (.iload_n 1, 1) := by decide +kernel
theorem dX9_join_56 : decode cX9_join 56 = .ok (.iconst 1, 1) := by decide +kernel
theorem dX9_join_57 : decode cX9_join 57 = .ok (.aload_n 0, 1) := by decide +kernel
theorem dX9_join_58 : decode cX9_join 58 = .ok (.getfield 16, 3) := by decide +kernel
theorem dX9_join_61 : decode cX9_join 61 = .ok (.invokevirtual 183, 3) := by decide +kernel
theorem dX9_join_64 : decode cX9_join 64 = .ok (.aload_n 0, 1) := by decide +kernel
theorem dX9_join_65 : decode cX9_join 65 = .ok (.getfield 12, 3) := by decide +kernel
theorem dX9_join_68 : decode cX9_join 68 = .ok (.iload_n 1, 1) := by decide +kernel
theorem dX9_join_69 : decode cX9_join 69 = .ok (.iload_n 2, 1) := by decide +kernel
theorem dX9_join_70 : decode cX9_join 70 = .ok (.invokevirtual 187, 3) := by decide +kernel
theorem dX9_join_73 : decode cX9_join 73 = .ok (.ireturn, 1) := by decide +kernel
theorem dX9_leave_0 : decode cX9_leave 0 = .ok (.iload_n 1, 1) := by decide +kernel
theorem dX9_leave_1 : decode cX9_leave 1 = .ok (.bipush 11, 2) := by decide +kernel
theorem dX9_leave_3 : decode cX9_leave 3 = .ok (.invokestatic 171, 3) := by decide +kernel
theorem dX9_leave_6 : decode cX9_leave 6 = .ok (.ifCond .ne 12, 3) := by decide +kernel
theorem dX9_leave_9 : decode cX9_leave 9 = .ok (.iload_n 2, 1) := by decide +kernel
theorem dX9_leave_10 : decode cX9_leave 10 = .ok (.bipush 11, 2) := by decide +kernel
theorem dX9_leave_12 : decode cX9_leave 12 = .ok (.invokestatic 171, 3) := by decide +kernel
theorem dX9_leave_15 : decode cX9_leave 15 = .ok (.ifCond .eq 11, 3) := by decide +kernel
theorem dX9_leave_18 : decode cX9_leave 18 = .ok (.new 104, 3) := by decide +kernel
theorem dX9_leave_21 : decode cX9_leave 21 = .ok (.dup, 1) := by decide +kernel
theorem dX9_leave_22 : decode cX9_leave 22 = .ok (.invokespecial 106, 3) := by decide +kernel
theorem dX9_leave_25 : decode cX9_leave 25 = .ok (.athrow, 1) := by decide +kernel
theorem dX9_leave_26 : decode cX9_leave 26 = .ok (.aload_n 0, 1) := by decide +kernel
theorem dX9_leave_27 : decode cX9_leave 27 = .ok (.getfield 12, 3) := by decide +kernel
theorem dX9_leave_30 : decode cX9_leave 30 = .ok (.iload_n 1, 1) := by decide +kernel
theorem dX9_leave_31 : decode cX9_leave 31 = .ok (.iload_n 2, 1) := by decide +kernel
theorem dX9_leave_32 : decode cX9_leave 32 = .ok (.invokevirtual 190, 3) := by decide +kernel
theorem dX9_leave_35 : decode cX9_leave 35 = .ok (.ifCond .ne 11, 3) := by decide +kernel
theorem dX9_leave_38 : decode cX9_leave 38 = .ok (.new 97, 3) := by decide +kernel
theorem dX9_leave_41 : decode cX9_leave 41 = .ok (.dup, 1) := by decide +kernel
theorem dX9_leave_42 : decode cX9_leave 42 = .ok (.invokespecial 99, 3) := by decide +kernel
theorem dX9_leave_45 : decode cX9_leave 45 = .ok (.athrow, 1) := by decide +kernel
theorem dX9_leave_46 : decode cX9_leave 46 = .ok (.aload_n 0, 1) := by decide +kernel
theorem dX9_leave_47 : decode cX9_leave 47 = .ok (.getfield 12, 3) := by decide +kernel
theorem dX9_leave_50 : decode cX9_leave 50 = .ok (.iload_n 1, 1) := by decide +kernel
theorem dX9_leave_51 : decode cX9_leave 51 = .ok (.iload_n 2, 1) := by decide +kernel
theorem dX9_leave_52 : decode cX9_leave 52 = .ok (.invokevirtual 187, 3) := by decide +kernel
theorem dX9_leave_55 : decode cX9_leave 55 = .ok (.istore_n 3, 1) := by decide +kernel
theorem dX9_leave_56 : decode cX9_leave 56 = .ok (.aload_n 0, 1) := by decide +kernel
theorem dX9_leave_57 : decode cX9_leave 57 = .ok (.iconst 1, 1) := by decide +kernel
theorem dX9_leave_58 : decode cX9_leave 58 = .ok (.invokevirtual 179, 3) := by decide +kernel
theorem dX9_leave_61 : decode cX9_leave 61 = .ok (.aload_n 0, 1) := by decide +kernel
theorem dX9_leave_62 : decode cX9_leave 62 = .ok (.getfield 12, 3) := by decide +kernel
theorem dX9_leave_65 : decode cX9_leave 65 = .ok (.iload_n 1, 1) := by decide +kernel
theorem dX9_leave_66 : decode cX9_leave 66 = .ok (.iconst (-1), 1) := by decide +kernel
theorem dX9_leave_67 : decode cX9_leave 67 = .ok (.aload_n 0, 1) := by decide +kernel
theorem dX9_leave_68 : decode cX9_leave 68 = .ok (.getfield 16, 3) := by decide +kernel
theorem dX9_leave_71 : decode cX9_leave 71 = .ok (.invokevirtual 183, 3) := by decide +kernel
theorem dX9_leave_74 : decode cX9_leave 74 = .ok (.iload_n 3, 1) := by decide +kernel
theorem dX9_leave_75 : decode cX9_leave 75 = .ok (.ireturn, 1) := by decide +kernel
theorem dX9_monomial_0 : decode cX9_monomial 0 = .ok (.iload_n 1, 1) := by decide +kernel
theorem dX9_monomial_1 : decode cX9_monomial 1 = .ok (.ifCond .lt 14, 3) := by decide +kernel
theorem dX9_monomial_4 : decode cX9_monomial 4 = .ok (.iload_n 1, 1) := by decide +kernel
theorem dX9_monomial_5 : decode cX9_monomial 5 = .ok (.aload_n 0, 1) := by decide +kernel
theorem dX9_monomial_6 : decode cX9_monomial 6 = .ok (.getfield 12, 3) := by decide +kernel
theorem dX9_monomial_9 : decode cX9_monomial 9 = .ok (.getfield 129, 3) := by decide +kernel
theorem dX9_monomial_12 : decode cX9_monomial 12 = .ok (.if_icmp .lt 11, 3) := by decide +kernel
theorem dX9_monomial_15 : decode cX9_monomial 15 = .ok (.new 152, 3) := by decide +kernel
theorem dX9_monomial_18 : decode cX9_monomial 18 = .ok (.dup, 1) := by decide +kernel
theorem dX9_monomial_19 : decode cX9_monomial 19 = .ok (.invokespecial 154, 3) := by decide +kernel
theorem dX9_monomial_22 : decode cX9_monomial 22 = .ok (.athrow, 1) := by decide +kernel
theorem dX9_monomial_23 : decode cX9_monomial 23 = .ok (.iload_n 2, 1) := by decide +kernel
theorem dX9_monomial_24 : decode cX9_monomial 24 = .ok (.iconst 1, 1) := by decide +kernel
theorem dX9_monomial_25 : decode cX9_monomial 25 = .ok (.invokestatic 171, 3) := by decide +kernel
theorem dX9_monomial_28 : decode cX9_monomial 28 = .ok (.ifCond .eq 11, 3) := by decide +kernel
theorem dX9_monomial_31 : decode cX9_monomial 31 = .ok (.new 104, 3) := by decide +kernel
theorem dX9_monomial_34 : decode cX9_monomial 34 = .ok (.dup, 1) := by decide +kernel
theorem dX9_monomial_35 : decode cX9_monomial 35 = .ok (.invokespecial 106, 3) := by decide +kernel
theorem dX9_monomial_38 : decode cX9_monomial 38 = .ok (.athrow, 1) := by decide +kernel
theorem dX9_monomial_39 : decode cX9_monomial 39 = .ok (.iload_n 2, 1) := by decide +kernel
theorem dX9_monomial_40 : decode cX9_monomial 40 = .ok (.ifCond .ne 15, 3) := by decide +kernel
theorem dX9_monomial_43 : decode cX9_monomial 43 = .ok (.aload_n 0, 1) := by decide +kernel
theorem dX9_monomial_44 : decode cX9_monomial 44 = .ok (.getfield 12, 3) := by decide +kernel
theorem dX9_monomial_47 : decode cX9_monomial 47 = .ok (.getfield 193, 3) := by decide +kernel
theorem dX9_monomial_50 : decode cX9_monomial 50 = .ok (.iload_n 1, 1) := by decide +kernel
theorem dX9_monomial_51 : decode cX9_monomial 51 = .ok (.iaload, 1) := by decide +kernel
theorem dX9_monomial_52 : decode cX9_monomial 52 = .ok (.goto 12, 3) := by decide +kernel
theorem dX9_monomial_55 : decode cX9_monomial 55 = .ok (.aload_n 0, 1) := by decide +kernel
theorem dX9_monomial_56 : decode cX9_monomial 56 = .ok (.getfield 12, 3) := by decide +kernel
theorem dX9_monomial_59 : decode cX9_monomial 59 = .ok (.getfield 196, 3) := by decide +kernel
theorem dX9_monomial_62 : decode cX9_monomial 62 = .ok (.iload_n 1, 1) := by decide +kernel
theorem dX9_monomial_63 : decode cX9_monomial 63 = .ok (.iaload, 1) := by decide +kernel
theorem dX9_monomial_64 : decode cX9_monomial 64 = .ok (.ireturn, 1) := by decide +kernel
theorem dX9_border_0 : decode cX9_border 0 = .ok (.iload_n 1, 1) := by decide +kernel
theorem dX9_border_1 : decode cX9_border 1 = .ok (.ifCond .lt 14, 3) := by decide +kernel
theorem dX9_border_4 : decode cX9_border 4 = .ok (.iload_n 1, 1) := by decide +kernel
theorem dX9_border_5 : decode cX9_border 5 = .ok (.aload_n 0, 1) := by decide +kernel
theorem dX9_border_6 : decode cX9_border 6 = .ok (.getfield 12, 3) := by decide +kernel
theorem dX9_border_9 : decode cX9_border 9 = .ok (.getfield 155, 3) := by decide +kernel
theorem dX9_border_12 : decode cX9_border 12 = .ok (.if_icmp .lt 11, 3) := by decide +kernel
theorem dX9_border_15 : decode cX9_border 15 = .ok (.new 152, 3) := by decide +kernel
theorem dX9_border_18 : decode cX9_border 18 = .ok (.dup, 1) := by decide +kernel
theorem dX9_border_19 : decode cX9_border 19 = .ok (.invokespecial 154, 3) := by decide +kernel
theorem dX9_border_22 : decode cX9_border 22 = .ok (.athrow, 1) := by decide +kernel
theorem dX9_border_23 : decode cX9_border 23 = .ok (.iload_n 2, 1) := by decide +kernel
theorem dX9_border_24 : decode cX9_border 24 = .ok (.iconst 1, 1) := by decide +kernel
theorem dX9_border_25 : decode cX9_border 25 = .ok (.invokestatic 171, 3) := by decide +kernel
theorem dX9_border_28 : decode cX9_border 28 = .ok (.ifCond .eq 11, 3) := by decide +kernel
theorem dX9_border_31 : decode cX9_border 31 = .ok (.new 104, 3) := by decide +kernel
theorem dX9_border_34 : decode cX9_border 34 = .ok (.dup, 1) := by decide +kernel
theorem dX9_border_35 : decode cX9_border 35 = .ok (.invokespecial 106, 3) := by decide +kernel
theorem dX9_border_38 : decode cX9_border 38 = .ok (.athrow, 1) := by decide +kernel
theorem dX9_border_39 : decode cX9_border 39 = .ok (.iload_n 2, 1) := by decide +kernel
theorem dX9_border_40 : decode cX9_border 40 = .ok (.ifCond .ne 15, 3) := by decide +kernel
theorem dX9_border_43 : decode cX9_border 43 = .ok (.aload_n 0, 1) := by decide +kernel
theorem dX9_border_44 : decode cX9_border 44 = .ok (.getfield 12, 3) := by decide +kernel
theorem dX9_border_47 : decode cX9_border 47 = .ok (.getfield 199, 3) := by decide +kernel
theorem dX9_border_50 : decode cX9_border 50 = .ok (.iload_n 1, 1) := by decide +kernel
theorem dX9_border_51 : decode cX9_border 51 = .ok (.iaload, 1) := by decide +kernel
theorem dX9_border_52 : decode cX9_border 52 = .ok (.goto 12, 3) := by decide +kernel
theorem dX9_border_55 : decode cX9_border 55 = .ok (.aload_n 0, 1) := by decide +kernel
theorem dX9_border_56 : decode cX9_border 56 = .ok (.getfield 12, 3) := by decide +kernel
theorem dX9_border_59 : decode cX9_border 59 = .ok (.getfield 202, 3) := by decide +kernel
theorem dX9_border_62 : decode cX9_border 62 = .ok (.iload_n 1, 1) := by decide +kernel
theorem dX9_border_63 : decode cX9_border 63 = .ok (.iaload, 1) := by decide +kernel
theorem dX9_border_64 : decode cX9_border 64 = .ok (.ireturn, 1) := by decide +kernel
theorem dX9_place_0 : decode cX9_place 0 = .ok (.aload_n 0, 1) := by decide +kernel
theorem dX9_place_1 : decode cX9_place 1 = .ok (.getfield 12, 3) := by decide +kernel
theorem dX9_place_4 : decode cX9_place 4 = .ok (.iload_n 1, 1) := by decide +kernel
theorem dX9_place_5 : decode cX9_place 5 = .ok (.iload_n 2, 1) := by decide +kernel
theorem dX9_place_6 : decode cX9_place 6 = .ok (.invokevirtual 187, 3) := by decide +kernel
theorem dX9_place_9 : decode cX9_place 9 = .ok (.istore_n 3, 1) := by decide +kernel
theorem dX9_place_10 : decode cX9_place 10 = .ok (.iload_n 3, 1) := by decide +kernel
theorem dX9_place_11 : decode cX9_place 11 = .ok (.iconst (-1), 1) := by decide +kernel
theorem dX9_place_12 : decode cX9_place 12 = .ok (.if_icmp .eq 5, 3) := by decide +kernel
theorem dX9_place_15 : decode cX9_place 15 = .ok (.iload_n 3, 1) := by decide +kernel
theorem dX9_place_16 : decode cX9_place 16 = .ok (.ireturn, 1) := by decide +kernel
theorem dX9_place_17 : decode cX9_place 17 = .ok (.aload_n 0, 1) := by decide +kernel
theorem dX9_place_18 : decode cX9_place 18 = .ok (.getfield 12, 3) := by decide +kernel
theorem dX9_place_21 : decode cX9_place 21 = .ok (.iload_n 1, 1) := by decide +kernel
theorem dX9_place_22 : decode cX9_place 22 = .ok (.iload_n 2, 1) := by decide +kernel
theorem dX9_place_23 : decode cX9_place 23 = .ok (.invokevirtual 205, 3) := by decide +kernel
theorem dX9_place_26 : decode cX9_place 26 = .ok (.istore 4, 2) := by decide +kernel
theorem dX9_place_28 : decode cX9_place 28 = .ok (.iload 4, 2) := by decide +kernel
theorem dX9_place_30 : decode cX9_place 30 = .ok (.iconst (-1), 1) := by decide +kernel
theorem dX9_place_31 : decode cX9_place 31 = .ok (.if_icmp .ne 7, 3) := by decide +kernel
theorem dX9_place_34 : decode cX9_place 34 = .ok (.iconst (-1), 1) := by decide +kernel
theorem dX9_place_35 : decode cX9_place 35 = .ok (.goto 8, 3) := by decide +kernel
theorem dX9_place_38 : decode cX9_place 38 = .ok (.bipush 100, 2) := by decide +kernel
theorem dX9_place_40 : decode cX9_place 40 = .ok (.iload 4, 2) := by decide +kernel
theorem dX9_place_42 : decode cX9_place 42 = .ok (.iadd, 1) := by decide +kernel
theorem dX9_place_43 : decode cX9_place 43 = .ok (.ireturn, 1) := by decide +kernel
theorem dX9_setRule_0 : decode cX9_setRule 0 = .ok (.aload_n 0, 1) := by decide +kernel
theorem dX9_setRule_1 : decode cX9_setRule 1 = .ok (.getfield 12, 3) := by decide +kernel
theorem dX9_setRule_4 : decode cX9_setRule 4 = .ok (.iload_n 1, 1) := by decide +kernel
theorem dX9_setRule_5 : decode cX9_setRule 5 = .ok (.iload_n 2, 1) := by decide +kernel
theorem dX9_setRule_6 : decode cX9_setRule 6 = .ok (.invokevirtual 208, 3) := by decide +kernel
theorem dX9_setRule_9 : decode cX9_setRule 9 = .ok (.ifCond .ne 11, 3) := by decide +kernel
theorem dX9_setRule_12 : decode cX9_setRule 12 = .ok (.new 152, 3) := by decide +kernel
theorem dX9_setRule_15 : decode cX9_setRule 15 = .ok (.dup, 1) := by decide +kernel
theorem dX9_setRule_16 : decode cX9_setRule 16 = .ok (.invokespecial 154, 3) := by decide +kernel
theorem dX9_setRule_19 : decode cX9_setRule 19 = .ok (.athrow, 1) := by decide +kernel
theorem dX9_setRule_20 : decode cX9_setRule 20 = .ok (.iload_n 3, 1) := by decide +kernel
theorem dX9_setRule_21 : decode cX9_setRule 21 = .ok (.aload_n 0, 1) := by decide +kernel
theorem dX9_setRule_22 : decode cX9_setRule 22 = .ok (.getfield 12, 3) := by decide +kernel
theorem dX9_setRule_25 : decode cX9_setRule 25 = .ok (.getfield 132, 3) := by decide +kernel
theorem dX9_setRule_28 : decode cX9_setRule 28 = .ok (.iconst 1, 1) := by decide +kernel
theorem dX9_setRule_29 : decode cX9_setRule 29 = .ok (.isub, 1) := by decide +kernel
theorem dX9_setRule_30 : decode cX9_setRule 30 = .ok (.invokestatic 171, 3) := by decide +kernel
theorem dX9_setRule_33 : decode cX9_setRule 33 = .ok (.ifCond .eq 11, 3) := by decide +kernel
theorem dX9_setRule_36 : decode cX9_setRule 36 = .ok (.new 104, 3) := by decide +kernel
theorem dX9_setRule_39 : decode cX9_setRule 39 = .ok (.dup, 1) := by decide +kernel
theorem dX9_setRule_40 : decode cX9_setRule 40 = .ok (.invokespecial 106, 3) := by decide +kernel
theorem dX9_setRule_43 : decode cX9_setRule 43 = .ok (.athrow, 1) := by decide +kernel
theorem dX9_setRule_44 : decode cX9_setRule 44 = .ok (.aload_n 0, 1) := by decide +kernel
theorem dX9_setRule_45 : decode cX9_setRule 45 = .ok (.getfield 12, 3) := by decide +kernel
theorem dX9_setRule_48 : decode cX9_setRule 48 = .ok (.iload_n 1, 1) := by decide +kernel
theorem dX9_setRule_49 : decode cX9_setRule 49 = .ok (.iload_n 2, 1) := by decide +kernel
theorem dX9_setRule_50 : decode cX9_setRule 50 = .ok (.invokevirtual 211, 3) := by decide +kernel
theorem dX9_setRule_53 : decode cX9_setRule 53 = .ok (.istore 4, 2) := by decide +kernel
theorem dX9_setRule_55 : decode cX9_setRule 55 = .ok (.aload_n 0, 1) := by decide +kernel
theorem dX9_setRule_56 : decode cX9_setRule 56 = .ok (.iconst 2, 1) := by decide +kernel
theorem dX9_setRule_57 : decode cX9_setRule 57 = .ok (.invokevirtual 179, 3) := by decide +kernel
theorem dX9_setRule_60 : decode cX9_setRule 60 = .ok (.aload_n 0, 1) := by decide +kernel
theorem dX9_setRule_61 : decode cX9_setRule 61 = .ok (.getfield 12, 3) := by decide +kernel
theorem dX9_setRule_64 : decode cX9_setRule 64 = .ok (.iload_n 1, 1) := by decide +kernel
theorem dX9_setRule_65 : decode cX9_setRule 65 = .ok (.iload_n 2, 1) := by decide +kernel
theorem dX9_setRule_66 : decode cX9_setRule 66 = .ok (.iload_n 3, 1) := by decide +kernel
theorem dX9_setRule_67 : decode cX9_setRule 67 = .ok (.invokevirtual 214, 3) := by decide +kernel
theorem dX9_setRule_70 : decode cX9_setRule 70 = .ok (.iload 4, 2) := by decide +kernel
theorem dX9_setRule_72 : decode cX9_setRule 72 = .ok (.ireturn, 1) := by decide +kernel
theorem dX9_rule_0 : decode cX9_rule 0 = .ok (.aload_n 0, 1) := by decide +kernel
theorem dX9_rule_1 : decode cX9_rule 1 = .ok (.getfield 12, 3) := by decide +kernel
theorem dX9_rule_4 : decode cX9_rule 4 = .ok (.iload_n 1, 1) := by decide +kernel
theorem dX9_rule_5 : decode cX9_rule 5 = .ok (.iload_n 2, 1) := by decide +kernel
theorem dX9_rule_6 : decode cX9_rule 6 = .ok (.invokevirtual 208, 3) := by decide +kernel
theorem dX9_rule_9 : decode cX9_rule 9 = .ok (.ifCond .ne 11, 3) := by decide +kernel
theorem dX9_rule_12 : decode cX9_rule 12 = .ok (.new 152, 3) := by decide +kernel
theorem dX9_rule_15 : decode cX9_rule 15 = .ok (.dup, 1) := by decide +kernel
theorem dX9_rule_16 : decode cX9_rule 16 = .ok (.invokespecial 154, 3) := by decide +kernel
theorem dX9_rule_19 : decode cX9_rule 19 = .ok (.athrow, 1) := by decide +kernel
theorem dX9_rule_20 : decode cX9_rule 20 = .ok (.aload_n 0, 1) := by decide +kernel
theorem dX9_rule_21 : decode cX9_rule 21 = .ok (.getfield 12, 3) := by decide +kernel
theorem dX9_rule_24 : decode cX9_rule 24 = .ok (.iload_n 1, 1) := by decide +kernel
theorem dX9_rule_25 : decode cX9_rule 25 = .ok (.iload_n 2, 1) := by decide +kernel
theorem dX9_rule_26 : decode cX9_rule 26 = .ok (.invokevirtual 211, 3) := by decide +kernel
theorem dX9_rule_29 : decode cX9_rule 29 = .ok (.ireturn, 1) := by decide +kernel
theorem dX9_value_0 : decode cX9_value 0 = .ok (.iload_n 1, 1) := by decide +kernel
theorem dX9_value_1 : decode cX9_value 1 = .ok (.ifCond .lt 14, 3) := by decide +kernel
theorem dX9_value_4 : decode cX9_value 4 = .ok (.iload_n 1, 1) := by decide +kernel
theorem dX9_value_5 : decode cX9_value 5 = .ok (.aload_n 0, 1) := by decide +kernel
theorem dX9_value_6 : decode cX9_value 6 = .ok (.getfield 12, 3) := by decide +kernel
theorem dX9_value_9 : decode cX9_value 9 = .ok (.getfield 155, 3) := by decide +kernel
theorem dX9_value_12 : decode cX9_value 12 = .ok (.if_icmp .lt 11, 3) := by decide +kernel
theorem dX9_value_15 : decode cX9_value 15 = .ok (.new 152, 3) := by decide +kernel
theorem dX9_value_18 : decode cX9_value 18 = .ok (.dup, 1) := by decide +kernel
theorem dX9_value_19 : decode cX9_value 19 = .ok (.invokespecial 154, 3) := by decide +kernel
theorem dX9_value_22 : decode cX9_value 22 = .ok (.athrow, 1) := by decide +kernel
theorem dX9_value_23 : decode cX9_value 23 = .ok (.iload_n 2, 1) := by decide +kernel
theorem dX9_value_24 : decode cX9_value 24 = .ok (.aload_n 0, 1) := by decide +kernel
theorem dX9_value_25 : decode cX9_value 25 = .ok (.getfield 12, 3) := by decide +kernel
theorem dX9_value_28 : decode cX9_value 28 = .ok (.getfield 132, 3) := by decide +kernel
theorem dX9_value_31 : decode cX9_value 31 = .ok (.iconst 1, 1) := by decide +kernel
theorem dX9_value_32 : decode cX9_value 32 = .ok (.isub, 1) := by decide +kernel
theorem dX9_value_33 : decode cX9_value 33 = .ok (.invokestatic 171, 3) := by decide +kernel
theorem dX9_value_36 : decode cX9_value 36 = .ok (.ifCond .ne 19, 3) := by decide +kernel
theorem dX9_value_39 : decode cX9_value 39 = .ok (.iload_n 3, 1) := by decide +kernel
theorem dX9_value_40 : decode cX9_value 40 = .ok (.aload_n 0, 1) := by decide +kernel
theorem dX9_value_41 : decode cX9_value 41 = .ok (.getfield 12, 3) := by decide +kernel
theorem dX9_value_44 : decode cX9_value 44 = .ok (.getfield 132, 3) := by decide +kernel
theorem dX9_value_47 : decode cX9_value 47 = .ok (.iconst 1, 1) := by decide +kernel
theorem dX9_value_48 : decode cX9_value 48 = .ok (.isub, 1) := by decide +kernel
theorem dX9_value_49 : decode cX9_value 49 = .ok (.invokestatic 171, 3) := by decide +kernel
theorem dX9_value_52 : decode cX9_value 52 = .ok (.ifCond .eq 11, 3) := by decide +kernel
theorem dX9_value_55 : decode cX9_value 55 = .ok (.new 104, 3) := by decide +kernel
theorem dX9_value_58 : decode cX9_value 58 = .ok (.dup, 1) := by decide +kernel
theorem dX9_value_59 : decode cX9_value 59 = .ok (.invokespecial 106, 3) := by decide +kernel
theorem dX9_value_62 : decode cX9_value 62 = .ok (.athrow, 1) := by decide +kernel
theorem dX9_value_63 : decode cX9_value 63 = .ok (.aload_n 0, 1) := by decide +kernel
theorem dX9_value_64 : decode cX9_value 64 = .ok (.getfield 40, 3) := by decide +kernel
theorem dX9_value_67 : decode cX9_value 67 = .ok (.iload_n 2, 1) := by decide +kernel
theorem dX9_value_68 : decode cX9_value 68 = .ok (.iload_n 3, 1) := by decide +kernel
theorem dX9_value_69 : decode cX9_value 69 = .ok (.aload_n 0, 1) := by decide +kernel
theorem dX9_value_70 : decode cX9_value 70 = .ok (.getfield 12, 3) := by decide +kernel
theorem dX9_value_73 : decode cX9_value 73 = .ok (.getfield 132, 3) := by decide +kernel
theorem dX9_value_76 : decode cX9_value 76 = .ok (.invokevirtual 218, 3) := by decide +kernel
theorem dX9_value_79 : decode cX9_value 79 = .ok (.aload_n 0, 1) := by decide +kernel
theorem dX9_value_80 : decode cX9_value 80 = .ok (.getfield 40, 3) := by decide +kernel
theorem dX9_value_83 : decode cX9_value 83 = .ok (.aload_n 0, 1) := by decide +kernel
theorem dX9_value_84 : decode cX9_value 84 = .ok (.getfield 12, 3) := by decide +kernel
theorem dX9_value_87 : decode cX9_value 87 = .ok (.iload_n 1, 1) := by decide +kernel
theorem dX9_value_88 : decode cX9_value 88 = .ok (.invokevirtual 221, 3) := by decide +kernel
theorem dX9_value_91 : decode cX9_value 91 = .ok (.ireturn, 1) := by decide +kernel
theorem dX9_table_0 : decode cX9_table 0 = .ok (.iload_n 2, 1) := by decide +kernel
theorem dX9_table_1 : decode cX9_table 1 = .ok (.aload_n 0, 1) := by decide +kernel
theorem dX9_table_2 : decode cX9_table 2 = .ok (.getfield 12, 3) := by decide +kernel
theorem dX9_table_5 : decode cX9_table 5 = .ok (.getfield 129, 3) := by decide +kernel
theorem dX9_table_8 : decode cX9_table 8 = .ok (.iconst 1, 1) := by decide +kernel
theorem dX9_table_9 : decode cX9_table 9 = .ok (.isub, 1) := by decide +kernel
theorem dX9_table_10 : decode cX9_table 10 = .ok (.invokestatic 171, 3) := by decide +kernel
theorem dX9_table_13 : decode cX9_table 13 = .ok (.ifCond .ne 19, 3) := by decide +kernel
theorem dX9_table_16 : decode cX9_table 16 = .ok (.iload_n 3, 1) := by decide +kernel
theorem dX9_table_17 : decode cX9_table 17 = .ok (.aload_n 0, 1) := by decide +kernel
theorem dX9_table_18 : decode cX9_table 18 = .ok (.getfield 12, 3) := by decide +kernel
theorem dX9_table_21 : decode cX9_table 21 = .ok (.getfield 129, 3) := by decide +kernel
theorem dX9_table_24 : decode cX9_table 24 = .ok (.iconst 1, 1) := by decide +kernel
theorem dX9_table_25 : decode cX9_table 25 = .ok (.isub, 1) := by decide +kernel
theorem dX9_table_26 : decode cX9_table 26 = .ok (.invokestatic 171, 3) := by decide +kernel
theorem dX9_table_29 : decode cX9_table 29 = .ok (.ifCond .eq 11, 3) := by decide +kernel
theorem dX9_table_32 : decode cX9_table 32 = .ok (.new 152, 3) := by decide +kernel
theorem dX9_table_35 : decode cX9_table 35 = .ok (.dup, 1) := by decide +kernel
theorem dX9_table_36 : decode cX9_table 36 = .ok (.invokespecial 154, 3) := by decide +kernel
theorem dX9_table_39 : decode cX9_table 39 = .ok (.athrow, 1) := by decide +kernel
theorem dX9_table_40 : decode cX9_table 40 = .ok (.iload_n 1, 1) := by decide +kernel
theorem dX9_table_41 : decode cX9_table 41 = .ok (.iconst 1, 1) := by decide +kernel
theorem dX9_table_42 : decode cX9_table 42 = .ok (.invokestatic 171, 3) := by decide +kernel
theorem dX9_table_45 : decode cX9_table 45 = .ok (.ifCond .eq 11, 3) := by decide +kernel
theorem dX9_table_48 : decode cX9_table 48 = .ok (.new 104, 3) := by decide +kernel
theorem dX9_table_51 : decode cX9_table 51 = .ok (.dup, 1) := by decide +kernel
theorem dX9_table_52 : decode cX9_table 52 = .ok (.invokespecial 106, 3) := by decide +kernel
theorem dX9_table_55 : decode cX9_table 55 = .ok (.athrow, 1) := by decide +kernel
theorem dX9_table_56 : decode cX9_table 56 = .ok (.aload_n 0, 1) := by decide +kernel
theorem dX9_table_57 : decode cX9_table 57 = .ok (.getfield 49, 3) := by decide +kernel
theorem dX9_table_60 : decode cX9_table 60 = .ok (.iload_n 1, 1) := by decide +kernel
theorem dX9_table_61 : decode cX9_table 61 = .ok (.iload_n 2, 1) := by decide +kernel
theorem dX9_table_62 : decode cX9_table 62 = .ok (.iload_n 3, 1) := by decide +kernel
theorem dX9_table_63 : decode cX9_table 63 = .ok (.invokevirtual 225, 3) := by decide +kernel
theorem dX9_table_66 : decode cX9_table 66 = .ok (.ireturn, 1) := by decide +kernel
theorem dX9_commutes_0 : decode cX9_commutes 0 = .ok (.aload_n 0, 1) := by decide +kernel
theorem dX9_commutes_1 : decode cX9_commutes 1 = .ok (.getfield 49, 3) := by decide +kernel
theorem dX9_commutes_4 : decode cX9_commutes 4 = .ok (.invokevirtual 229, 3) := by decide +kernel
theorem dX9_commutes_7 : decode cX9_commutes 7 = .ok (.ifCond .ne 7, 3) := by decide +kernel
theorem dX9_commutes_10 : decode cX9_commutes 10 = .ok (.iconst 1, 1) := by decide +kernel
theorem dX9_commutes_11 : decode cX9_commutes 11 = .ok (.goto 4, 3) := by decide +kernel
theorem dX9_commutes_14 : decode cX9_commutes 14 = .ok (.iconst 0, 1) := by decide +kernel
theorem dX9_commutes_15 : decode cX9_commutes 15 = .ok (.ireturn, 1) := by decide +kernel
theorem dX9_clash_0 : decode cX9_clash 0 = .ok (.iload_n 1, 1) := by decide +kernel
theorem dX9_clash_1 : decode cX9_clash 1 = .ok (.iconst 4, 1) := by decide +kernel
theorem dX9_clash_2 : decode cX9_clash 2 = .ok (.invokestatic 171, 3) := by decide +kernel
theorem dX9_clash_5 : decode cX9_clash 5 = .ok (.ifCond .eq 11, 3) := by decide +kernel
theorem dX9_clash_8 : decode cX9_clash 8 = .ok (.new 104, 3) := by decide +kernel
theorem dX9_clash_11 : decode cX9_clash 11 = .ok (.dup, 1) := by decide +kernel
theorem dX9_clash_12 : decode cX9_clash 12 = .ok (.invokespecial 106, 3) := by decide +kernel
theorem dX9_clash_15 : decode cX9_clash 15 = .ok (.athrow, 1) := by decide +kernel
theorem dX9_clash_16 : decode cX9_clash 16 = .ok (.aload_n 0, 1) := by decide +kernel
theorem dX9_clash_17 : decode cX9_clash 17 = .ok (.getfield 49, 3) := by decide +kernel
theorem dX9_clash_20 : decode cX9_clash 20 = .ok (.invokevirtual 229, 3) := by decide +kernel
theorem dX9_clash_23 : decode cX9_clash 23 = .ok (.istore_n 2, 1) := by decide +kernel
theorem dX9_clash_24 : decode cX9_clash 24 = .ok (.iload_n 1, 1) := by decide +kernel
theorem dX9_clash_25 : decode cX9_clash 25 = .ok (.iconst 4, 1) := by decide +kernel
theorem dX9_clash_26 : decode cX9_clash 26 = .ok (.if_icmp .ne 5, 3) := by decide +kernel
theorem dX9_clash_29 : decode cX9_clash 29 = .ok (.iload_n 2, 1) := by decide +kernel
theorem dX9_clash_30 : decode cX9_clash 30 = .ok (.ireturn, 1) := by decide +kernel
theorem dX9_clash_31 : decode cX9_clash 31 = .ok (.iload_n 2, 1) := by decide +kernel
theorem dX9_clash_32 : decode cX9_clash 32 = .ok (.ifCond .ne 7, 3) := by decide +kernel
theorem dX9_clash_35 : decode cX9_clash 35 = .ok (.iconst (-1), 1) := by decide +kernel
theorem dX9_clash_36 : decode cX9_clash 36 = .ok (.goto 11, 3) := by decide +kernel
theorem dX9_clash_39 : decode cX9_clash 39 = .ok (.aload_n 0, 1) := by decide +kernel
theorem dX9_clash_40 : decode cX9_clash 40 = .ok (.getfield 49, 3) := by decide +kernel
theorem dX9_clash_43 : decode cX9_clash 43 = .ok (.iload_n 1, 1) := by decide +kernel
theorem dX9_clash_44 : decode cX9_clash 44 = .ok (.invokevirtual 232, 3) := by decide +kernel
theorem dX9_clash_47 : decode cX9_clash 47 = .ok (.ireturn, 1) := by decide +kernel
theorem dX9_trace_0 : decode cX9_trace 0 = .ok (.iload_n 1, 1) := by decide +kernel
theorem dX9_trace_1 : decode cX9_trace 1 = .ok (.bipush 22, 2) := by decide +kernel
theorem dX9_trace_3 : decode cX9_trace 3 = .ok (.invokestatic 171, 3) := by decide +kernel
theorem dX9_trace_6 : decode cX9_trace 6 = .ok (.ifCond .ne 12, 3) := by decide +kernel
theorem dX9_trace_9 : decode cX9_trace 9 = .ok (.iload_n 2, 1) := by decide +kernel
theorem dX9_trace_10 : decode cX9_trace 10 = .ok (.bipush 22, 2) := by decide +kernel
theorem dX9_trace_12 : decode cX9_trace 12 = .ok (.invokestatic 171, 3) := by decide +kernel
theorem dX9_trace_15 : decode cX9_trace 15 = .ok (.ifCond .eq 11, 3) := by decide +kernel
theorem dX9_trace_18 : decode cX9_trace 18 = .ok (.new 104, 3) := by decide +kernel
theorem dX9_trace_21 : decode cX9_trace 21 = .ok (.dup, 1) := by decide +kernel
theorem dX9_trace_22 : decode cX9_trace 22 = .ok (.invokespecial 106, 3) := by decide +kernel
theorem dX9_trace_25 : decode cX9_trace 25 = .ok (.athrow, 1) := by decide +kernel
theorem dX9_trace_26 : decode cX9_trace 26 = .ok (.aload_n 0, 1) := by decide +kernel
theorem dX9_trace_27 : decode cX9_trace 27 = .ok (.getfield 49, 3) := by decide +kernel
theorem dX9_trace_30 : decode cX9_trace 30 = .ok (.iload_n 1, 1) := by decide +kernel
theorem dX9_trace_31 : decode cX9_trace 31 = .ok (.iload_n 2, 1) := by decide +kernel
theorem dX9_trace_32 : decode cX9_trace 32 = .ok (.invokevirtual 236, 3) := by decide +kernel
theorem dX9_trace_35 : decode cX9_trace 35 = .ok (.ireturn, 1) := by decide +kernel
theorem dX9_normal_0 : decode cX9_normal 0 = .ok (.iload_n 3, 1) := by decide +kernel
theorem dX9_normal_1 : decode cX9_normal 1 = .ok (.ifCond .lt 14, 3) := by decide +kernel
theorem dX9_normal_4 : decode cX9_normal 4 = .ok (.iload_n 3, 1) := by decide +kernel
theorem dX9_normal_5 : decode cX9_normal 5 = .ok (.aload_n 0, 1) := by decide +kernel
theorem dX9_normal_6 : decode cX9_normal 6 = .ok (.getfield 12, 3) := by decide +kernel
theorem dX9_normal_9 : decode cX9_normal 9 = .ok (.getfield 129, 3) := by decide +kernel
theorem dX9_normal_12 : decode cX9_normal 12 = .ok (.if_icmp .lt 11, 3) := by decide +kernel
theorem dX9_normal_15 : decode cX9_normal 15 = .ok (.new 152, 3) := by decide +kernel
theorem dX9_normal_18 : decode cX9_normal 18 = .ok (.dup, 1) := by decide +kernel
theorem dX9_normal_19 : decode cX9_normal 19 = .ok (.invokespecial 154, 3) := by decide +kernel
theorem dX9_normal_22 : decode cX9_normal 22 = .ok (.athrow, 1) := by decide +kernel
theorem dX9_normal_23 : decode cX9_normal 23 = .ok (.iload_n 1, 1) := by decide +kernel
theorem dX9_normal_24 : decode cX9_normal 24 = .ok (.bipush 22, 2) := by decide +kernel
theorem dX9_normal_26 : decode cX9_normal 26 = .ok (.invokestatic 171, 3) := by decide +kernel
theorem dX9_normal_29 : decode cX9_normal 29 = .ok (.ifCond .ne 12, 3) := by decide +kernel
theorem dX9_normal_32 : decode cX9_normal 32 = .ok (.iload_n 2, 1) := by decide +kernel
theorem dX9_normal_33 : decode cX9_normal 33 = .ok (.bipush 22, 2) := by decide +kernel
theorem dX9_normal_35 : decode cX9_normal 35 = .ok (.invokestatic 171, 3) := by decide +kernel
theorem dX9_normal_38 : decode cX9_normal 38 = .ok (.ifCond .eq 11, 3) := by decide +kernel
theorem dX9_normal_41 : decode cX9_normal 41 = .ok (.new 104, 3) := by decide +kernel
theorem dX9_normal_44 : decode cX9_normal 44 = .ok (.dup, 1) := by decide +kernel
theorem dX9_normal_45 : decode cX9_normal 45 = .ok (.invokespecial 106, 3) := by decide +kernel
theorem dX9_normal_48 : decode cX9_normal 48 = .ok (.athrow, 1) := by decide +kernel
theorem dX9_normal_49 : decode cX9_normal 49 = .ok (.aload_n 0, 1) := by decide +kernel
theorem dX9_normal_50 : decode cX9_normal 50 = .ok (.getfield 49, 3) := by decide +kernel
theorem dX9_normal_53 : decode cX9_normal 53 = .ok (.invokevirtual 239, 3) := by decide +kernel
theorem dX9_normal_56 : decode cX9_normal 56 = .ok (.aload_n 0, 1) := by decide +kernel
theorem dX9_normal_57 : decode cX9_normal 57 = .ok (.getfield 49, 3) := by decide +kernel
theorem dX9_normal_60 : decode cX9_normal 60 = .ok (.iload_n 1, 1) := by decide +kernel
theorem dX9_normal_61 : decode cX9_normal 61 = .ok (.iload_n 2, 1) := by decide +kernel
theorem dX9_normal_62 : decode cX9_normal 62 = .ok (.aload_n 0, 1) := by decide +kernel
theorem dX9_normal_63 : decode cX9_normal 63 = .ok (.getfield 90, 3) := by decide +kernel
theorem dX9_normal_66 : decode cX9_normal 66 = .ok (.invokevirtual 242, 3) := by decide +kernel
theorem dX9_normal_69 : decode cX9_normal 69 = .ok (.aload_n 0, 1) := by decide +kernel
theorem dX9_normal_70 : decode cX9_normal 70 = .ok (.getfield 90, 3) := by decide +kernel
theorem dX9_normal_73 : decode cX9_normal 73 = .ok (.iload_n 3, 1) := by decide +kernel
theorem dX9_normal_74 : decode cX9_normal 74 = .ok (.iaload, 1) := by decide +kernel
theorem dX9_normal_75 : decode cX9_normal 75 = .ok (.ireturn, 1) := by decide +kernel
theorem dX9_determinant_0 : decode cX9_determinant 0 = .ok (.iload_n 1, 1) := by decide +kernel
theorem dX9_determinant_1 : decode cX9_determinant 1 = .ok (.iconst 1, 1) := by decide +kernel
theorem dX9_determinant_2 : decode cX9_determinant 2 = .ok (.invokestatic 171, 3) := by decide +kernel
theorem dX9_determinant_5 : decode cX9_determinant 5 = .ok (.ifCond .eq 11, 3) := by decide +kernel
theorem dX9_determinant_8 : decode cX9_determinant 8 = .ok (.new 104, 3) := by decide +kernel
theorem dX9_determinant_11 : decode cX9_determinant 11 = .ok (.dup, 1) := by decide +kernel
theorem dX9_determinant_12 : decode cX9_determinant 12 = .ok (.invokespecial 106, 3) := by decide +kernel
theorem dX9_determinant_15 : decode cX9_determinant 15 = .ok (.athrow, 1) := by decide +kernel
theorem dX9_determinant_16 : decode cX9_determinant 16 = .ok (.aload_n 0, 1) := by decide +kernel
theorem dX9_determinant_17 : decode cX9_determinant 17 = .ok (.getfield 49, 3) := by decide +kernel
theorem dX9_determinant_20 : decode cX9_determinant 20 = .ok (.iload_n 1, 1) := by decide +kernel
theorem dX9_determinant_21 : decode cX9_determinant 21 = .ok (.invokevirtual 246, 3) := by decide +kernel
theorem dX9_determinant_24 : decode cX9_determinant 24 = .ok (.ireturn, 1) := by decide +kernel
theorem dX9_kernel_0 : decode cX9_kernel 0 = .ok (.iload_n 1, 1) := by decide +kernel
theorem dX9_kernel_1 : decode cX9_kernel 1 = .ok (.iconst 1, 1) := by decide +kernel
theorem dX9_kernel_2 : decode cX9_kernel 2 = .ok (.invokestatic 171, 3) := by decide +kernel
theorem dX9_kernel_5 : decode cX9_kernel 5 = .ok (.ifCond .ne 19, 3) := by decide +kernel
theorem dX9_kernel_8 : decode cX9_kernel 8 = .ok (.iload_n 2, 1) := by decide +kernel
theorem dX9_kernel_9 : decode cX9_kernel 9 = .ok (.aload_n 0, 1) := by decide +kernel
theorem dX9_kernel_10 : decode cX9_kernel 10 = .ok (.getfield 12, 3) := by decide +kernel
theorem dX9_kernel_13 : decode cX9_kernel 13 = .ok (.getfield 132, 3) := by decide +kernel
theorem dX9_kernel_16 : decode cX9_kernel 16 = .ok (.iconst 1, 1) := by decide +kernel
theorem dX9_kernel_17 : decode cX9_kernel 17 = .ok (.isub, 1) := by decide +kernel
theorem dX9_kernel_18 : decode cX9_kernel 18 = .ok (.invokestatic 171, 3) := by decide +kernel
theorem dX9_kernel_21 : decode cX9_kernel 21 = .ok (.ifCond .eq 11, 3) := by decide +kernel
theorem dX9_kernel_24 : decode cX9_kernel 24 = .ok (.new 104, 3) := by decide +kernel
theorem dX9_kernel_27 : decode cX9_kernel 27 = .ok (.dup, 1) := by decide +kernel
theorem dX9_kernel_28 : decode cX9_kernel 28 = .ok (.invokespecial 106, 3) := by decide +kernel
theorem dX9_kernel_31 : decode cX9_kernel 31 = .ok (.athrow, 1) := by decide +kernel
theorem dX9_kernel_32 : decode cX9_kernel 32 = .ok (.aload_n 0, 1) := by decide +kernel
theorem dX9_kernel_33 : decode cX9_kernel 33 = .ok (.getfield 49, 3) := by decide +kernel
theorem dX9_kernel_36 : decode cX9_kernel 36 = .ok (.iload_n 1, 1) := by decide +kernel
theorem dX9_kernel_37 : decode cX9_kernel 37 = .ok (.iload_n 2, 1) := by decide +kernel
theorem dX9_kernel_38 : decode cX9_kernel 38 = .ok (.invokevirtual 249, 3) := by decide +kernel
theorem dX9_kernel_41 : decode cX9_kernel 41 = .ok (.ireturn, 1) := by decide +kernel
theorem dX9_zeros_0 : decode cX9_zeros 0 = .ok (.iload_n 1, 1) := by decide +kernel
theorem dX9_zeros_1 : decode cX9_zeros 1 = .ok (.iconst 2, 1) := by decide +kernel
theorem dX9_zeros_2 : decode cX9_zeros 2 = .ok (.invokestatic 171, 3) := by decide +kernel
theorem dX9_zeros_5 : decode cX9_zeros 5 = .ok (.ifCond .eq 11, 3) := by decide +kernel
theorem dX9_zeros_8 : decode cX9_zeros 8 = .ok (.new 104, 3) := by decide +kernel
theorem dX9_zeros_11 : decode cX9_zeros 11 = .ok (.dup, 1) := by decide +kernel
theorem dX9_zeros_12 : decode cX9_zeros 12 = .ok (.invokespecial 106, 3) := by decide +kernel
theorem dX9_zeros_15 : decode cX9_zeros 15 = .ok (.athrow, 1) := by decide +kernel
theorem dX9_zeros_16 : decode cX9_zeros 16 = .ok (.iload_n 1, 1) := by decide +kernel
theorem dX9_zeros_17 : decode cX9_zeros 17 = .ok (.ifCond .ne 11, 3) := by decide +kernel
theorem dX9_zeros_20 : decode cX9_zeros 20 = .ok (.aload_n 0, 1) := by decide +kernel
theorem dX9_zeros_21 : decode cX9_zeros 21 = .ok (.getfield 58, 3) := by decide +kernel
theorem dX9_zeros_24 : decode cX9_zeros 24 = .ok (.invokevirtual 252, 3) := by decide +kernel
theorem dX9_zeros_27 : decode cX9_zeros 27 = .ok (.ireturn, 1) := by decide +kernel
theorem dX9_zeros_28 : decode cX9_zeros 28 = .ok (.aload_n 0, 1) := by decide +kernel
theorem dX9_zeros_29 : decode cX9_zeros 29 = .ok (.getfield 49, 3) := by decide +kernel
theorem dX9_zeros_32 : decode cX9_zeros 32 = .ok (.invokevirtual 229, 3) := by decide +kernel
theorem dX9_zeros_35 : decode cX9_zeros 35 = .ok (.ifCond .eq 5, 3) := by decide +kernel
theorem dX9_zeros_38 : decode cX9_zeros 38 = .ok (.iconst (-1), 1) := by decide +kernel
theorem dX9_zeros_39 : decode cX9_zeros 39 = .ok (.ireturn, 1) := by decide +kernel
theorem dX9_zeros_40 : decode cX9_zeros 40 = .ok (.iload_n 1, 1) := by decide +kernel
theorem dX9_zeros_41 : decode cX9_zeros 41 = .ok (.iconst 1, 1) := by decide +kernel
theorem dX9_zeros_42 : decode cX9_zeros 42 = .ok (.if_icmp .ne 13, 3) := by decide +kernel
theorem dX9_zeros_45 : decode cX9_zeros 45 = .ok (.aload_n 0, 1) := by decide +kernel
theorem dX9_zeros_46 : decode cX9_zeros 46 = .ok (.getfield 58, 3) := by decide +kernel
theorem dX9_zeros_49 : decode cX9_zeros 49 = .ok (.invokevirtual 255, 3) := by decide +kernel
theorem dX9_zeros_52 : decode cX9_zeros 52 = .ok (.goto 10, 3) := by decide +kernel
theorem dX9_zeros_55 : decode cX9_zeros 55 = .ok (.aload_n 0, 1) := by decide +kernel
theorem dX9_zeros_56 : decode cX9_zeros 56 = .ok (.getfield 58, 3) := by decide +kernel
theorem dX9_zeros_59 : decode cX9_zeros 59 = .ok (.invokevirtual 258, 3) := by decide +kernel
theorem dX9_zeros_62 : decode cX9_zeros 62 = .ok (.ireturn, 1) := by decide +kernel
theorem dX9_zero_0 : decode cX9_zero 0 = .ok (.iload_n 1, 1) := by decide +kernel
theorem dX9_zero_1 : decode cX9_zero 1 = .ok (.ifCond .lt 14, 3) := by decide +kernel
theorem dX9_zero_4 : decode cX9_zero 4 = .ok (.iload_n 1, 1) := by decide +kernel
theorem dX9_zero_5 : decode cX9_zero 5 = .ok (.aload_n 0, 1) := by decide +kernel
theorem dX9_zero_6 : decode cX9_zero 6 = .ok (.getfield 58, 3) := by decide +kernel
theorem dX9_zero_9 : decode cX9_zero 9 = .ok (.invokevirtual 252, 3) := by decide +kernel
theorem dX9_zero_12 : decode cX9_zero 12 = .ok (.if_icmp .lt 11, 3) := by decide +kernel
theorem dX9_zero_15 : decode cX9_zero 15 = .ok (.new 152, 3) := by decide +kernel
theorem dX9_zero_18 : decode cX9_zero 18 = .ok (.dup, 1) := by decide +kernel
theorem dX9_zero_19 : decode cX9_zero 19 = .ok (.invokespecial 154, 3) := by decide +kernel
theorem dX9_zero_22 : decode cX9_zero 22 = .ok (.athrow, 1) := by decide +kernel
theorem dX9_zero_23 : decode cX9_zero 23 = .ok (.iload_n 2, 1) := by decide +kernel
theorem dX9_zero_24 : decode cX9_zero 24 = .ok (.iconst 2, 1) := by decide +kernel
theorem dX9_zero_25 : decode cX9_zero 25 = .ok (.invokestatic 171, 3) := by decide +kernel
theorem dX9_zero_28 : decode cX9_zero 28 = .ok (.ifCond .eq 11, 3) := by decide +kernel
theorem dX9_zero_31 : decode cX9_zero 31 = .ok (.new 104, 3) := by decide +kernel
theorem dX9_zero_34 : decode cX9_zero 34 = .ok (.dup, 1) := by decide +kernel
theorem dX9_zero_35 : decode cX9_zero 35 = .ok (.invokespecial 106, 3) := by decide +kernel
theorem dX9_zero_38 : decode cX9_zero 38 = .ok (.athrow, 1) := by decide +kernel
theorem dX9_zero_39 : decode cX9_zero 39 = .ok (.iload_n 2, 1) := by decide +kernel
theorem dX9_zero_40 : decode cX9_zero 40 = .ok (.iconst 2, 1) := by decide +kernel
theorem dX9_zero_41 : decode cX9_zero 41 = .ok (.if_icmp .ne 26, 3) := by decide +kernel
theorem dX9_zero_44 : decode cX9_zero 44 = .ok (.aload_n 0, 1) := by decide +kernel
theorem dX9_zero_45 : decode cX9_zero 45 = .ok (.getfield 49, 3) := by decide +kernel
theorem dX9_zero_48 : decode cX9_zero 48 = .ok (.invokevirtual 229, 3) := by decide +kernel
theorem dX9_zero_51 : decode cX9_zero 51 = .ok (.ifCond .ne 14, 3) := by decide +kernel
theorem dX9_zero_54 : decode cX9_zero 54 = .ok (.aload_n 0, 1) := by decide +kernel
theorem dX9_zero_55 : decode cX9_zero 55 = .ok (.getfield 58, 3) := by decide +kernel
theorem dX9_zero_58 : decode cX9_zero 58 = .ok (.iload_n 1, 1) := by decide +kernel
theorem dX9_zero_59 : decode cX9_zero 59 = .ok (.invokevirtual 261, 3) := by decide +kernel
theorem dX9_zero_62 : decode cX9_zero 62 = .ok (.goto 4, 3) := by decide +kernel
theorem dX9_zero_65 : decode cX9_zero 65 = .ok (.iconst (-1), 1) := by decide +kernel
theorem dX9_zero_66 : decode cX9_zero 66 = .ok (.ireturn, 1) := by decide +kernel
theorem dX9_zero_67 : decode cX9_zero 67 = .ok (.iload_n 2, 1) := by decide +kernel
theorem dX9_zero_68 : decode cX9_zero 68 = .ok (.ifCond .ne 15, 3) := by decide +kernel
theorem dX9_zero_71 : decode cX9_zero 71 = .ok (.aload_n 0, 1) := by decide +kernel
theorem dX9_zero_72 : decode cX9_zero 72 = .ok (.getfield 58, 3) := by decide +kernel
theorem dX9_zero_75 : decode cX9_zero 75 = .ok (.getfield 264, 3) := by decide +kernel
theorem dX9_zero_78 : decode cX9_zero 78 = .ok (.iload_n 1, 1) := by decide +kernel
theorem dX9_zero_79 : decode cX9_zero 79 = .ok (.iaload, 1) := by decide +kernel
theorem dX9_zero_80 : decode cX9_zero 80 = .ok (.goto 12, 3) := by decide +kernel
theorem dX9_zero_83 : decode cX9_zero 83 = .ok (.aload_n 0, 1) := by decide +kernel
theorem dX9_zero_84 : decode cX9_zero 84 = .ok (.getfield 58, 3) := by decide +kernel
theorem dX9_zero_87 : decode cX9_zero 87 = .ok (.getfield 267, 3) := by decide +kernel
theorem dX9_zero_90 : decode cX9_zero 90 = .ok (.iload_n 1, 1) := by decide +kernel
theorem dX9_zero_91 : decode cX9_zero 91 = .ok (.iaload, 1) := by decide +kernel
theorem dX9_zero_92 : decode cX9_zero 92 = .ok (.ireturn, 1) := by decide +kernel
theorem dX9_multiplicity_0 : decode cX9_multiplicity 0 = .ok (.iload_n 1, 1) := by decide +kernel
theorem dX9_multiplicity_1 : decode cX9_multiplicity 1 = .ok (.aload_n 0, 1) := by decide +kernel
theorem dX9_multiplicity_2 : decode cX9_multiplicity 2 = .ok (.getfield 12, 3) := by decide +kernel
theorem dX9_multiplicity_5 : decode cX9_multiplicity 5 = .ok (.getfield 132, 3) := by decide +kernel
theorem dX9_multiplicity_8 : decode cX9_multiplicity 8 = .ok (.iconst 1, 1) := by decide +kernel
theorem dX9_multiplicity_9 : decode cX9_multiplicity 9 = .ok (.isub, 1) := by decide +kernel
theorem dX9_multiplicity_10 : decode cX9_multiplicity 10 = .ok (.invokestatic 171, 3) := by decide +kernel
theorem dX9_multiplicity_13 : decode cX9_multiplicity 13 = .ok (.ifCond .ne 19, 3) := by decide +kernel
theorem dX9_multiplicity_16 : decode cX9_multiplicity 16 = .ok (.iload_n 2, 1) := by decide +kernel
theorem dX9_multiplicity_17 : decode cX9_multiplicity 17 = .ok (.aload_n 0, 1) := by decide +kernel
theorem dX9_multiplicity_18 : decode cX9_multiplicity 18 = .ok (.getfield 12, 3) := by decide +kernel
theorem dX9_multiplicity_21 : decode cX9_multiplicity 21 = .ok (.getfield 132, 3) := by decide +kernel
theorem dX9_multiplicity_24 : decode cX9_multiplicity 24 = .ok (.iconst 1, 1) := by decide +kernel
theorem dX9_multiplicity_25 : decode cX9_multiplicity 25 = .ok (.isub, 1) := by decide +kernel
theorem dX9_multiplicity_26 : decode cX9_multiplicity 26 = .ok (.invokestatic 171, 3) := by decide +kernel
theorem dX9_multiplicity_29 : decode cX9_multiplicity 29 = .ok (.ifCond .eq 11, 3) := by decide +kernel
theorem dX9_multiplicity_32 : decode cX9_multiplicity 32 = .ok (.new 104, 3) := by decide +kernel
theorem dX9_multiplicity_35 : decode cX9_multiplicity 35 = .ok (.dup, 1) := by decide +kernel
theorem dX9_multiplicity_36 : decode cX9_multiplicity 36 = .ok (.invokespecial 106, 3) := by decide +kernel
theorem dX9_multiplicity_39 : decode cX9_multiplicity 39 = .ok (.athrow, 1) := by decide +kernel
theorem dX9_multiplicity_40 : decode cX9_multiplicity 40 = .ok (.aload_n 0, 1) := by decide +kernel
theorem dX9_multiplicity_41 : decode cX9_multiplicity 41 = .ok (.getfield 49, 3) := by decide +kernel
theorem dX9_multiplicity_44 : decode cX9_multiplicity 44 = .ok (.invokevirtual 229, 3) := by decide +kernel
theorem dX9_multiplicity_47 : decode cX9_multiplicity 47 = .ok (.ifCond .eq 5, 3) := by decide +kernel
theorem dX9_multiplicity_50 : decode cX9_multiplicity 50 = .ok (.iconst (-1), 1) := by decide +kernel
theorem dX9_multiplicity_51 : decode cX9_multiplicity 51 = .ok (.ireturn, 1) := by decide +kernel
theorem dX9_multiplicity_52 : decode cX9_multiplicity 52 = .ok (.aload_n 0, 1) := by decide +kernel
theorem dX9_multiplicity_53 : decode cX9_multiplicity 53 = .ok (.getfield 58, 3) := by decide +kernel
theorem dX9_multiplicity_56 : decode cX9_multiplicity 56 = .ok (.iload_n 1, 1) := by decide +kernel
theorem dX9_multiplicity_57 : decode cX9_multiplicity 57 = .ok (.iload_n 2, 1) := by decide +kernel
theorem dX9_multiplicity_58 : decode cX9_multiplicity 58 = .ok (.invokevirtual 270, 3) := by decide +kernel
theorem dX9_multiplicity_61 : decode cX9_multiplicity 61 = .ok (.istore_n 3, 1) := by decide +kernel
theorem dX9_multiplicity_62 : decode cX9_multiplicity 62 = .ok (.iload_n 3, 1) := by decide +kernel
theorem dX9_multiplicity_63 : decode cX9_multiplicity 63 = .ok (.iconst (-1), 1) := by decide +kernel
theorem dX9_multiplicity_64 : decode cX9_multiplicity 64 = .ok (.if_icmp .ne 7, 3) := by decide +kernel
theorem dX9_multiplicity_67 : decode cX9_multiplicity 67 = .ok (.iconst 0, 1) := by decide +kernel
theorem dX9_multiplicity_68 : decode cX9_multiplicity 68 = .ok (.goto 11, 3) := by decide +kernel
theorem dX9_multiplicity_71 : decode cX9_multiplicity 71 = .ok (.aload_n 0, 1) := by decide +kernel
theorem dX9_multiplicity_72 : decode cX9_multiplicity 72 = .ok (.getfield 58, 3) := by decide +kernel
theorem dX9_multiplicity_75 : decode cX9_multiplicity 75 = .ok (.iload_n 3, 1) := by decide +kernel
theorem dX9_multiplicity_76 : decode cX9_multiplicity 76 = .ok (.invokevirtual 261, 3) := by decide +kernel
theorem dX9_multiplicity_79 : decode cX9_multiplicity 79 = .ok (.ireturn, 1) := by decide +kernel
theorem dX9_share_0 : decode cX9_share 0 = .ok (.aload_n 0, 1) := by decide +kernel
theorem dX9_share_1 : decode cX9_share 1 = .ok (.getfield 49, 3) := by decide +kernel
theorem dX9_share_4 : decode cX9_share 4 = .ok (.invokevirtual 229, 3) := by decide +kernel
theorem dX9_share_7 : decode cX9_share 7 = .ok (.ifCond .ne 14, 3) := by decide +kernel
theorem dX9_share_10 : decode cX9_share 10 = .ok (.aload_n 0, 1) := by decide +kernel
theorem dX9_share_11 : decode cX9_share 11 = .ok (.getfield 12, 3) := by decide +kernel
theorem dX9_share_14 : decode cX9_share 14 = .ok (.getfield 129, 3) := by decide +kernel
theorem dX9_share_17 : decode cX9_share 17 = .ok (.iconst 1, 1) := by decide +kernel
theorem dX9_share_18 : decode cX9_share 18 = .ok (.if_icmp .ge 7, 3) := by decide +kernel
theorem dX9_share_21 : decode cX9_share 21 = .ok (.ldc2_w 273, 3) := by decide +kernel
theorem dX9_share_24 : decode cX9_share 24 = .ok (.dreturn, 1) := by decide +kernel
theorem dX9_share_25 : decode cX9_share 25 = .ok (.aload_n 0, 1) := by decide +kernel
theorem dX9_share_26 : decode cX9_share 26 = .ok (.getfield 58, 3) := by decide +kernel
theorem dX9_share_29 : decode cX9_share 29 = .ok (.invokevirtual 258, 3) := by decide +kernel
theorem dX9_share_32 : decode cX9_share 32 = .ok (.i2d, 1) := by decide +kernel
theorem dX9_share_33 : decode cX9_share 33 = .ok (.aload_n 0, 1) := by decide +kernel
theorem dX9_share_34 : decode cX9_share 34 = .ok (.getfield 12, 3) := by decide +kernel
theorem dX9_share_37 : decode cX9_share 37 = .ok (.getfield 129, 3) := by decide +kernel
theorem dX9_share_40 : decode cX9_share 40 = .ok (.i2d, 1) := by decide +kernel
theorem dX9_share_41 : decode cX9_share 41 = .ok (.ddiv, 1) := by decide +kernel
theorem dX9_share_42 : decode cX9_share 42 = .ok (.dreturn, 1) := by decide +kernel
theorem dX9_addPoint_0 : decode cX9_addPoint 0 = .ok (.iload_n 1, 1) := by decide +kernel
theorem dX9_addPoint_1 : decode cX9_addPoint 1 = .ok (.aload_n 0, 1) := by decide +kernel
theorem dX9_addPoint_2 : decode cX9_addPoint 2 = .ok (.getfield 12, 3) := by decide +kernel
theorem dX9_addPoint_5 : decode cX9_addPoint 5 = .ok (.getfield 132, 3) := by decide +kernel
theorem dX9_addPoint_8 : decode cX9_addPoint 8 = .ok (.iconst 1, 1) := by decide +kernel
theorem dX9_addPoint_9 : decode cX9_addPoint 9 = .ok (.isub, 1) := by decide +kernel
theorem dX9_addPoint_10 : decode cX9_addPoint 10 = .ok (.invokestatic 171, 3) := by decide +kernel
theorem dX9_addPoint_13 : decode cX9_addPoint 13 = .ok (.ifCond .ne 19, 3) := by decide +kernel
theorem dX9_addPoint_16 : decode cX9_addPoint 16 = .ok (.iload_n 2, 1) := by decide +kernel
theorem dX9_addPoint_17 : decode cX9_addPoint 17 = .ok (.aload_n 0, 1) := by decide +kernel
theorem dX9_addPoint_18 : decode cX9_addPoint 18 = .ok (.getfield 12, 3) := by decide +kernel
theorem dX9_addPoint_21 : decode cX9_addPoint 21 = .ok (.getfield 132, 3) := by decide +kernel
theorem dX9_addPoint_24 : decode cX9_addPoint 24 = .ok (.iconst 1, 1) := by decide +kernel
theorem dX9_addPoint_25 : decode cX9_addPoint 25 = .ok (.isub, 1) := by decide +kernel
theorem dX9_addPoint_26 : decode cX9_addPoint 26 = .ok (.invokestatic 171, 3) := by decide +kernel
theorem dX9_addPoint_29 : decode cX9_addPoint 29 = .ok (.ifCond .eq 11, 3) := by decide +kernel
theorem dX9_addPoint_32 : decode cX9_addPoint 32 = .ok (.new 104, 3) := by decide +kernel
theorem dX9_addPoint_35 : decode cX9_addPoint 35 = .ok (.dup, 1) := by decide +kernel
theorem dX9_addPoint_36 : decode cX9_addPoint 36 = .ok (.invokespecial 106, 3) := by decide +kernel
theorem dX9_addPoint_39 : decode cX9_addPoint 39 = .ok (.athrow, 1) := by decide +kernel
theorem dX9_addPoint_40 : decode cX9_addPoint 40 = .ok (.aload_n 0, 1) := by decide +kernel
theorem dX9_addPoint_41 : decode cX9_addPoint 41 = .ok (.getfield 12, 3) := by decide +kernel
theorem dX9_addPoint_44 : decode cX9_addPoint 44 = .ok (.getfield 162, 3) := by decide +kernel
theorem dX9_addPoint_47 : decode cX9_addPoint 47 = .ok (.bipush 12, 2) := by decide +kernel
theorem dX9_addPoint_49 : decode cX9_addPoint 49 = .ok (.if_icmp .ge 15, 3) := by decide +kernel
theorem dX9_addPoint_52 : decode cX9_addPoint 52 = .ok (.aload_n 0, 1) := by decide +kernel
theorem dX9_addPoint_53 : decode cX9_addPoint 53 = .ok (.getfield 12, 3) := by decide +kernel
theorem dX9_addPoint_56 : decode cX9_addPoint 56 = .ok (.iload_n 1, 1) := by decide +kernel
theorem dX9_addPoint_57 : decode cX9_addPoint 57 = .ok (.iload_n 2, 1) := by decide +kernel
theorem dX9_addPoint_58 : decode cX9_addPoint 58 = .ok (.invokevirtual 275, 3) := by decide +kernel
theorem dX9_addPoint_61 : decode cX9_addPoint 61 = .ok (.ifCond .eq 11, 3) := by decide +kernel
theorem dX9_addPoint_64 : decode cX9_addPoint 64 = .ok (.new 97, 3) := by decide +kernel
theorem dX9_addPoint_67 : decode cX9_addPoint 67 = .ok (.dup, 1) := by decide +kernel
theorem dX9_addPoint_68 : decode cX9_addPoint 68 = .ok (.invokespecial 99, 3) := by decide +kernel
theorem dX9_addPoint_71 : decode cX9_addPoint 71 = .ok (.athrow, 1) := by decide +kernel
theorem dX9_addPoint_72 : decode cX9_addPoint 72 = .ok (.aload_n 0, 1) := by decide +kernel
theorem dX9_addPoint_73 : decode cX9_addPoint 73 = .ok (.iconst 3, 1) := by decide +kernel
theorem dX9_addPoint_74 : decode cX9_addPoint 74 = .ok (.invokevirtual 179, 3) := by decide +kernel
theorem dX9_addPoint_77 : decode cX9_addPoint 77 = .ok (.aload_n 0, 1) := by decide +kernel
theorem dX9_addPoint_78 : decode cX9_addPoint 78 = .ok (.getfield 12, 3) := by decide +kernel
theorem dX9_addPoint_81 : decode cX9_addPoint 81 = .ok (.iload_n 1, 1) := by decide +kernel
theorem dX9_addPoint_82 : decode cX9_addPoint 82 = .ok (.iload_n 2, 1) := by decide +kernel
theorem dX9_addPoint_83 : decode cX9_addPoint 83 = .ok (.invokevirtual 278, 3) := by decide +kernel
theorem dX9_addPoint_86 : decode cX9_addPoint 86 = .ok (.aload_n 0, 1) := by decide +kernel
theorem dX9_addPoint_87 : decode cX9_addPoint 87 = .ok (.getfield 12, 3) := by decide +kernel
theorem dX9_addPoint_90 : decode cX9_addPoint 90 = .ok (.getfield 162, 3) := by decide +kernel
theorem dX9_addPoint_93 : decode cX9_addPoint 93 = .ok (.iconst 1, 1) := by decide +kernel
theorem dX9_addPoint_94 : decode cX9_addPoint 94 = .ok (.isub, 1) := by decide +kernel
theorem dX9_addPoint_95 : decode cX9_addPoint 95 = .ok (.ireturn, 1) := by decide +kernel
theorem dX9_removePoint_0 : decode cX9_removePoint 0 = .ok (.iload_n 1, 1) := by decide +kernel
theorem dX9_removePoint_1 : decode cX9_removePoint 1 = .ok (.ifCond .lt 14, 3) := by decide +kernel
theorem dX9_removePoint_4 : decode cX9_removePoint 4 = .ok (.iload_n 1, 1) := by decide +kernel
theorem dX9_removePoint_5 : decode cX9_removePoint 5 = .ok (.aload_n 0, 1) := by decide +kernel
theorem dX9_removePoint_6 : decode cX9_removePoint 6 = .ok (.getfield 12, 3) := by decide +kernel
theorem dX9_removePoint_9 : decode cX9_removePoint 9 = .ok (.getfield 162, 3) := by decide +kernel
theorem dX9_removePoint_12 : decode cX9_removePoint 12 = .ok (.if_icmp .lt 11, 3) := by decide +kernel
theorem dX9_removePoint_15 : decode cX9_removePoint 15 = .ok (.new 152, 3) := by decide +kernel
theorem dX9_removePoint_18 : decode cX9_removePoint 18 = .ok (.dup, 1) := by decide +kernel
theorem dX9_removePoint_19 : decode cX9_removePoint 19 = .ok (.invokespecial 154, 3) := by decide +kernel
theorem dX9_removePoint_22 : decode cX9_removePoint 22 = .ok (.athrow, 1) := by decide +kernel
theorem dX9_removePoint_23 : decode cX9_removePoint 23 = .ok (.aload_n 0, 1) := by decide +kernel
theorem dX9_removePoint_24 : decode cX9_removePoint 24 = .ok (.iconst 4, 1) := by decide +kernel
theorem dX9_removePoint_25 : decode cX9_removePoint 25 = .ok (.invokevirtual 179, 3) := by decide +kernel
theorem dX9_removePoint_28 : decode cX9_removePoint 28 = .ok (.aload_n 0, 1) := by decide +kernel
theorem dX9_removePoint_29 : decode cX9_removePoint 29 = .ok (.getfield 12, 3) := by decide +kernel
theorem dX9_removePoint_32 : decode cX9_removePoint 32 = .ok (.iload_n 1, 1) := by decide +kernel
theorem dX9_removePoint_33 : decode cX9_removePoint 33 = .ok (.invokevirtual 282, 3) := by decide +kernel
theorem dX9_removePoint_36 : decode cX9_removePoint 36 = .ok (.aload_n 0, 1) := by decide +kernel
theorem dX9_removePoint_37 : decode cX9_removePoint 37 = .ok (.getfield 12, 3) := by decide +kernel
theorem dX9_removePoint_40 : decode cX9_removePoint 40 = .ok (.getfield 162, 3) := by decide +kernel
theorem dX9_removePoint_43 : decode cX9_removePoint 43 = .ok (.ireturn, 1) := by decide +kernel
theorem dX9_point_0 : decode cX9_point 0 = .ok (.iload_n 1, 1) := by decide +kernel
theorem dX9_point_1 : decode cX9_point 1 = .ok (.ifCond .lt 14, 3) := by decide +kernel
theorem dX9_point_4 : decode cX9_point 4 = .ok (.iload_n 1, 1) := by decide +kernel
theorem dX9_point_5 : decode cX9_point 5 = .ok (.aload_n 0, 1) := by decide +kernel
theorem dX9_point_6 : decode cX9_point 6 = .ok (.getfield 12, 3) := by decide +kernel
theorem dX9_point_9 : decode cX9_point 9 = .ok (.getfield 162, 3) := by decide +kernel
theorem dX9_point_12 : decode cX9_point 12 = .ok (.if_icmp .lt 11, 3) := by decide +kernel
theorem dX9_point_15 : decode cX9_point 15 = .ok (.new 152, 3) := by decide +kernel
theorem dX9_point_18 : decode cX9_point 18 = .ok (.dup, 1) := by decide +kernel
theorem dX9_point_19 : decode cX9_point 19 = .ok (.invokespecial 154, 3) := by decide +kernel
theorem dX9_point_22 : decode cX9_point 22 = .ok (.athrow, 1) := by decide +kernel
theorem dX9_point_23 : decode cX9_point 23 = .ok (.iload_n 2, 1) := by decide +kernel
theorem dX9_point_24 : decode cX9_point 24 = .ok (.iconst 2, 1) := by decide +kernel
theorem dX9_point_25 : decode cX9_point 25 = .ok (.invokestatic 171, 3) := by decide +kernel
theorem dX9_point_28 : decode cX9_point 28 = .ok (.ifCond .eq 11, 3) := by decide +kernel
theorem dX9_point_31 : decode cX9_point 31 = .ok (.new 104, 3) := by decide +kernel
theorem dX9_point_34 : decode cX9_point 34 = .ok (.dup, 1) := by decide +kernel
theorem dX9_point_35 : decode cX9_point 35 = .ok (.invokespecial 106, 3) := by decide +kernel
theorem dX9_point_38 : decode cX9_point 38 = .ok (.athrow, 1) := by decide +kernel
theorem dX9_point_39 : decode cX9_point 39 = .ok (.aload_n 0, 1) := by decide +kernel
theorem dX9_point_40 : decode cX9_point 40 = .ok (.getfield 12, 3) := by decide +kernel
theorem dX9_point_43 : decode cX9_point 43 = .ok (.getfield 285, 3) := by decide +kernel
theorem dX9_point_46 : decode cX9_point 46 = .ok (.iload_n 1, 1) := by decide +kernel
theorem dX9_point_47 : decode cX9_point 47 = .ok (.iaload, 1) := by decide +kernel
theorem dX9_point_48 : decode cX9_point 48 = .ok (.istore_n 3, 1) := by decide +kernel
theorem dX9_point_49 : decode cX9_point 49 = .ok (.aload_n 0, 1) := by decide +kernel
theorem dX9_point_50 : decode cX9_point 50 = .ok (.getfield 12, 3) := by decide +kernel
theorem dX9_point_53 : decode cX9_point 53 = .ok (.getfield 288, 3) := by decide +kernel
theorem dX9_point_56 : decode cX9_point 56 = .ok (.iload_n 1, 1) := by decide +kernel
theorem dX9_point_57 : decode cX9_point 57 = .ok (.iaload, 1) := by decide +kernel
theorem dX9_point_58 : decode cX9_point 58 = .ok (.istore 4, 2) := by decide +kernel
theorem dX9_point_60 : decode cX9_point 60 = .ok (.iload_n 2, 1) := by decide +kernel
theorem dX9_point_61 : decode cX9_point 61 = .ok (.iconst 2, 1) := by decide +kernel
theorem dX9_point_62 : decode cX9_point 62 = .ok (.if_icmp .ne 40, 3) := by decide +kernel
theorem dX9_point_65 : decode cX9_point 65 = .ok (.aload_n 0, 1) := by decide +kernel
theorem dX9_point_66 : decode cX9_point 66 = .ok (.getfield 40, 3) := by decide +kernel
theorem dX9_point_69 : decode cX9_point 69 = .ok (.iload_n 3, 1) := by decide +kernel
theorem dX9_point_70 : decode cX9_point 70 = .ok (.iload 4, 2) := by decide +kernel
theorem dX9_point_72 : decode cX9_point 72 = .ok (.aload_n 0, 1) := by decide +kernel
theorem dX9_point_73 : decode cX9_point 73 = .ok (.getfield 12, 3) := by decide +kernel
theorem dX9_point_76 : decode cX9_point 76 = .ok (.getfield 132, 3) := by decide +kernel
theorem dX9_point_79 : decode cX9_point 79 = .ok (.invokevirtual 218, 3) := by decide +kernel
theorem dX9_point_82 : decode cX9_point 82 = .ok (.aload_n 0, 1) := by decide +kernel
theorem dX9_point_83 : decode cX9_point 83 = .ok (.getfield 40, 3) := by decide +kernel
theorem dX9_point_86 : decode cX9_point 86 = .ok (.aload_n 0, 1) := by decide +kernel
theorem dX9_point_87 : decode cX9_point 87 = .ok (.getfield 12, 3) := by decide +kernel
theorem dX9_point_90 : decode cX9_point 90 = .ok (.invokevirtual 291, 3) := by decide +kernel
theorem dX9_point_93 : decode cX9_point 93 = .ok (.ifCond .eq 7, 3) := by decide +kernel
theorem dX9_point_96 : decode cX9_point 96 = .ok (.iconst 1, 1) := by decide +kernel
theorem dX9_point_97 : decode cX9_point 97 = .ok (.goto 4, 3) := by decide +kernel
theorem dX9_point_100 : decode cX9_point 100 = .ok (.iconst 0, 1) := by decide +kernel
theorem dX9_point_101 : decode cX9_point 101 = .ok (.ireturn, 1) := by decide +kernel
theorem dX9_point_102 : decode cX9_point 102 = .ok (.iload_n 2, 1) := by decide +kernel
theorem dX9_point_103 : decode cX9_point 103 = .ok (.ifCond .ne 7, 3) := by decide +kernel
theorem dX9_point_106 : decode cX9_point 106 = .ok (.iload_n 3, 1) := by decide +kernel
theorem dX9_point_107 : decode cX9_point 107 = .ok (.goto 5, 3) := by decide +kernel
theorem dX9_point_110 : decode cX9_point 110 = .ok (.iload 4, 2) := by decide +kernel
theorem dX9_point_112 : decode cX9_point 112 = .ok (.ireturn, 1) := by decide +kernel
theorem dX9_fit_0 : decode cX9_fit 0 = .ok (.aload_n 0, 1) := by decide +kernel
theorem dX9_fit_1 : decode cX9_fit 1 = .ok (.getfield 12, 3) := by decide +kernel
theorem dX9_fit_4 : decode cX9_fit 4 = .ok (.getfield 162, 3) := by decide +kernel
theorem dX9_fit_7 : decode cX9_fit 7 = .ok (.ifCond .ne 11, 3) := by decide +kernel
theorem dX9_fit_10 : decode cX9_fit 10 = .ok (.new 97, 3) := by decide +kernel
theorem dX9_fit_13 : decode cX9_fit 13 = .ok (.dup, 1) := by decide +kernel
theorem dX9_fit_14 : decode cX9_fit 14 = .ok (.invokespecial 99, 3) := by decide +kernel
theorem dX9_fit_17 : decode cX9_fit 17 = .ok (.athrow, 1) := by decide +kernel
theorem dX9_fit_18 : decode cX9_fit 18 = .ok (.aload_n 0, 1) := by decide +kernel
theorem dX9_fit_19 : decode cX9_fit 19 = .ok (.iconst 5, 1) := by decide +kernel
theorem dX9_fit_20 : decode cX9_fit 20 = .ok (.invokevirtual 179, 3) := by decide +kernel
theorem dX9_fit_23 : decode cX9_fit 23 = .ok (.aload_n 0, 1) := by decide +kernel
theorem dX9_fit_24 : decode cX9_fit 24 = .ok (.getfield 67, 3) := by decide +kernel
theorem dX9_fit_27 : decode cX9_fit 27 = .ok (.aload_n 0, 1) := by decide +kernel
theorem dX9_fit_28 : decode cX9_fit 28 = .ok (.getfield 12, 3) := by decide +kernel
theorem dX9_fit_31 : decode cX9_fit 31 = .ok (.aload_n 0, 1) := by decide +kernel
theorem dX9_fit_32 : decode cX9_fit 32 = .ok (.getfield 19, 3) := by decide +kernel
theorem dX9_fit_35 : decode cX9_fit 35 = .ok (.invokevirtual 295, 3) := by decide +kernel
theorem dX9_fit_38 : decode cX9_fit 38 = .ok (.aload_n 0, 1) := by decide +kernel
theorem dX9_fit_39 : decode cX9_fit 39 = .ok (.getfield 12, 3) := by decide +kernel
theorem dX9_fit_42 : decode cX9_fit 42 = .ok (.aload_n 0, 1) := by decide +kernel
theorem dX9_fit_43 : decode cX9_fit 43 = .ok (.getfield 19, 3) := by decide +kernel
theorem dX9_fit_46 : decode cX9_fit 46 = .ok (.invokevirtual 114, 3) := by decide +kernel
theorem dX9_fit_49 : decode cX9_fit 49 = .ok (.aload_n 0, 1) := by decide +kernel
theorem dX9_fit_50 : decode cX9_fit 50 = .ok (.getfield 12, 3) := by decide +kernel
theorem dX9_fit_53 : decode cX9_fit 53 = .ok (.getfield 129, 3) := by decide +kernel
theorem dX9_fit_56 : decode cX9_fit 56 = .ok (.ireturn, 1) := by decide +kernel
theorem dX9_misfits_0 : decode cX9_misfits 0 = .ok (.aload_n 0, 1) := by decide +kernel
theorem dX9_misfits_1 : decode cX9_misfits 1 = .ok (.getfield 12, 3) := by decide +kernel
theorem dX9_misfits_4 : decode cX9_misfits 4 = .ok (.getfield 162, 3) := by decide +kernel
theorem dX9_misfits_7 : decode cX9_misfits 7 = .ok (.ifCond .ne 5, 3) := by decide +kernel
theorem dX9_misfits_10 : decode cX9_misfits 10 = .ok (.iconst (-1), 1) := by decide +kernel
theorem dX9_misfits_11 : decode cX9_misfits 11 = .ok (.ireturn, 1) := by decide +kernel
theorem dX9_misfits_12 : decode cX9_misfits 12 = .ok (.aload_n 0, 1) := by decide +kernel
theorem dX9_misfits_13 : decode cX9_misfits 13 = .ok (.getfield 67, 3) := by decide +kernel
theorem dX9_misfits_16 : decode cX9_misfits 16 = .ok (.aload_n 0, 1) := by decide +kernel
theorem dX9_misfits_17 : decode cX9_misfits 17 = .ok (.getfield 12, 3) := by decide +kernel
theorem dX9_misfits_20 : decode cX9_misfits 20 = .ok (.aload_n 0, 1) := by decide +kernel
theorem dX9_misfits_21 : decode cX9_misfits 21 = .ok (.getfield 19, 3) := by decide +kernel
theorem dX9_misfits_24 : decode cX9_misfits 24 = .ok (.invokevirtual 295, 3) := by decide +kernel
theorem dX9_misfits_27 : decode cX9_misfits 27 = .ok (.aload_n 0, 1) := by decide +kernel
theorem dX9_misfits_28 : decode cX9_misfits 28 = .ok (.getfield 12, 3) := by decide +kernel
theorem dX9_misfits_31 : decode cX9_misfits 31 = .ok (.aload_n 0, 1) := by decide +kernel
theorem dX9_misfits_32 : decode cX9_misfits 32 = .ok (.getfield 19, 3) := by decide +kernel
theorem dX9_misfits_35 : decode cX9_misfits 35 = .ok (.invokevirtual 299, 3) := by decide +kernel
theorem dX9_misfits_38 : decode cX9_misfits 38 = .ok (.ifCond .eq 17, 3) := by decide +kernel
theorem dX9_misfits_41 : decode cX9_misfits 41 = .ok (.aload_n 0, 1) := by decide +kernel
theorem dX9_misfits_42 : decode cX9_misfits 42 = .ok (.getfield 12, 3) := by decide +kernel
theorem dX9_misfits_45 : decode cX9_misfits 45 = .ok (.aload_n 0, 1) := by decide +kernel
theorem dX9_misfits_46 : decode cX9_misfits 46 = .ok (.getfield 19, 3) := by decide +kernel
theorem dX9_misfits_49 : decode cX9_misfits 49 = .ok (.invokevirtual 302, 3) := by decide +kernel
theorem dX9_misfits_52 : decode cX9_misfits 52 = .ok (.goto 4, 3) := by decide +kernel
theorem dX9_misfits_55 : decode cX9_misfits 55 = .ok (.iconst (-1), 1) := by decide +kernel
theorem dX9_misfits_56 : decode cX9_misfits 56 = .ok (.ireturn, 1) := by decide +kernel
theorem dX9_undo_0 : decode cX9_undo 0 = .ok (.aload_n 0, 1) := by decide +kernel
theorem dX9_undo_1 : decode cX9_undo 1 = .ok (.getfield 29, 3) := by decide +kernel
theorem dX9_undo_4 : decode cX9_undo 4 = .ok (.getfield 117, 3) := by decide +kernel
theorem dX9_undo_7 : decode cX9_undo 7 = .ok (.ifCond .ne 5, 3) := by decide +kernel
theorem dX9_undo_10 : decode cX9_undo 10 = .ok (.iconst (-1), 1) := by decide +kernel
theorem dX9_undo_11 : decode cX9_undo 11 = .ok (.ireturn, 1) := by decide +kernel
theorem dX9_undo_12 : decode cX9_undo 12 = .ok (.aload_n 0, 1) := by decide +kernel
theorem dX9_undo_13 : decode cX9_undo 13 = .ok (.getfield 29, 3) := by decide +kernel
theorem dX9_undo_16 : decode cX9_undo 16 = .ok (.aload_n 0, 1) := by decide +kernel
theorem dX9_undo_17 : decode cX9_undo 17 = .ok (.getfield 12, 3) := by decide +kernel
theorem dX9_undo_20 : decode cX9_undo 20 = .ok (.invokevirtual 306, 3) := by decide +kernel
theorem dX9_undo_23 : decode cX9_undo 23 = .ok (.aload_n 0, 1) := by decide +kernel
theorem dX9_undo_24 : decode cX9_undo 24 = .ok (.invokevirtual 126, 3) := by decide +kernel
theorem dX9_undo_27 : decode cX9_undo 27 = .ok (.aload_n 0, 1) := by decide +kernel
theorem dX9_undo_28 : decode cX9_undo 28 = .ok (.getfield 29, 3) := by decide +kernel
theorem dX9_undo_31 : decode cX9_undo 31 = .ok (.getfield 117, 3) := by decide +kernel
theorem dX9_undo_34 : decode cX9_undo 34 = .ok (.ireturn, 1) := by decide +kernel
theorem dX9_save_0 : decode cX9_save 0 = .ok (.iload_n 1, 1) := by decide +kernel
theorem dX9_save_1 : decode cX9_save 1 = .ok (.ifCond .lt 8, 3) := by decide +kernel
theorem dX9_save_4 : decode cX9_save 4 = .ok (.iload_n 1, 1) := by decide +kernel
theorem dX9_save_5 : decode cX9_save 5 = .ok (.iconst 2, 1) := by decide +kernel
theorem dX9_save_6 : decode cX9_save 6 = .ok (.if_icmp .lt 11, 3) := by decide +kernel
theorem dX9_save_9 : decode cX9_save 9 = .ok (.new 104, 3) := by decide +kernel
theorem dX9_save_12 : decode cX9_save 12 = .ok (.dup, 1) := by decide +kernel
theorem dX9_save_13 : decode cX9_save 13 = .ok (.invokespecial 106, 3) := by decide +kernel
theorem dX9_save_16 : decode cX9_save 16 = .ok (.athrow, 1) := by decide +kernel
theorem dX9_save_17 : decode cX9_save 17 = .ok (.aload_n 0, 1) := by decide +kernel
theorem dX9_save_18 : decode cX9_save 18 = .ok (.getfield 22, 3) := by decide +kernel
theorem dX9_save_21 : decode cX9_save 21 = .ok (.iload_n 1, 1) := by decide +kernel
theorem dX9_save_22 : decode cX9_save 22 = .ok (.aaload, 1) := by decide +kernel
theorem dX9_save_23 : decode cX9_save 23 = .ok (.ifnonnull 16, 3) := by decide +kernel
theorem dX9_save_26 : decode cX9_save 26 = .ok (.aload_n 0, 1) := by decide +kernel
theorem dX9_save_27 : decode cX9_save 27 = .ok (.getfield 22, 3) := by decide +kernel
theorem dX9_save_30 : decode cX9_save 30 = .ok (.iload_n 1, 1) := by decide +kernel
theorem dX9_save_31 : decode cX9_save 31 = .ok (.new 9, 3) := by decide +kernel
theorem dX9_save_34 : decode cX9_save 34 = .ok (.dup, 1) := by decide +kernel
theorem dX9_save_35 : decode cX9_save 35 = .ok (.invokespecial 11, 3) := by decide +kernel
theorem dX9_save_38 : decode cX9_save 38 = .ok (.aastore, 1) := by decide +kernel
theorem dX9_save_39 : decode cX9_save 39 = .ok (.aload_n 0, 1) := by decide +kernel
theorem dX9_save_40 : decode cX9_save 40 = .ok (.getfield 22, 3) := by decide +kernel
theorem dX9_save_43 : decode cX9_save 43 = .ok (.iload_n 1, 1) := by decide +kernel
theorem dX9_save_44 : decode cX9_save 44 = .ok (.aaload, 1) := by decide +kernel
theorem dX9_save_45 : decode cX9_save 45 = .ok (.aload_n 0, 1) := by decide +kernel
theorem dX9_save_46 : decode cX9_save 46 = .ok (.getfield 12, 3) := by decide +kernel
theorem dX9_save_49 : decode cX9_save 49 = .ok (.invokevirtual 114, 3) := by decide +kernel
theorem dX9_save_52 : decode cX9_save 52 = .ok (.return_, 1) := by decide +kernel
theorem dX9_restore_0 : decode cX9_restore 0 = .ok (.iload_n 1, 1) := by decide +kernel
theorem dX9_restore_1 : decode cX9_restore 1 = .ok (.ifCond .lt 8, 3) := by decide +kernel
theorem dX9_restore_4 : decode cX9_restore 4 = .ok (.iload_n 1, 1) := by decide +kernel
theorem dX9_restore_5 : decode cX9_restore 5 = .ok (.iconst 2, 1) := by decide +kernel
theorem dX9_restore_6 : decode cX9_restore 6 = .ok (.if_icmp .lt 11, 3) := by decide +kernel
theorem dX9_restore_9 : decode cX9_restore 9 = .ok (.new 104, 3) := by decide +kernel
theorem dX9_restore_12 : decode cX9_restore 12 = .ok (.dup, 1) := by decide +kernel
theorem dX9_restore_13 : decode cX9_restore 13 = .ok (.invokespecial 106, 3) := by decide +kernel
theorem dX9_restore_16 : decode cX9_restore 16 = .ok (.athrow, 1) := by decide +kernel
theorem dX9_restore_17 : decode cX9_restore 17 = .ok (.aload_n 0, 1) := by decide +kernel
theorem dX9_restore_18 : decode cX9_restore 18 = .ok (.getfield 22, 3) := by decide +kernel
theorem dX9_restore_21 : decode cX9_restore 21 = .ok (.iload_n 1, 1) := by decide +kernel
theorem dX9_restore_22 : decode cX9_restore 22 = .ok (.aaload, 1) := by decide +kernel
theorem dX9_restore_23 : decode cX9_restore 23 = .ok (.ifnonnull 11, 3) := by decide +kernel
theorem dX9_restore_26 : decode cX9_restore 26 = .ok (.new 97, 3) := by decide +kernel
theorem dX9_restore_29 : decode cX9_restore 29 = .ok (.dup, 1) := by decide +kernel
theorem dX9_restore_30 : decode cX9_restore 30 = .ok (.invokespecial 99, 3) := by decide +kernel
theorem dX9_restore_33 : decode cX9_restore 33 = .ok (.athrow, 1) := by decide +kernel
theorem dX9_restore_34 : decode cX9_restore 34 = .ok (.aload_n 0, 1) := by decide +kernel
theorem dX9_restore_35 : decode cX9_restore 35 = .ok (.getfield 12, 3) := by decide +kernel
theorem dX9_restore_38 : decode cX9_restore 38 = .ok (.aload_n 0, 1) := by decide +kernel
theorem dX9_restore_39 : decode cX9_restore 39 = .ok (.getfield 22, 3) := by decide +kernel
theorem dX9_restore_42 : decode cX9_restore 42 = .ok (.iload_n 1, 1) := by decide +kernel
theorem dX9_restore_43 : decode cX9_restore 43 = .ok (.aaload, 1) := by decide +kernel
theorem dX9_restore_44 : decode cX9_restore 44 = .ok (.invokevirtual 114, 3) := by decide +kernel
theorem dX9_restore_47 : decode cX9_restore 47 = .ok (.aload_n 0, 1) := by decide +kernel
theorem dX9_restore_48 : decode cX9_restore 48 = .ok (.getfield 29, 3) := by decide +kernel
theorem dX9_restore_51 : decode cX9_restore 51 = .ok (.iconst 0, 1) := by decide +kernel
theorem dX9_restore_52 : decode cX9_restore 52 = .ok (.putfield 117, 3) := by decide +kernel
theorem dX9_restore_55 : decode cX9_restore 55 = .ok (.aload_n 0, 1) := by decide +kernel
theorem dX9_restore_56 : decode cX9_restore 56 = .ok (.invokevirtual 126, 3) := by decide +kernel
theorem dX9_restore_59 : decode cX9_restore 59 = .ok (.return_, 1) := by decide +kernel
theorem dX9_beginChange_0 : decode cX9_beginChange 0 = .ok (.aload_n 0, 1) := by decide +kernel
theorem dX9_beginChange_1 : decode cX9_beginChange 1 = .ok (.getfield 29, 3) := by decide +kernel
theorem dX9_beginChange_4 : decode cX9_beginChange 4 = .ok (.aload_n 0, 1) := by decide +kernel
theorem dX9_beginChange_5 : decode cX9_beginChange 5 = .ok (.getfield 12, 3) := by decide +kernel
theorem dX9_beginChange_8 : decode cX9_beginChange 8 = .ok (.invokevirtual 309, 3) := by decide +kernel
theorem dX9_beginChange_11 : decode cX9_beginChange 11 = .ok (.aload_n 0, 1) := by decide +kernel
theorem dX9_beginChange_12 : decode cX9_beginChange 12 = .ok (.getfield 33, 3) := by decide +kernel
theorem dX9_beginChange_15 : decode cX9_beginChange 15 = .ok (.iload_n 1, 1) := by decide +kernel
theorem dX9_beginChange_16 : decode cX9_beginChange 16 = .ok (.dup2, 1) := by decide +kernel
theorem dX9_beginChange_17 : decode cX9_beginChange 17 = .ok (.iaload, 1) := by decide +kernel
theorem dX9_beginChange_18 : decode cX9_beginChange 18 = .ok (.iconst 1, 1) := by decide +kernel
theorem dX9_beginChange_19 : decode cX9_beginChange 19 = .ok (.iadd, 1) := by decide +kernel
theorem dX9_beginChange_20 : decode cX9_beginChange 20 = .ok (.iastore, 1) := by decide +kernel
theorem dX9_beginChange_21 : decode cX9_beginChange 21 = .ok (.aload_n 0, 1) := by decide +kernel
theorem dX9_beginChange_22 : decode cX9_beginChange 22 = .ok (.invokevirtual 126, 3) := by decide +kernel
theorem dX9_beginChange_25 : decode cX9_beginChange 25 = .ok (.return_, 1) := by decide +kernel
theorem dX9_forgetDerived_0 : decode cX9_forgetDerived 0 = .ok (.aload_n 0, 1) := by decide +kernel
theorem dX9_forgetDerived_1 : decode cX9_forgetDerived 1 = .ok (.getfield 49, 3) := by decide +kernel
theorem dX9_forgetDerived_4 : decode cX9_forgetDerived 4 = .ok (.iconst 0, 1) := by decide +kernel
theorem dX9_forgetDerived_5 : decode cX9_forgetDerived 5 = .ok (.putfield 312, 3) := by decide +kernel
theorem dX9_forgetDerived_8 : decode cX9_forgetDerived 8 = .ok (.aload_n 0, 1) := by decide +kernel
theorem dX9_forgetDerived_9 : decode cX9_forgetDerived 9 = .ok (.getfield 58, 3) := by decide +kernel
theorem dX9_forgetDerived_12 : decode cX9_forgetDerived 12 = .ok (.invokevirtual 316, 3) := by decide +kernel
theorem dX9_forgetDerived_15 : decode cX9_forgetDerived 15 = .ok (.return_, 1) := by decide +kernel
theorem dX9_isOutside_0 : decode cX9_isOutside 0 = .ok (.iload_n 0, 1) := by decide +kernel
theorem dX9_isOutside_1 : decode cX9_isOutside 1 = .ok (.ifCond .lt 8, 3) := by decide +kernel
theorem dX9_isOutside_4 : decode cX9_isOutside 4 = .ok (.iload_n 0, 1) := by decide +kernel
theorem dX9_isOutside_5 : decode cX9_isOutside 5 = .ok (.iload_n 1, 1) := by decide +kernel
theorem dX9_isOutside_6 : decode cX9_isOutside 6 = .ok (.if_icmp .le 7, 3) := by decide +kernel
theorem dX9_isOutside_9 : decode cX9_isOutside 9 = .ok (.iconst 1, 1) := by decide +kernel
theorem dX9_isOutside_10 : decode cX9_isOutside 10 = .ok (.goto 4, 3) := by decide +kernel
theorem dX9_isOutside_13 : decode cX9_isOutside 13 = .ok (.iconst 0, 1) := by decide +kernel
theorem dX9_isOutside_14 : decode cX9_isOutside 14 = .ok (.ireturn, 1) := by decide +kernel
theorem dX9_residue_0 : decode cX9_residue 0 = .ok (.iload_n 1, 1) := by decide +kernel
theorem dX9_residue_1 : decode cX9_residue 1 = .ok (.ifCond .gt 5, 3) := by decide +kernel
theorem dX9_residue_4 : decode cX9_residue 4 = .ok (.iconst 0, 1) := by decide +kernel
theorem dX9_residue_5 : decode cX9_residue 5 = .ok (.ireturn, 1) := by decide +kernel
theorem dX9_residue_6 : decode cX9_residue 6 = .ok (.iload_n 0, 1) := by decide +kernel
theorem dX9_residue_7 : decode cX9_residue 7 = .ok (.iload_n 1, 1) := by decide +kernel
theorem dX9_residue_8 : decode cX9_residue 8 = .ok (.irem, 1) := by decide +kernel
theorem dX9_residue_9 : decode cX9_residue 9 = .ok (.istore_n 2, 1) := by decide +kernel
theorem dX9_residue_10 : decode cX9_residue 10 = .ok (.iload_n 2, 1) := by decide +kernel
theorem dX9_residue_11 : decode cX9_residue 11 = .ok (.ifCond .ge 9, 3) := by decide +kernel
theorem dX9_residue_14 : decode cX9_residue 14 = .ok (.iload_n 2, 1) := by decide +kernel
theorem dX9_residue_15 : decode cX9_residue 15 = .ok (.iload_n 1, 1) := by decide +kernel
theorem dX9_residue_16 : decode cX9_residue 16 = .ok (.iadd, 1) := by decide +kernel
theorem dX9_residue_17 : decode cX9_residue 17 = .ok (.goto 4, 3) := by decide +kernel
theorem dX9_residue_20 : decode cX9_residue 20 = .ok (.iload_n 2, 1) := by decide +kernel
theorem dX9_residue_21 : decode cX9_residue 21 = .ok (.ireturn, 1) := by decide +kernel
theorem dX9_inverse_0 : decode cX9_inverse 0 = .ok (.iconst 1, 1) := by decide +kernel
theorem dX9_inverse_1 : decode cX9_inverse 1 = .ok (.istore_n 2, 1) := by decide +kernel
theorem dX9_inverse_2 : decode cX9_inverse 2 = .ok (.iload_n 0, 1) := by decide +kernel
theorem dX9_inverse_3 : decode cX9_inverse 3 = .ok (.istore_n 3, 1) := by decide +kernel
theorem dX9_inverse_4 : decode cX9_inverse 4 = .ok (.iload_n 1, 1) := by decide +kernel
theorem dX9_inverse_5 : decode cX9_inverse 5 = .ok (.iconst 2, 1) := by decide +kernel
theorem dX9_inverse_6 : decode cX9_inverse 6 = .ok (.isub, 1) := by decide +kernel
theorem dX9_inverse_7 : decode cX9_inverse 7 = .ok (.istore 4, 2) := by decide +kernel
theorem dX9_inverse_9 : decode cX9_inverse 9 = .ok (.iload 4, 2) := by decide +kernel
theorem dX9_inverse_11 : decode cX9_inverse 11 = .ok (.ifCond .le 36, 3) := by decide +kernel
theorem dX9_inverse_14 : decode cX9_inverse 14 = .ok (.iload 4, 2) := by decide +kernel
theorem dX9_inverse_16 : decode cX9_inverse 16 = .ok (.iconst 1, 1) := by decide +kernel
theorem dX9_inverse_17 : decode cX9_inverse 17 = .ok (.iand, 1) := by decide +kernel
theorem dX9_inverse_18 : decode cX9_inverse 18 = .ok (.iconst 1, 1) := by decide +kernel
theorem dX9_inverse_19 : decode cX9_inverse 19 = .ok (.if_icmp .ne 11, 3) := by decide +kernel
theorem dX9_inverse_22 : decode cX9_inverse 22 = .ok (.iload_n 2, 1) := by decide +kernel
theorem dX9_inverse_23 : decode cX9_inverse 23 = .ok (.iload_n 3, 1) := by decide +kernel
theorem dX9_inverse_24 : decode cX9_inverse 24 = .ok (.imul, 1) := by decide +kernel
theorem dX9_inverse_25 : decode cX9_inverse 25 = .ok (.iload_n 1, 1) := by decide +kernel
theorem dX9_inverse_26 : decode cX9_inverse 26 = .ok (.invokestatic 319, 3) := by decide +kernel
theorem dX9_inverse_29 : decode cX9_inverse 29 = .ok (.istore_n 2, 1) := by decide +kernel
theorem dX9_inverse_30 : decode cX9_inverse 30 = .ok (.iload_n 3, 1) := by decide +kernel
theorem dX9_inverse_31 : decode cX9_inverse 31 = .ok (.iload_n 3, 1) := by decide +kernel
theorem dX9_inverse_32 : decode cX9_inverse 32 = .ok (.imul, 1) := by decide +kernel
theorem dX9_inverse_33 : decode cX9_inverse 33 = .ok (.iload_n 1, 1) := by decide +kernel
theorem dX9_inverse_34 : decode cX9_inverse 34 = .ok (.invokestatic 319, 3) := by decide +kernel
theorem dX9_inverse_37 : decode cX9_inverse 37 = .ok (.istore_n 3, 1) := by decide +kernel
theorem dX9_inverse_38 : decode cX9_inverse 38 = .ok (.iload 4, 2) := by decide +kernel
theorem dX9_inverse_40 : decode cX9_inverse 40 = .ok (.iconst 1, 1) := by decide +kernel
theorem dX9_inverse_41 : decode cX9_inverse 41 = .ok (.ishr, 1) := by decide +kernel
theorem dX9_inverse_42 : decode cX9_inverse 42 = .ok (.istore 4, 2) := by decide +kernel
theorem dX9_inverse_44 : decode cX9_inverse 44 = .ok (.goto (-35), 3) := by decide +kernel
theorem dX9_inverse_47 : decode cX9_inverse 47 = .ok (.iload_n 2, 1) := by decide +kernel
theorem dX9_inverse_48 : decode cX9_inverse 48 = .ok (.ireturn, 1) := by decide +kernel
theorem dX9_isPrimeAllowed_0 : decode cX9_isPrimeAllowed 0 = .ok (.iload_n 0, 1) := by decide +kernel
theorem dX9_isPrimeAllowed_1 : decode cX9_isPrimeAllowed 1 = .ok (.bipush 13, 2) := by decide +kernel
theorem dX9_isPrimeAllowed_3 : decode cX9_isPrimeAllowed 3 = .ok (.if_icmp .lt 9, 3) := by decide +kernel
theorem dX9_isPrimeAllowed_6 : decode cX9_isPrimeAllowed 6 = .ok (.iload_n 0, 1) := by decide +kernel
theorem dX9_isPrimeAllowed_7 : decode cX9_isPrimeAllowed 7 = .ok (.bipush 97, 2) := by decide +kernel
theorem dX9_isPrimeAllowed_9 : decode cX9_isPrimeAllowed 9 = .ok (.if_icmp .le 5, 3) := by decide +kernel
theorem dX9_isPrimeAllowed_12 : decode cX9_isPrimeAllowed 12 = .ok (.iconst 0, 1) := by decide +kernel
theorem dX9_isPrimeAllowed_13 : decode cX9_isPrimeAllowed 13 = .ok (.ireturn, 1) := by decide +kernel
theorem dX9_isPrimeAllowed_14 : decode cX9_isPrimeAllowed 14 = .ok (.iconst 2, 1) := by decide +kernel
theorem dX9_isPrimeAllowed_15 : decode cX9_isPrimeAllowed 15 = .ok (.istore_n 1, 1) := by decide +kernel
theorem dX9_isPrimeAllowed_16 : decode cX9_isPrimeAllowed 16 = .ok (.iload_n 1, 1) := by decide +kernel
theorem dX9_isPrimeAllowed_17 : decode cX9_isPrimeAllowed 17 = .ok (.bipush 13, 2) := by decide +kernel
theorem dX9_isPrimeAllowed_19 : decode cX9_isPrimeAllowed 19 = .ok (.if_icmp .ge 17, 3) := by decide +kernel
theorem dX9_isPrimeAllowed_22 : decode cX9_isPrimeAllowed 22 = .ok (.iload_n 0, 1) := by decide +kernel
theorem dX9_isPrimeAllowed_23 : decode cX9_isPrimeAllowed 23 = .ok (.iload_n 1, 1) := by decide +kernel
theorem dX9_isPrimeAllowed_24 : decode cX9_isPrimeAllowed 24 = .ok (.irem, 1) := by decide +kernel
theorem dX9_isPrimeAllowed_25 : decode cX9_isPrimeAllowed 25 = .ok (.ifCond .ne 5, 3) := by decide +kernel
theorem dX9_isPrimeAllowed_28 : decode cX9_isPrimeAllowed 28 = .ok (.iconst 0, 1) := by decide +kernel
theorem dX9_isPrimeAllowed_29 : decode cX9_isPrimeAllowed 29 = .ok (.ireturn, 1) := by decide +kernel
theorem dX9_isPrimeAllowed_30 : decode cX9_isPrimeAllowed 30 = .ok (.iinc 1 1, 3) := by decide +kernel
theorem dX9_isPrimeAllowed_33 : decode cX9_isPrimeAllowed 33 = .ok (.goto (-17), 3) := by decide +kernel
theorem dX9_isPrimeAllowed_36 : decode cX9_isPrimeAllowed 36 = .ok (.iconst 1, 1) := by decide +kernel
theorem dX9_isPrimeAllowed_37 : decode cX9_isPrimeAllowed 37 = .ok (.ireturn, 1) := by decide +kernel
theorem dX10_init_0 : decode cX10_init 0 = .ok (.aload_n 0, 1) := by decide +kernel
theorem dX10_init_1 : decode cX10_init 1 = .ok (.invokespecial 1, 3) := by decide +kernel
theorem dX10_init_4 : decode cX10_init 4 = .ok (.aload_n 0, 1) := by decide +kernel
theorem dX10_init_5 : decode cX10_init 5 = .ok (.sipush 248, 3) := by decide +kernel
theorem dX10_init_8 : decode cX10_init 8 = .ok (.newarray .int, 2) := by decide +kernel
theorem dX10_init_10 : decode cX10_init 10 = .ok (.putfield 7, 3) := by decide +kernel
theorem dX10_init_13 : decode cX10_init 13 = .ok (.aload_n 0, 1) := by decide +kernel
theorem dX10_init_14 : decode cX10_init 14 = .ok (.sipush 248, 3) := by decide +kernel
theorem dX10_init_17 : decode cX10_init 17 = .ok (.newarray .int, 2) := by decide +kernel
theorem dX10_init_19 : decode cX10_init 19 = .ok (.putfield 13, 3) := by decide +kernel
theorem dX10_init_22 : decode cX10_init 22 = .ok (.aload_n 0, 1) := by decide +kernel
theorem dX10_init_23 : decode cX10_init 23 = .ok (.sipush 248, 3) := by decide +kernel
theorem dX10_init_26 : decode cX10_init 26 = .ok (.newarray .int, 2) := by decide +kernel
theorem dX10_init_28 : decode cX10_init 28 = .ok (.putfield 16, 3) := by decide +kernel
theorem dX10_init_31 : decode cX10_init 31 = .ok (.aload_n 0, 1) := by decide +kernel
theorem dX10_init_32 : decode cX10_init 32 = .ok (.sipush 1984, 3) := by decide +kernel
theorem dX10_init_35 : decode cX10_init 35 = .ok (.newarray .int, 2) := by decide +kernel
theorem dX10_init_37 : decode cX10_init 37 = .ok (.putfield 19, 3) := by decide +kernel
theorem dX10_init_40 : decode cX10_init 40 = .ok (.aload_n 0, 1) := by decide +kernel
theorem dX10_init_41 : decode cX10_init 41 = .ok (.sipush 496, 3) := by decide +kernel
theorem dX10_init_44 : decode cX10_init 44 = .ok (.newarray .int, 2) := by decide +kernel
theorem dX10_init_46 : decode cX10_init 46 = .ok (.putfield 22, 3) := by decide +kernel
theorem dX10_init_49 : decode cX10_init 49 = .ok (.aload_n 0, 1) := by decide +kernel
theorem dX10_init_50 : decode cX10_init 50 = .ok (.iconst 2, 1) := by decide +kernel
theorem dX10_init_51 : decode cX10_init 51 = .ok (.newarray .boolean, 2) := by decide +kernel
theorem dX10_init_53 : decode cX10_init 53 = .ok (.putfield 25, 3) := by decide +kernel
theorem dX10_init_56 : decode cX10_init 56 = .ok (.aload_n 0, 1) := by decide +kernel
theorem dX10_init_57 : decode cX10_init 57 = .ok (.bipush 6, 2) := by decide +kernel
theorem dX10_init_59 : decode cX10_init 59 = .ok (.newarray .int, 2) := by decide +kernel
theorem dX10_init_61 : decode cX10_init 61 = .ok (.putfield 29, 3) := by decide +kernel
theorem dX10_init_64 : decode cX10_init 64 = .ok (.aload_n 0, 1) := by decide +kernel
theorem dX10_init_65 : decode cX10_init 65 = .ok (.sipush 900, 3) := by decide +kernel
theorem dX10_init_68 : decode cX10_init 68 = .ok (.newarray .byte, 2) := by decide +kernel
theorem dX10_init_70 : decode cX10_init 70 = .ok (.putfield 32, 3) := by decide +kernel
theorem dX10_init_73 : decode cX10_init 73 = .ok (.aload_n 0, 1) := by decide +kernel
theorem dX10_init_74 : decode cX10_init 74 = .ok (.iconst (-1), 1) := by decide +kernel
theorem dX10_init_75 : decode cX10_init 75 = .ok (.putfield 36, 3) := by decide +kernel
theorem dX10_init_78 : decode cX10_init 78 = .ok (.aload_n 0, 1) := by decide +kernel
theorem dX10_init_79 : decode cX10_init 79 = .ok (.bipush 25, 2) := by decide +kernel
theorem dX10_init_81 : decode cX10_init 81 = .ok (.newarray .byte, 2) := by decide +kernel
theorem dX10_init_83 : decode cX10_init 83 = .ok (.dup, 1) := by decide +kernel
theorem dX10_init_84 : decode cX10_init 84 = .ok (.iconst 0, 1) := by decide +kernel
theorem dX10_init_85 : decode cX10_init 85 = .ok (.bipush 112, 2) := by decide +kernel
theorem dX10_init_87 : decode cX10_init 87 = .ok (.bastore, 1) := by decide +kernel
theorem dX10_init_88 : decode cX10_init 88 = .ok (.dup, 1) := by decide +kernel
theorem dX10_init_89 : decode cX10_init 89 = .ok (.iconst 1, 1) := by decide +kernel
theorem dX10_init_90 : decode cX10_init 90 = .ok (.bipush 114, 2) := by decide +kernel
theorem dX10_init_92 : decode cX10_init 92 = .ok (.bastore, 1) := by decide +kernel
theorem dX10_init_93 : decode cX10_init 93 = .ok (.dup, 1) := by decide +kernel
theorem dX10_init_94 : decode cX10_init 94 = .ok (.iconst 2, 1) := by decide +kernel
theorem dX10_init_95 : decode cX10_init 95 = .ok (.bipush 105, 2) := by decide +kernel
theorem dX10_init_97 : decode cX10_init 97 = .ok (.bastore, 1) := by decide +kernel
theorem dX10_init_98 : decode cX10_init 98 = .ok (.dup, 1) := by decide +kernel
theorem dX10_init_99 : decode cX10_init 99 = .ok (.iconst 3, 1) := by decide +kernel
theorem dX10_init_100 : decode cX10_init 100 = .ok (.bipush 109, 2) := by decide +kernel
theorem dX10_init_102 : decode cX10_init 102 = .ok (.bastore, 1) := by decide +kernel
theorem dX10_init_103 : decode cX10_init 103 = .ok (.dup, 1) := by decide +kernel
theorem dX10_init_104 : decode cX10_init 104 = .ok (.iconst 4, 1) := by decide +kernel
theorem dX10_init_105 : decode cX10_init 105 = .ok (.bipush 101, 2) := by decide +kernel
theorem dX10_init_107 : decode cX10_init 107 = .ok (.bastore, 1) := by decide +kernel
theorem dX10_init_108 : decode cX10_init 108 = .ok (.dup, 1) := by decide +kernel
theorem dX10_init_109 : decode cX10_init 109 = .ok (.iconst 5, 1) := by decide +kernel
theorem dX10_init_110 : decode cX10_init 110 = .ok (.bipush 32, 2) := by decide +kernel
theorem dX10_init_112 : decode cX10_init 112 = .ok (.bastore, 1) := by decide +kernel
theorem dX10_init_113 : decode cX10_init 113 = .ok (.dup, 1) := by decide +kernel
theorem dX10_init_114 : decode cX10_init 114 = .ok (.bipush 6, 2) := by decide +kernel
theorem dX10_init_116 : decode cX10_init 116 = .ok (.bipush 106, 2) := by decide +kernel
theorem dX10_init_118 : decode cX10_init 118 = .ok (.bastore, 1) := by decide +kernel
theorem dX10_init_119 : decode cX10_init 119 = .ok (.dup, 1) := by decide +kernel
theorem dX10_init_120 : decode cX10_init 120 = .ok (.bipush 7, 2) := by decide +kernel
theorem dX10_init_122 : decode cX10_init 122 = .ok (.bipush 111, 2) := by decide +kernel
theorem dX10_init_124 : decode cX10_init 124 = .ok (.bastore, 1) := by decide +kernel
theorem dX10_init_125 : decode cX10_init 125 = .ok (.dup, 1) := by decide +kernel
theorem dX10_init_126 : decode cX10_init 126 = .ok (.bipush 8, 2) := by decide +kernel
theorem dX10_init_128 : decode cX10_init 128 = .ok (.bipush 105, 2) := by decide +kernel
theorem dX10_init_130 : decode cX10_init 130 = .ok (.bastore, 1) := by decide +kernel
theorem dX10_init_131 : decode cX10_init 131 = .ok (.dup, 1) := by decide +kernel
theorem dX10_init_132 : decode cX10_init 132 = .ok (.bipush 9, 2) := by decide +kernel
theorem dX10_init_134 : decode cX10_init 134 = .ok (.bipush 110, 2) := by decide +kernel
theorem dX10_init_136 : decode cX10_init 136 = .ok (.bastore, 1) := by decide +kernel
theorem dX10_init_137 : decode cX10_init 137 = .ok (.dup, 1) := by decide +kernel
theorem dX10_init_138 : decode cX10_init 138 = .ok (.bipush 10, 2) := by decide +kernel
theorem dX10_init_140 : decode cX10_init 140 = .ok (.bipush 32, 2) := by decide +kernel
theorem dX10_init_142 : decode cX10_init 142 = .ok (.bastore, 1) := by decide +kernel
theorem dX10_init_143 : decode cX10_init 143 = .ok (.dup, 1) := by decide +kernel
theorem dX10_init_144 : decode cX10_init 144 = .ok (.bipush 11, 2) := by decide +kernel
theorem dX10_init_146 : decode cX10_init 146 = .ok (.bipush 114, 2) := by decide +kernel
theorem dX10_init_148 : decode cX10_init 148 = .ok (.bastore, 1) := by decide +kernel
theorem dX10_init_149 : decode cX10_init 149 = .ok (.dup, 1) := by decide +kernel
theorem dX10_init_150 : decode cX10_init 150 = .ok (.bipush 12, 2) := by decide +kernel
theorem dX10_init_152 : decode cX10_init 152 = .ok (.bipush 117, 2) := by decide +kernel
theorem dX10_init_154 : decode cX10_init 154 = .ok (.bastore, 1) := by decide +kernel
theorem dX10_init_155 : decode cX10_init 155 = .ok (.dup, 1) := by decide +kernel
theorem dX10_init_156 : decode cX10_init 156 = .ok (.bipush 13, 2) := by decide +kernel
theorem dX10_init_158 : decode cX10_init 158 = .ok (.bipush 108, 2) := by decide +kernel
theorem dX10_init_160 : decode cX10_init 160 = .ok (.bastore, 1) := by decide +kernel
theorem dX10_init_161 : decode cX10_init 161 = .ok (.dup, 1) := by decide +kernel
theorem dX10_init_162 : decode cX10_init 162 = .ok (.bipush 14, 2) := by decide +kernel
theorem dX10_init_164 : decode cX10_init 164 = .ok (.bipush 101, 2) := by decide +kernel
theorem dX10_init_166 : decode cX10_init 166 = .ok (.bastore, 1) := by decide +kernel
theorem dX10_init_167 : decode cX10_init 167 = .ok (.dup, 1) := by decide +kernel
theorem dX10_init_168 : decode cX10_init 168 = .ok (.bipush 15, 2) := by decide +kernel
theorem dX10_init_170 : decode cX10_init 170 = .ok (.bipush 32, 2) := by decide +kernel
theorem dX10_init_172 : decode cX10_init 172 = .ok (.bastore, 1) := by decide +kernel
theorem dX10_init_173 : decode cX10_init 173 = .ok (.dup, 1) := by decide +kernel
theorem dX10_init_174 : decode cX10_init 174 = .ok (.bipush 16, 2) := by decide +kernel
theorem dX10_init_176 : decode cX10_init 176 = .ok (.bipush 105, 2) := by decide +kernel
theorem dX10_init_178 : decode cX10_init 178 = .ok (.bastore, 1) := by decide +kernel
theorem dX10_init_179 : decode cX10_init 179 = .ok (.dup, 1) := by decide +kernel
theorem dX10_init_180 : decode cX10_init 180 = .ok (.bipush 17, 2) := by decide +kernel
theorem dX10_init_182 : decode cX10_init 182 = .ok (.bipush 115, 2) := by decide +kernel
theorem dX10_init_184 : decode cX10_init 184 = .ok (.bastore, 1) := by decide +kernel
theorem dX10_init_185 : decode cX10_init 185 = .ok (.dup, 1) := by decide +kernel
theorem dX10_init_186 : decode cX10_init 186 = .ok (.bipush 18, 2) := by decide +kernel
theorem dX10_init_188 : decode cX10_init 188 = .ok (.bipush 32, 2) := by decide +kernel
theorem dX10_init_190 : decode cX10_init 190 = .ok (.bastore, 1) := by decide +kernel
theorem dX10_init_191 : decode cX10_init 191 = .ok (.dup, 1) := by decide +kernel
theorem dX10_init_192 : decode cX10_init 192 = .ok (.bipush 19, 2) := by decide +kernel
theorem dX10_init_194 : decode cX10_init 194 = .ok (.bipush 112, 2) := by decide +kernel
theorem dX10_init_196 : decode cX10_init 196 = .ok (.bastore, 1) := by decide +kernel
theorem dX10_init_197 : decode cX10_init 197 = .ok (.dup, 1) := by decide +kernel
theorem dX10_init_198 : decode cX10_init 198 = .ok (.bipush 20, 2) := by decide +kernel
theorem dX10_init_200 : decode cX10_init 200 = .ok (.bipush 111, 2) := by decide +kernel
theorem dX10_init_202 : decode cX10_init 202 = .ok (.bastore, 1) := by decide +kernel
theorem dX10_init_203 : decode cX10_init 203 = .ok (.dup, 1) := by decide +kernel
theorem dX10_init_204 : decode cX10_init 204 = .ok (.bipush 21, 2) := by decide +kernel
theorem dX10_init_206 : decode cX10_init 206 = .ok (.bipush 105, 2) := by decide +kernel
theorem dX10_init_208 : decode cX10_init 208 = .ok (.bastore, 1) := by decide +kernel
theorem dX10_init_209 : decode cX10_init 209 = .ok (.dup, 1) := by decide +kernel
theorem dX10_init_210 : decode cX10_init 210 = .ok (.bipush 22, 2) := by decide +kernel
theorem dX10_init_212 : decode cX10_init 212 = .ok (.bipush 110, 2) := by decide +kernel
theorem dX10_init_214 : decode cX10_init 214 = .ok (.bastore, 1) := by decide +kernel
theorem dX10_init_215 : decode cX10_init 215 = .ok (.dup, 1) := by decide +kernel
theorem dX10_init_216 : decode cX10_init 216 = .ok (.bipush 23, 2) := by decide +kernel
theorem dX10_init_218 : decode cX10_init 218 = .ok (.bipush 116, 2) := by decide +kernel
theorem dX10_init_220 : decode cX10_init 220 = .ok (.bastore, 1) := by decide +kernel
theorem dX10_init_221 : decode cX10_init 221 = .ok (.dup, 1) := by decide +kernel
theorem dX10_init_222 : decode cX10_init 222 = .ok (.bipush 24, 2) := by decide +kernel
theorem dX10_init_224 : decode cX10_init 224 = .ok (.bipush 32, 2) := by decide +kernel
theorem dX10_init_226 : decode cX10_init 226 = .ok (.bastore, 1) := by decide +kernel
theorem dX10_init_227 : decode cX10_init 227 = .ok (.putfield 40, 3) := by decide +kernel
theorem dX10_init_230 : decode cX10_init 230 = .ok (.aload_n 0, 1) := by decide +kernel
theorem dX10_init_231 : decode cX10_init 231 = .ok (.sipush 144, 3) := by decide +kernel
theorem dX10_init_234 : decode cX10_init 234 = .ok (.newarray .int, 2) := by decide +kernel
theorem dX10_init_236 : decode cX10_init 236 = .ok (.putfield 43, 3) := by decide +kernel
theorem dX10_init_239 : decode cX10_init 239 = .ok (.aload_n 0, 1) := by decide +kernel
theorem dX10_init_240 : decode cX10_init 240 = .ok (.sipush 144, 3) := by decide +kernel
theorem dX10_init_243 : decode cX10_init 243 = .ok (.newarray .int, 2) := by decide +kernel
theorem dX10_init_245 : decode cX10_init 245 = .ok (.putfield 46, 3) := by decide +kernel
theorem dX10_init_248 : decode cX10_init 248 = .ok (.aload_n 0, 1) := by decide +kernel
theorem dX10_init_249 : decode cX10_init 249 = .ok (.sipush 144, 3) := by decide +kernel
theorem dX10_init_252 : decode cX10_init 252 = .ok (.newarray .int, 2) := by decide +kernel
theorem dX10_init_254 : decode cX10_init 254 = .ok (.putfield 49, 3) := by decide +kernel
theorem dX10_init_257 : decode cX10_init 257 = .ok (.aload_n 0, 1) := by decide +kernel
theorem dX10_init_258 : decode cX10_init 258 = .ok (.sipush 144, 3) := by decide +kernel
