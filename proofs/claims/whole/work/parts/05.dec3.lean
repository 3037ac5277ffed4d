theorem dX10_laysPowers_8 : decode cX10_laysPowers 8 = .ok (.getfield 76, 3) := by decide +kernel
theorem dX10_laysPowers_11 : decode cX10_laysPowers 11 = .ok (.iconst 0, 1) := by decide +kernel
theorem dX10_laysPowers_12 : decode cX10_laysPowers 12 = .ok (.iconst 1, 1) := by decide +kernel
theorem dX10_laysPowers_13 : decode cX10_laysPowers 13 = .ok (.iastore, 1) := by decide +kernel
theorem dX10_laysPowers_14 : decode cX10_laysPowers 14 = .ok (.iconst 1, 1) := by decide +kernel
theorem dX10_laysPowers_15 : decode cX10_laysPowers 15 = .ok (.istore_n 3, 1) := by decide +kernel
theorem dX10_laysPowers_16 : decode cX10_laysPowers 16 = .ok (.iload_n 3, 1) := by decide +kernel
theorem dX10_laysPowers_17 : decode cX10_laysPowers 17 = .ok (.bipush 13, 2) := by decide +kernel
theorem dX10_laysPowers_19 : decode cX10_laysPowers 19 = .ok (.if_icmp .ge 51, 3) := by decide +kernel
theorem dX10_laysPowers_22 : decode cX10_laysPowers 22 = .ok (.aload_n 0, 1) := by decide +kernel
theorem dX10_laysPowers_23 : decode cX10_laysPowers 23 = .ok (.getfield 73, 3) := by decide +kernel
theorem dX10_laysPowers_26 : decode cX10_laysPowers 26 = .ok (.iload_n 3, 1) := by decide +kernel
theorem dX10_laysPowers_27 : decode cX10_laysPowers 27 = .ok (.aload_n 0, 1) := by decide +kernel
theorem dX10_laysPowers_28 : decode cX10_laysPowers 28 = .ok (.getfield 73, 3) := by decide +kernel
theorem dX10_laysPowers_31 : decode cX10_laysPowers 31 = .ok (.iload_n 3, 1) := by decide +kernel
theorem dX10_laysPowers_32 : decode cX10_laysPowers 32 = .ok (.iconst 1, 1) := by decide +kernel
theorem dX10_laysPowers_33 : decode cX10_laysPowers 33 = .ok (.isub, 1) := by decide +kernel
theorem dX10_laysPowers_34 : decode cX10_laysPowers 34 = .ok (.iaload, 1) := by decide +kernel
theorem dX10_laysPowers_35 : decode cX10_laysPowers 35 = .ok (.iload_n 1, 1) := by decide +kernel
theorem dX10_laysPowers_36 : decode cX10_laysPowers 36 = .ok (.imul, 1) := by decide +kernel
theorem dX10_laysPowers_37 : decode cX10_laysPowers 37 = .ok (.aload_n 0, 1) := by decide +kernel
theorem dX10_laysPowers_38 : decode cX10_laysPowers 38 = .ok (.invokevirtual 97, 3) := by decide +kernel
theorem dX10_laysPowers_41 : decode cX10_laysPowers 41 = .ok (.irem, 1) := by decide +kernel
theorem dX10_laysPowers_42 : decode cX10_laysPowers 42 = .ok (.iastore, 1) := by decide +kernel
theorem dX10_laysPowers_43 : decode cX10_laysPowers 43 = .ok (.aload_n 0, 1) := by decide +kernel
theorem dX10_laysPowers_44 : decode cX10_laysPowers 44 = .ok (.getfield 76, 3) := by decide +kernel
theorem dX10_laysPowers_47 : decode cX10_laysPowers 47 = .ok (.iload_n 3, 1) := by decide +kernel
theorem dX10_laysPowers_48 : decode cX10_laysPowers 48 = .ok (.aload_n 0, 1) := by decide +kernel
theorem dX10_laysPowers_49 : decode cX10_laysPowers 49 = .ok (.getfield 76, 3) := by decide +kernel
theorem dX10_laysPowers_52 : decode cX10_laysPowers 52 = .ok (.iload_n 3, 1) := by decide +kernel
theorem dX10_laysPowers_53 : decode cX10_laysPowers 53 = .ok (.iconst 1, 1) := by decide +kernel
theorem dX10_laysPowers_54 : decode cX10_laysPowers 54 = .ok (.isub, 1) := by decide +kernel
theorem dX10_laysPowers_55 : decode cX10_laysPowers 55 = .ok (.iaload, 1) := by decide +kernel
theorem dX10_laysPowers_56 : decode cX10_laysPowers 56 = .ok (.iload_n 2, 1) := by decide +kernel
theorem dX10_laysPowers_57 : decode cX10_laysPowers 57 = .ok (.imul, 1) := by decide +kernel
theorem dX10_laysPowers_58 : decode cX10_laysPowers 58 = .ok (.aload_n 0, 1) := by decide +kernel
theorem dX10_laysPowers_59 : decode cX10_laysPowers 59 = .ok (.invokevirtual 97, 3) := by decide +kernel
theorem dX10_laysPowers_62 : decode cX10_laysPowers 62 = .ok (.irem, 1) := by decide +kernel
theorem dX10_laysPowers_63 : decode cX10_laysPowers 63 = .ok (.iastore, 1) := by decide +kernel
theorem dX10_laysPowers_64 : decode cX10_laysPowers 64 = .ok (.iinc 3 1, 3) := by decide +kernel
theorem dX10_laysPowers_67 : decode cX10_laysPowers 67 = .ok (.goto (-51), 3) := by decide +kernel
theorem dX10_laysPowers_70 : decode cX10_laysPowers 70 = .ok (.return_, 1) := by decide +kernel
theorem dX10_valueOf_0 : decode cX10_valueOf 0 = .ok (.aload_n 0, 1) := by decide +kernel
theorem dX10_valueOf_1 : decode cX10_valueOf 1 = .ok (.getfield 73, 3) := by decide +kernel
theorem dX10_valueOf_4 : decode cX10_valueOf 4 = .ok (.aload_n 0, 1) := by decide +kernel
theorem dX10_valueOf_5 : decode cX10_valueOf 5 = .ok (.getfield 7, 3) := by decide +kernel
theorem dX10_valueOf_8 : decode cX10_valueOf 8 = .ok (.bipush 28, 2) := by decide +kernel
theorem dX10_valueOf_10 : decode cX10_valueOf 10 = .ok (.iload_n 1, 1) := by decide +kernel
theorem dX10_valueOf_11 : decode cX10_valueOf 11 = .ok (.iadd, 1) := by decide +kernel
theorem dX10_valueOf_12 : decode cX10_valueOf 12 = .ok (.iaload, 1) := by decide +kernel
theorem dX10_valueOf_13 : decode cX10_valueOf 13 = .ok (.iaload, 1) := by decide +kernel
theorem dX10_valueOf_14 : decode cX10_valueOf 14 = .ok (.aload_n 0, 1) := by decide +kernel
theorem dX10_valueOf_15 : decode cX10_valueOf 15 = .ok (.getfield 76, 3) := by decide +kernel
theorem dX10_valueOf_18 : decode cX10_valueOf 18 = .ok (.aload_n 0, 1) := by decide +kernel
theorem dX10_valueOf_19 : decode cX10_valueOf 19 = .ok (.getfield 7, 3) := by decide +kernel
theorem dX10_valueOf_22 : decode cX10_valueOf 22 = .ok (.bipush 42, 2) := by decide +kernel
theorem dX10_valueOf_24 : decode cX10_valueOf 24 = .ok (.iload_n 1, 1) := by decide +kernel
theorem dX10_valueOf_25 : decode cX10_valueOf 25 = .ok (.iadd, 1) := by decide +kernel
theorem dX10_valueOf_26 : decode cX10_valueOf 26 = .ok (.iaload, 1) := by decide +kernel
theorem dX10_valueOf_27 : decode cX10_valueOf 27 = .ok (.iaload, 1) := by decide +kernel
theorem dX10_valueOf_28 : decode cX10_valueOf 28 = .ok (.imul, 1) := by decide +kernel
theorem dX10_valueOf_29 : decode cX10_valueOf 29 = .ok (.istore_n 2, 1) := by decide +kernel
theorem dX10_valueOf_30 : decode cX10_valueOf 30 = .ok (.iconst 0, 1) := by decide +kernel
theorem dX10_valueOf_31 : decode cX10_valueOf 31 = .ok (.istore_n 3, 1) := by decide +kernel
theorem dX10_valueOf_32 : decode cX10_valueOf 32 = .ok (.iload_n 3, 1) := by decide +kernel
theorem dX10_valueOf_33 : decode cX10_valueOf 33 = .ok (.aload_n 0, 1) := by decide +kernel
theorem dX10_valueOf_34 : decode cX10_valueOf 34 = .ok (.invokevirtual 105, 3) := by decide +kernel
theorem dX10_valueOf_37 : decode cX10_valueOf 37 = .ok (.if_icmp .ge 69, 3) := by decide +kernel
theorem dX10_valueOf_40 : decode cX10_valueOf 40 = .ok (.aload_n 0, 1) := by decide +kernel
theorem dX10_valueOf_41 : decode cX10_valueOf 41 = .ok (.getfield 7, 3) := by decide +kernel
theorem dX10_valueOf_44 : decode cX10_valueOf 44 = .ok (.iload_n 1, 1) := by decide +kernel
theorem dX10_valueOf_45 : decode cX10_valueOf 45 = .ok (.iload_n 3, 1) := by decide +kernel
theorem dX10_valueOf_46 : decode cX10_valueOf 46 = .ok (.invokestatic 130, 3) := by decide +kernel
theorem dX10_valueOf_49 : decode cX10_valueOf 49 = .ok (.iaload, 1) := by decide +kernel
theorem dX10_valueOf_50 : decode cX10_valueOf 50 = .ok (.istore 4, 2) := by decide +kernel
theorem dX10_valueOf_52 : decode cX10_valueOf 52 = .ok (.iload_n 2, 1) := by decide +kernel
theorem dX10_valueOf_53 : decode cX10_valueOf 53 = .ok (.iload 4, 2) := by decide +kernel
theorem dX10_valueOf_55 : decode cX10_valueOf 55 = .ok (.ifCond .ne 7, 3) := by decide +kernel
theorem dX10_valueOf_58 : decode cX10_valueOf 58 = .ok (.iconst 0, 1) := by decide +kernel
theorem dX10_valueOf_59 : decode cX10_valueOf 59 = .ok (.goto 39, 3) := by decide +kernel
theorem dX10_valueOf_62 : decode cX10_valueOf 62 = .ok (.iload 4, 2) := by decide +kernel
theorem dX10_valueOf_64 : decode cX10_valueOf 64 = .ok (.aload_n 0, 1) := by decide +kernel
theorem dX10_valueOf_65 : decode cX10_valueOf 65 = .ok (.getfield 73, 3) := by decide +kernel
theorem dX10_valueOf_68 : decode cX10_valueOf 68 = .ok (.aload_n 0, 1) := by decide +kernel
theorem dX10_valueOf_69 : decode cX10_valueOf 69 = .ok (.getfield 7, 3) := by decide +kernel
theorem dX10_valueOf_72 : decode cX10_valueOf 72 = .ok (.iconst 4, 1) := by decide +kernel
theorem dX10_valueOf_73 : decode cX10_valueOf 73 = .ok (.iload_n 3, 1) := by decide +kernel
theorem dX10_valueOf_74 : decode cX10_valueOf 74 = .ok (.iadd, 1) := by decide +kernel
theorem dX10_valueOf_75 : decode cX10_valueOf 75 = .ok (.iaload, 1) := by decide +kernel
theorem dX10_valueOf_76 : decode cX10_valueOf 76 = .ok (.iaload, 1) := by decide +kernel
theorem dX10_valueOf_77 : decode cX10_valueOf 77 = .ok (.aload_n 0, 1) := by decide +kernel
theorem dX10_valueOf_78 : decode cX10_valueOf 78 = .ok (.getfield 76, 3) := by decide +kernel
theorem dX10_valueOf_81 : decode cX10_valueOf 81 = .ok (.aload_n 0, 1) := by decide +kernel
theorem dX10_valueOf_82 : decode cX10_valueOf 82 = .ok (.getfield 7, 3) := by decide +kernel
theorem dX10_valueOf_85 : decode cX10_valueOf 85 = .ok (.bipush 16, 2) := by decide +kernel
theorem dX10_valueOf_87 : decode cX10_valueOf 87 = .ok (.iload_n 3, 1) := by decide +kernel
theorem dX10_valueOf_88 : decode cX10_valueOf 88 = .ok (.iadd, 1) := by decide +kernel
theorem dX10_valueOf_89 : decode cX10_valueOf 89 = .ok (.iaload, 1) := by decide +kernel
theorem dX10_valueOf_90 : decode cX10_valueOf 90 = .ok (.iaload, 1) := by decide +kernel
theorem dX10_valueOf_91 : decode cX10_valueOf 91 = .ok (.imul, 1) := by decide +kernel
theorem dX10_valueOf_92 : decode cX10_valueOf 92 = .ok (.aload_n 0, 1) := by decide +kernel
theorem dX10_valueOf_93 : decode cX10_valueOf 93 = .ok (.invokevirtual 97, 3) := by decide +kernel
theorem dX10_valueOf_96 : decode cX10_valueOf 96 = .ok (.irem, 1) := by decide +kernel
theorem dX10_valueOf_97 : decode cX10_valueOf 97 = .ok (.imul, 1) := by decide +kernel
theorem dX10_valueOf_98 : decode cX10_valueOf 98 = .ok (.isub, 1) := by decide +kernel
theorem dX10_valueOf_99 : decode cX10_valueOf 99 = .ok (.istore_n 2, 1) := by decide +kernel
theorem dX10_valueOf_100 : decode cX10_valueOf 100 = .ok (.iinc 3 1, 3) := by decide +kernel
theorem dX10_valueOf_103 : decode cX10_valueOf 103 = .ok (.goto (-71), 3) := by decide +kernel
theorem dX10_valueOf_106 : decode cX10_valueOf 106 = .ok (.aload_n 0, 1) := by decide +kernel
theorem dX10_valueOf_107 : decode cX10_valueOf 107 = .ok (.iload_n 2, 1) := by decide +kernel
theorem dX10_valueOf_108 : decode cX10_valueOf 108 = .ok (.invokevirtual 205, 3) := by decide +kernel
theorem dX10_valueOf_111 : decode cX10_valueOf 111 = .ok (.ireturn, 1) := by decide +kernel
theorem dX10_isZero_0 : decode cX10_isZero 0 = .ok (.aload_n 0, 1) := by decide +kernel
theorem dX10_isZero_1 : decode cX10_isZero 1 = .ok (.iload_n 1, 1) := by decide +kernel
theorem dX10_isZero_2 : decode cX10_isZero 2 = .ok (.iload_n 2, 1) := by decide +kernel
theorem dX10_isZero_3 : decode cX10_isZero 3 = .ok (.invokevirtual 316, 3) := by decide +kernel
theorem dX10_isZero_6 : decode cX10_isZero 6 = .ok (.iconst 1, 1) := by decide +kernel
theorem dX10_isZero_7 : decode cX10_isZero 7 = .ok (.istore_n 3, 1) := by decide +kernel
theorem dX10_isZero_8 : decode cX10_isZero 8 = .ok (.iconst 0, 1) := by decide +kernel
theorem dX10_isZero_9 : decode cX10_isZero 9 = .ok (.istore 4, 2) := by decide +kernel
theorem dX10_isZero_11 : decode cX10_isZero 11 = .ok (.iload 4, 2) := by decide +kernel
theorem dX10_isZero_13 : decode cX10_isZero 13 = .ok (.aload_n 0, 1) := by decide +kernel
theorem dX10_isZero_14 : decode cX10_isZero 14 = .ok (.getfield 7, 3) := by decide +kernel
theorem dX10_isZero_17 : decode cX10_isZero 17 = .ok (.iconst 2, 1) := by decide +kernel
theorem dX10_isZero_18 : decode cX10_isZero 18 = .ok (.iaload, 1) := by decide +kernel
theorem dX10_isZero_19 : decode cX10_isZero 19 = .ok (.if_icmp .ge 28, 3) := by decide +kernel
theorem dX10_isZero_22 : decode cX10_isZero 22 = .ok (.iload_n 3, 1) := by decide +kernel
theorem dX10_isZero_23 : decode cX10_isZero 23 = .ok (.ifCond .eq 24, 3) := by decide +kernel
theorem dX10_isZero_26 : decode cX10_isZero 26 = .ok (.aload_n 0, 1) := by decide +kernel
theorem dX10_isZero_27 : decode cX10_isZero 27 = .ok (.iload 4, 2) := by decide +kernel
theorem dX10_isZero_29 : decode cX10_isZero 29 = .ok (.invokevirtual 319, 3) := by decide +kernel
theorem dX10_isZero_32 : decode cX10_isZero 32 = .ok (.ifCond .ne 7, 3) := by decide +kernel
theorem dX10_isZero_35 : decode cX10_isZero 35 = .ok (.iconst 1, 1) := by decide +kernel
theorem dX10_isZero_36 : decode cX10_isZero 36 = .ok (.goto 4, 3) := by decide +kernel
theorem dX10_isZero_39 : decode cX10_isZero 39 = .ok (.iconst 0, 1) := by decide +kernel
theorem dX10_isZero_40 : decode cX10_isZero 40 = .ok (.istore_n 3, 1) := by decide +kernel
theorem dX10_isZero_41 : decode cX10_isZero 41 = .ok (.iinc 4 1, 3) := by decide +kernel
theorem dX10_isZero_44 : decode cX10_isZero 44 = .ok (.goto (-33), 3) := by decide +kernel
theorem dX10_isZero_47 : decode cX10_isZero 47 = .ok (.iload_n 3, 1) := by decide +kernel
theorem dX10_isZero_48 : decode cX10_isZero 48 = .ok (.ireturn, 1) := by decide +kernel
theorem dX10_laysZeros_0 : decode cX10_laysZeros 0 = .ok (.aload_n 0, 1) := by decide +kernel
theorem dX10_laysZeros_1 : decode cX10_laysZeros 1 = .ok (.iconst 0, 1) := by decide +kernel
theorem dX10_laysZeros_2 : decode cX10_laysZeros 2 = .ok (.putfield 322, 3) := by decide +kernel
theorem dX10_laysZeros_5 : decode cX10_laysZeros 5 = .ok (.iconst 0, 1) := by decide +kernel
theorem dX10_laysZeros_6 : decode cX10_laysZeros 6 = .ok (.istore_n 1, 1) := by decide +kernel
theorem dX10_laysZeros_7 : decode cX10_laysZeros 7 = .ok (.iload_n 1, 1) := by decide +kernel
theorem dX10_laysZeros_8 : decode cX10_laysZeros 8 = .ok (.aload_n 0, 1) := by decide +kernel
theorem dX10_laysZeros_9 : decode cX10_laysZeros 9 = .ok (.invokevirtual 97, 3) := by decide +kernel
theorem dX10_laysZeros_12 : decode cX10_laysZeros 12 = .ok (.if_icmp .ge 64, 3) := by decide +kernel
theorem dX10_laysZeros_15 : decode cX10_laysZeros 15 = .ok (.iconst 0, 1) := by decide +kernel
theorem dX10_laysZeros_16 : decode cX10_laysZeros 16 = .ok (.istore_n 2, 1) := by decide +kernel
theorem dX10_laysZeros_17 : decode cX10_laysZeros 17 = .ok (.iload_n 2, 1) := by decide +kernel
theorem dX10_laysZeros_18 : decode cX10_laysZeros 18 = .ok (.aload_n 0, 1) := by decide +kernel
theorem dX10_laysZeros_19 : decode cX10_laysZeros 19 = .ok (.invokevirtual 97, 3) := by decide +kernel
theorem dX10_laysZeros_22 : decode cX10_laysZeros 22 = .ok (.if_icmp .ge 48, 3) := by decide +kernel
theorem dX10_laysZeros_25 : decode cX10_laysZeros 25 = .ok (.aload_n 0, 1) := by decide +kernel
theorem dX10_laysZeros_26 : decode cX10_laysZeros 26 = .ok (.iload_n 1, 1) := by decide +kernel
theorem dX10_laysZeros_27 : decode cX10_laysZeros 27 = .ok (.iload_n 2, 1) := by decide +kernel
theorem dX10_laysZeros_28 : decode cX10_laysZeros 28 = .ok (.invokevirtual 325, 3) := by decide +kernel
theorem dX10_laysZeros_31 : decode cX10_laysZeros 31 = .ok (.ifCond .eq 33, 3) := by decide +kernel
theorem dX10_laysZeros_34 : decode cX10_laysZeros 34 = .ok (.aload_n 0, 1) := by decide +kernel
theorem dX10_laysZeros_35 : decode cX10_laysZeros 35 = .ok (.getfield 79, 3) := by decide +kernel
theorem dX10_laysZeros_38 : decode cX10_laysZeros 38 = .ok (.aload_n 0, 1) := by decide +kernel
theorem dX10_laysZeros_39 : decode cX10_laysZeros 39 = .ok (.getfield 322, 3) := by decide +kernel
theorem dX10_laysZeros_42 : decode cX10_laysZeros 42 = .ok (.iload_n 1, 1) := by decide +kernel
theorem dX10_laysZeros_43 : decode cX10_laysZeros 43 = .ok (.iastore, 1) := by decide +kernel
theorem dX10_laysZeros_44 : decode cX10_laysZeros 44 = .ok (.aload_n 0, 1) := by decide +kernel
theorem dX10_laysZeros_45 : decode cX10_laysZeros 45 = .ok (.getfield 82, 3) := by decide +kernel
theorem dX10_laysZeros_48 : decode cX10_laysZeros 48 = .ok (.aload_n 0, 1) := by decide +kernel
theorem dX10_laysZeros_49 : decode cX10_laysZeros 49 = .ok (.getfield 322, 3) := by decide +kernel
theorem dX10_laysZeros_52 : decode cX10_laysZeros 52 = .ok (.iload_n 2, 1) := by decide +kernel
theorem dX10_laysZeros_53 : decode cX10_laysZeros 53 = .ok (.iastore, 1) := by decide +kernel
theorem dX10_laysZeros_54 : decode cX10_laysZeros 54 = .ok (.aload_n 0, 1) := by decide +kernel
theorem dX10_laysZeros_55 : decode cX10_laysZeros 55 = .ok (.dup, 1) := by decide +kernel
theorem dX10_laysZeros_56 : decode cX10_laysZeros 56 = .ok (.getfield 322, 3) := by decide +kernel
theorem dX10_laysZeros_59 : decode cX10_laysZeros 59 = .ok (.iconst 1, 1) := by decide +kernel
theorem dX10_laysZeros_60 : decode cX10_laysZeros 60 = .ok (.iadd, 1) := by decide +kernel
theorem dX10_laysZeros_61 : decode cX10_laysZeros 61 = .ok (.putfield 322, 3) := by decide +kernel
theorem dX10_laysZeros_64 : decode cX10_laysZeros 64 = .ok (.iinc 2 1, 3) := by decide +kernel
theorem dX10_laysZeros_67 : decode cX10_laysZeros 67 = .ok (.goto (-50), 3) := by decide +kernel
theorem dX10_laysZeros_70 : decode cX10_laysZeros 70 = .ok (.iinc 1 1, 3) := by decide +kernel
theorem dX10_laysZeros_73 : decode cX10_laysZeros 73 = .ok (.goto (-66), 3) := by decide +kernel
theorem dX10_laysZeros_76 : decode cX10_laysZeros 76 = .ok (.return_, 1) := by decide +kernel
theorem dX10_allTimes_0 : decode cX10_allTimes 0 = .ok (.aload_n 0, 1) := by decide +kernel
theorem dX10_allTimes_1 : decode cX10_allTimes 1 = .ok (.invokevirtual 328, 3) := by decide +kernel
theorem dX10_allTimes_4 : decode cX10_allTimes 4 = .ok (.iconst 0, 1) := by decide +kernel
theorem dX10_allTimes_5 : decode cX10_allTimes 5 = .ok (.istore_n 1, 1) := by decide +kernel
theorem dX10_allTimes_6 : decode cX10_allTimes 6 = .ok (.iconst 0, 1) := by decide +kernel
theorem dX10_allTimes_7 : decode cX10_allTimes 7 = .ok (.istore_n 2, 1) := by decide +kernel
theorem dX10_allTimes_8 : decode cX10_allTimes 8 = .ok (.iload_n 2, 1) := by decide +kernel
theorem dX10_allTimes_9 : decode cX10_allTimes 9 = .ok (.aload_n 0, 1) := by decide +kernel
theorem dX10_allTimes_10 : decode cX10_allTimes 10 = .ok (.getfield 322, 3) := by decide +kernel
theorem dX10_allTimes_13 : decode cX10_allTimes 13 = .ok (.if_icmp .ge 28, 3) := by decide +kernel
theorem dX10_allTimes_16 : decode cX10_allTimes 16 = .ok (.iload_n 1, 1) := by decide +kernel
theorem dX10_allTimes_17 : decode cX10_allTimes 17 = .ok (.aload_n 0, 1) := by decide +kernel
theorem dX10_allTimes_18 : decode cX10_allTimes 18 = .ok (.aload_n 0, 1) := by decide +kernel
theorem dX10_allTimes_19 : decode cX10_allTimes 19 = .ok (.getfield 79, 3) := by decide +kernel
theorem dX10_allTimes_22 : decode cX10_allTimes 22 = .ok (.iload_n 2, 1) := by decide +kernel
theorem dX10_allTimes_23 : decode cX10_allTimes 23 = .ok (.iaload, 1) := by decide +kernel
theorem dX10_allTimes_24 : decode cX10_allTimes 24 = .ok (.aload_n 0, 1) := by decide +kernel
theorem dX10_allTimes_25 : decode cX10_allTimes 25 = .ok (.getfield 82, 3) := by decide +kernel
theorem dX10_allTimes_28 : decode cX10_allTimes 28 = .ok (.iload_n 2, 1) := by decide +kernel
theorem dX10_allTimes_29 : decode cX10_allTimes 29 = .ok (.iaload, 1) := by decide +kernel
theorem dX10_allTimes_30 : decode cX10_allTimes 30 = .ok (.invokevirtual 331, 3) := by decide +kernel
theorem dX10_allTimes_33 : decode cX10_allTimes 33 = .ok (.iadd, 1) := by decide +kernel
theorem dX10_allTimes_34 : decode cX10_allTimes 34 = .ok (.istore_n 1, 1) := by decide +kernel
theorem dX10_allTimes_35 : decode cX10_allTimes 35 = .ok (.iinc 2 1, 3) := by decide +kernel
theorem dX10_allTimes_38 : decode cX10_allTimes 38 = .ok (.goto (-30), 3) := by decide +kernel
theorem dX10_allTimes_41 : decode cX10_allTimes 41 = .ok (.iload_n 1, 1) := by decide +kernel
theorem dX10_allTimes_42 : decode cX10_allTimes 42 = .ok (.ireturn, 1) := by decide +kernel
theorem dX10_filled_0 : decode cX10_filled 0 = .ok (.iconst 0, 1) := by decide +kernel
theorem dX10_filled_1 : decode cX10_filled 1 = .ok (.istore_n 1, 1) := by decide +kernel
theorem dX10_filled_2 : decode cX10_filled 2 = .ok (.iconst 0, 1) := by decide +kernel
theorem dX10_filled_3 : decode cX10_filled 3 = .ok (.istore_n 2, 1) := by decide +kernel
theorem dX10_filled_4 : decode cX10_filled 4 = .ok (.iload_n 2, 1) := by decide +kernel
theorem dX10_filled_5 : decode cX10_filled 5 = .ok (.aload_n 0, 1) := by decide +kernel
theorem dX10_filled_6 : decode cX10_filled 6 = .ok (.getfield 7, 3) := by decide +kernel
theorem dX10_filled_9 : decode cX10_filled 9 = .ok (.iconst 2, 1) := by decide +kernel
theorem dX10_filled_10 : decode cX10_filled 10 = .ok (.iaload, 1) := by decide +kernel
theorem dX10_filled_11 : decode cX10_filled 11 = .ok (.if_icmp .ge 46, 3) := by decide +kernel
theorem dX10_filled_14 : decode cX10_filled 14 = .ok (.iconst 0, 1) := by decide +kernel
theorem dX10_filled_15 : decode cX10_filled 15 = .ok (.istore_n 3, 1) := by decide +kernel
theorem dX10_filled_16 : decode cX10_filled 16 = .ok (.iload_n 3, 1) := by decide +kernel
theorem dX10_filled_17 : decode cX10_filled 17 = .ok (.aload_n 0, 1) := by decide +kernel
theorem dX10_filled_18 : decode cX10_filled 18 = .ok (.invokevirtual 105, 3) := by decide +kernel
theorem dX10_filled_21 : decode cX10_filled 21 = .ok (.if_icmp .ge 30, 3) := by decide +kernel
theorem dX10_filled_24 : decode cX10_filled 24 = .ok (.iload_n 1, 1) := by decide +kernel
theorem dX10_filled_25 : decode cX10_filled 25 = .ok (.aload_n 0, 1) := by decide +kernel
theorem dX10_filled_26 : decode cX10_filled 26 = .ok (.getfield 7, 3) := by decide +kernel
theorem dX10_filled_29 : decode cX10_filled 29 = .ok (.iload_n 2, 1) := by decide +kernel
theorem dX10_filled_30 : decode cX10_filled 30 = .ok (.iload_n 3, 1) := by decide +kernel
theorem dX10_filled_31 : decode cX10_filled 31 = .ok (.invokestatic 130, 3) := by decide +kernel
theorem dX10_filled_34 : decode cX10_filled 34 = .ok (.iaload, 1) := by decide +kernel
theorem dX10_filled_35 : decode cX10_filled 35 = .ok (.ifCond .le 7, 3) := by decide +kernel
theorem dX10_filled_38 : decode cX10_filled 38 = .ok (.iconst 1, 1) := by decide +kernel
theorem dX10_filled_39 : decode cX10_filled 39 = .ok (.goto 4, 3) := by decide +kernel
theorem dX10_filled_42 : decode cX10_filled 42 = .ok (.iconst 0, 1) := by decide +kernel
theorem dX10_filled_43 : decode cX10_filled 43 = .ok (.iadd, 1) := by decide +kernel
theorem dX10_filled_44 : decode cX10_filled 44 = .ok (.istore_n 1, 1) := by decide +kernel
theorem dX10_filled_45 : decode cX10_filled 45 = .ok (.iinc 3 1, 3) := by decide +kernel
theorem dX10_filled_48 : decode cX10_filled 48 = .ok (.goto (-32), 3) := by decide +kernel
theorem dX10_filled_51 : decode cX10_filled 51 = .ok (.iinc 2 1, 3) := by decide +kernel
theorem dX10_filled_54 : decode cX10_filled 54 = .ok (.goto (-50), 3) := by decide +kernel
theorem dX10_filled_57 : decode cX10_filled 57 = .ok (.iload_n 1, 1) := by decide +kernel
theorem dX10_filled_58 : decode cX10_filled 58 = .ok (.ireturn, 1) := by decide +kernel
theorem dX10_movable_0 : decode cX10_movable 0 = .ok (.iconst 0, 1) := by decide +kernel
theorem dX10_movable_1 : decode cX10_movable 1 = .ok (.istore_n 2, 1) := by decide +kernel
theorem dX10_movable_2 : decode cX10_movable 2 = .ok (.iconst 0, 1) := by decide +kernel
theorem dX10_movable_3 : decode cX10_movable 3 = .ok (.istore_n 3, 1) := by decide +kernel
theorem dX10_movable_4 : decode cX10_movable 4 = .ok (.iload_n 3, 1) := by decide +kernel
theorem dX10_movable_5 : decode cX10_movable 5 = .ok (.bipush 11, 2) := by decide +kernel
theorem dX10_movable_7 : decode cX10_movable 7 = .ok (.if_icmp .gt 60, 3) := by decide +kernel
theorem dX10_movable_10 : decode cX10_movable 10 = .ok (.iconst 0, 1) := by decide +kernel
theorem dX10_movable_11 : decode cX10_movable 11 = .ok (.istore 4, 2) := by decide +kernel
theorem dX10_movable_13 : decode cX10_movable 13 = .ok (.iload 4, 2) := by decide +kernel
theorem dX10_movable_15 : decode cX10_movable 15 = .ok (.bipush 11, 2) := by decide +kernel
theorem dX10_movable_17 : decode cX10_movable 17 = .ok (.if_icmp .gt 44, 3) := by decide +kernel
theorem dX10_movable_20 : decode cX10_movable 20 = .ok (.iload_n 2, 1) := by decide +kernel
theorem dX10_movable_21 : decode cX10_movable 21 = .ok (.iload_n 1, 1) := by decide +kernel
theorem dX10_movable_22 : decode cX10_movable 22 = .ok (.ifCond .eq 16, 3) := by decide +kernel
theorem dX10_movable_25 : decode cX10_movable 25 = .ok (.aload_n 0, 1) := by decide +kernel
theorem dX10_movable_26 : decode cX10_movable 26 = .ok (.iload_n 3, 1) := by decide +kernel
theorem dX10_movable_27 : decode cX10_movable 27 = .ok (.iload 4, 2) := by decide +kernel
theorem dX10_movable_29 : decode cX10_movable 29 = .ok (.invokevirtual 199, 3) := by decide +kernel
theorem dX10_movable_32 : decode cX10_movable 32 = .ok (.ifCond .eq 20, 3) := by decide +kernel
theorem dX10_movable_35 : decode cX10_movable 35 = .ok (.goto 13, 3) := by decide +kernel
theorem dX10_movable_38 : decode cX10_movable 38 = .ok (.aload_n 0, 1) := by decide +kernel
theorem dX10_movable_39 : decode cX10_movable 39 = .ok (.iload_n 3, 1) := by decide +kernel
theorem dX10_movable_40 : decode cX10_movable 40 = .ok (.iload 4, 2) := by decide +kernel
theorem dX10_movable_42 : decode cX10_movable 42 = .ok (.invokevirtual 334, 3) := by decide +kernel
theorem dX10_movable_45 : decode cX10_movable 45 = .ok (.ifCond .eq 7, 3) := by decide +kernel
theorem dX10_movable_48 : decode cX10_movable 48 = .ok (.iconst 1, 1) := by decide +kernel
theorem dX10_movable_49 : decode cX10_movable 49 = .ok (.goto 4, 3) := by decide +kernel
theorem dX10_movable_52 : decode cX10_movable 52 = .ok (.iconst 0, 1) := by decide +kernel
theorem dX10_movable_53 : decode cX10_movable 53 = .ok (.iadd, 1) := by decide +kernel
theorem dX10_movable_54 : decode cX10_movable 54 = .ok (.istore_n 2, 1) := by decide +kernel
theorem dX10_movable_55 : decode cX10_movable 55 = .ok (.iinc 4 1, 3) := by decide +kernel
theorem dX10_movable_58 : decode cX10_movable 58 = .ok (.goto (-45), 3) := by decide +kernel
theorem dX10_movable_61 : decode cX10_movable 61 = .ok (.iinc 3 1, 3) := by decide +kernel
theorem dX10_movable_64 : decode cX10_movable 64 = .ok (.goto (-60), 3) := by decide +kernel
theorem dX10_movable_67 : decode cX10_movable 67 = .ok (.iload_n 2, 1) := by decide +kernel
theorem dX10_movable_68 : decode cX10_movable 68 = .ok (.ireturn, 1) := by decide +kernel
theorem dX10_count_0 : decode cX10_count 0 = .ok (.aload_n 0, 1) := by decide +kernel
theorem dX10_count_1 : decode cX10_count 1 = .ok (.iload_n 1, 1) := by decide +kernel
theorem dX10_count_2 : decode cX10_count 2 = .ok (.iconst 0, 1) := by decide +kernel
theorem dX10_count_3 : decode cX10_count 3 = .ok (.bipush 7, 2) := by decide +kernel
theorem dX10_count_5 : decode cX10_count 5 = .ok (.invokestatic 101, 3) := by decide +kernel
theorem dX10_count_8 : decode cX10_count 8 = .ok (.ifCond .eq 7, 3) := by decide +kernel
theorem dX10_count_11 : decode cX10_count 11 = .ok (.iconst 0, 1) := by decide +kernel
theorem dX10_count_12 : decode cX10_count 12 = .ok (.goto 4, 3) := by decide +kernel
theorem dX10_count_15 : decode cX10_count 15 = .ok (.iconst 1, 1) := by decide +kernel
theorem dX10_count_16 : decode cX10_count 16 = .ok (.putfield 91, 3) := by decide +kernel
theorem dX10_count_19 : decode cX10_count 19 = .ok (.aload_n 0, 1) := by decide +kernel
theorem dX10_count_20 : decode cX10_count 20 = .ok (.getfield 91, 3) := by decide +kernel
theorem dX10_count_23 : decode cX10_count 23 = .ok (.ifCond .le 7, 3) := by decide +kernel
theorem dX10_count_26 : decode cX10_count 26 = .ok (.iconst (-1), 1) := by decide +kernel
theorem dX10_count_27 : decode cX10_count 27 = .ok (.goto 4, 3) := by decide +kernel
theorem dX10_count_30 : decode cX10_count 30 = .ok (.iload_n 1, 1) := by decide +kernel
theorem dX10_count_31 : decode cX10_count 31 = .ok (.tableswitch 80 (-1) 7 #[49, 80, 80, 80, 51, 56, 63, 68, 74], 49) := by decide +kernel
theorem dX10_count_80 : decode cX10_count 80 = .ok (.iconst 0, 1) := by decide +kernel
theorem dX10_count_81 : decode cX10_count 81 = .ok (.ireturn, 1) := by decide +kernel
theorem dX10_count_82 : decode cX10_count 82 = .ok (.aload_n 0, 1) := by decide +kernel
theorem dX10_count_83 : decode cX10_count 83 = .ok (.invokevirtual 337, 3) := by decide +kernel
theorem dX10_count_86 : decode cX10_count 86 = .ok (.ireturn, 1) := by decide +kernel
theorem dX10_count_87 : decode cX10_count 87 = .ok (.aload_n 0, 1) := by decide +kernel
theorem dX10_count_88 : decode cX10_count 88 = .ok (.getfield 7, 3) := by decide +kernel
theorem dX10_count_91 : decode cX10_count 91 = .ok (.iconst 3, 1) := by decide +kernel
theorem dX10_count_92 : decode cX10_count 92 = .ok (.iaload, 1) := by decide +kernel
theorem dX10_count_93 : decode cX10_count 93 = .ok (.ireturn, 1) := by decide +kernel
theorem dX10_count_94 : decode cX10_count 94 = .ok (.aload_n 0, 1) := by decide +kernel
theorem dX10_count_95 : decode cX10_count 95 = .ok (.getfield 251, 3) := by decide +kernel
theorem dX10_count_98 : decode cX10_count 98 = .ok (.ireturn, 1) := by decide +kernel
theorem dX10_count_99 : decode cX10_count 99 = .ok (.aload_n 0, 1) := by decide +kernel
theorem dX10_count_100 : decode cX10_count 100 = .ok (.iconst 1, 1) := by decide +kernel
theorem dX10_count_101 : decode cX10_count 101 = .ok (.invokevirtual 340, 3) := by decide +kernel
theorem dX10_count_104 : decode cX10_count 104 = .ok (.ireturn, 1) := by decide +kernel
theorem dX10_count_105 : decode cX10_count 105 = .ok (.aload_n 0, 1) := by decide +kernel
theorem dX10_count_106 : decode cX10_count 106 = .ok (.iconst 0, 1) := by decide +kernel
theorem dX10_count_107 : decode cX10_count 107 = .ok (.invokevirtual 340, 3) := by decide +kernel
theorem dX10_count_110 : decode cX10_count 110 = .ok (.ireturn, 1) := by decide +kernel
theorem dX10_count_111 : decode cX10_count 111 = .ok (.aload_n 0, 1) := by decide +kernel
theorem dX10_count_112 : decode cX10_count 112 = .ok (.getfield 7, 3) := by decide +kernel
theorem dX10_count_115 : decode cX10_count 115 = .ok (.iload_n 1, 1) := by decide +kernel
theorem dX10_count_116 : decode cX10_count 116 = .ok (.iaload, 1) := by decide +kernel
theorem dX10_count_117 : decode cX10_count 117 = .ok (.ireturn, 1) := by decide +kernel
theorem dX10_changes_0 : decode cX10_changes 0 = .ok (.aload_n 0, 1) := by decide +kernel
theorem dX10_changes_1 : decode cX10_changes 1 = .ok (.iload_n 1, 1) := by decide +kernel
theorem dX10_changes_2 : decode cX10_changes 2 = .ok (.iconst 0, 1) := by decide +kernel
theorem dX10_changes_3 : decode cX10_changes 3 = .ok (.iconst 5, 1) := by decide +kernel
theorem dX10_changes_4 : decode cX10_changes 4 = .ok (.invokestatic 101, 3) := by decide +kernel
theorem dX10_changes_7 : decode cX10_changes 7 = .ok (.ifCond .eq 7, 3) := by decide +kernel
theorem dX10_changes_10 : decode cX10_changes 10 = .ok (.iconst 0, 1) := by decide +kernel
theorem dX10_changes_11 : decode cX10_changes 11 = .ok (.goto 4, 3) := by decide +kernel
theorem dX10_changes_14 : decode cX10_changes 14 = .ok (.iconst 1, 1) := by decide +kernel
theorem dX10_changes_15 : decode cX10_changes 15 = .ok (.putfield 91, 3) := by decide +kernel
theorem dX10_changes_18 : decode cX10_changes 18 = .ok (.aload_n 0, 1) := by decide +kernel
theorem dX10_changes_19 : decode cX10_changes 19 = .ok (.getfield 91, 3) := by decide +kernel
theorem dX10_changes_22 : decode cX10_changes 22 = .ok (.ifCond .le 7, 3) := by decide +kernel
theorem dX10_changes_25 : decode cX10_changes 25 = .ok (.iconst 0, 1) := by decide +kernel
theorem dX10_changes_26 : decode cX10_changes 26 = .ok (.goto 9, 3) := by decide +kernel
theorem dX10_changes_29 : decode cX10_changes 29 = .ok (.aload_n 0, 1) := by decide +kernel
theorem dX10_changes_30 : decode cX10_changes 30 = .ok (.getfield 29, 3) := by decide +kernel
theorem dX10_changes_33 : decode cX10_changes 33 = .ok (.iload_n 1, 1) := by decide +kernel
theorem dX10_changes_34 : decode cX10_changes 34 = .ok (.iaload, 1) := by decide +kernel
theorem dX10_changes_35 : decode cX10_changes 35 = .ok (.ireturn, 1) := by decide +kernel
theorem dX10_isOnSide_0 : decode cX10_isOnSide 0 = .ok (.iload_n 0, 1) := by decide +kernel
theorem dX10_isOnSide_1 : decode cX10_isOnSide 1 = .ok (.iconst 0, 1) := by decide +kernel
theorem dX10_isOnSide_2 : decode cX10_isOnSide 2 = .ok (.bipush 11, 2) := by decide +kernel
theorem dX10_isOnSide_4 : decode cX10_isOnSide 4 = .ok (.invokestatic 101, 3) := by decide +kernel
theorem dX10_isOnSide_7 : decode cX10_isOnSide 7 = .ok (.ifCond .eq 17, 3) := by decide +kernel
theorem dX10_isOnSide_10 : decode cX10_isOnSide 10 = .ok (.iload_n 1, 1) := by decide +kernel
theorem dX10_isOnSide_11 : decode cX10_isOnSide 11 = .ok (.iconst 0, 1) := by decide +kernel
theorem dX10_isOnSide_12 : decode cX10_isOnSide 12 = .ok (.bipush 11, 2) := by decide +kernel
theorem dX10_isOnSide_14 : decode cX10_isOnSide 14 = .ok (.invokestatic 101, 3) := by decide +kernel
theorem dX10_isOnSide_17 : decode cX10_isOnSide 17 = .ok (.ifCond .eq 7, 3) := by decide +kernel
theorem dX10_isOnSide_20 : decode cX10_isOnSide 20 = .ok (.iconst 1, 1) := by decide +kernel
theorem dX10_isOnSide_21 : decode cX10_isOnSide 21 = .ok (.goto 4, 3) := by decide +kernel
theorem dX10_isOnSide_24 : decode cX10_isOnSide 24 = .ok (.iconst 0, 1) := by decide +kernel
theorem dX10_isOnSide_25 : decode cX10_isOnSide 25 = .ok (.ireturn, 1) := by decide +kernel
theorem dX10_refusal_0 : decode cX10_refusal 0 = .ok (.aload_n 0, 1) := by decide +kernel
theorem dX10_refusal_1 : decode cX10_refusal 1 = .ok (.iload_n 1, 1) := by decide +kernel
theorem dX10_refusal_2 : decode cX10_refusal 2 = .ok (.iload_n 2, 1) := by decide +kernel
theorem dX10_refusal_3 : decode cX10_refusal 3 = .ok (.invokestatic 344, 3) := by decide +kernel
theorem dX10_refusal_6 : decode cX10_refusal 6 = .ok (.ifCond .eq 7, 3) := by decide +kernel
theorem dX10_refusal_9 : decode cX10_refusal 9 = .ok (.iconst 0, 1) := by decide +kernel
theorem dX10_refusal_10 : decode cX10_refusal 10 = .ok (.goto 4, 3) := by decide +kernel
theorem dX10_refusal_13 : decode cX10_refusal 13 = .ok (.iconst 1, 1) := by decide +kernel
theorem dX10_refusal_14 : decode cX10_refusal 14 = .ok (.putfield 91, 3) := by decide +kernel
theorem dX10_refusal_17 : decode cX10_refusal 17 = .ok (.aload_n 0, 1) := by decide +kernel
theorem dX10_refusal_18 : decode cX10_refusal 18 = .ok (.getfield 91, 3) := by decide +kernel
theorem dX10_refusal_21 : decode cX10_refusal 21 = .ok (.ifCond .le 5, 3) := by decide +kernel
theorem dX10_refusal_24 : decode cX10_refusal 24 = .ok (.iconst 0, 1) := by decide +kernel
theorem dX10_refusal_25 : decode cX10_refusal 25 = .ok (.ireturn, 1) := by decide +kernel
theorem dX10_refusal_26 : decode cX10_refusal 26 = .ok (.aload_n 0, 1) := by decide +kernel
theorem dX10_refusal_27 : decode cX10_refusal 27 = .ok (.iload_n 1, 1) := by decide +kernel
theorem dX10_refusal_28 : decode cX10_refusal 28 = .ok (.iload_n 2, 1) := by decide +kernel
theorem dX10_refusal_29 : decode cX10_refusal 29 = .ok (.invokevirtual 112, 3) := by decide +kernel
theorem dX10_refusal_32 : decode cX10_refusal 32 = .ok (.ifCond .eq 7, 3) := by decide +kernel
theorem dX10_refusal_35 : decode cX10_refusal 35 = .ok (.iconst 1, 1) := by decide +kernel
theorem dX10_refusal_36 : decode cX10_refusal 36 = .ok (.goto 30, 3) := by decide +kernel
theorem dX10_refusal_39 : decode cX10_refusal 39 = .ok (.aload_n 0, 1) := by decide +kernel
theorem dX10_refusal_40 : decode cX10_refusal 40 = .ok (.iload_n 1, 1) := by decide +kernel
theorem dX10_refusal_41 : decode cX10_refusal 41 = .ok (.iload_n 2, 1) := by decide +kernel
theorem dX10_refusal_42 : decode cX10_refusal 42 = .ok (.invokevirtual 116, 3) := by decide +kernel
theorem dX10_refusal_45 : decode cX10_refusal 45 = .ok (.ifCond .ne 7, 3) := by decide +kernel
theorem dX10_refusal_48 : decode cX10_refusal 48 = .ok (.iconst 2, 1) := by decide +kernel
theorem dX10_refusal_49 : decode cX10_refusal 49 = .ok (.goto 17, 3) := by decide +kernel
theorem dX10_refusal_52 : decode cX10_refusal 52 = .ok (.aload_n 0, 1) := by decide +kernel
theorem dX10_refusal_53 : decode cX10_refusal 53 = .ok (.invokevirtual 105, 3) := by decide +kernel
theorem dX10_refusal_56 : decode cX10_refusal 56 = .ok (.bipush 12, 2) := by decide +kernel
theorem dX10_refusal_58 : decode cX10_refusal 58 = .ok (.if_icmp .ne 7, 3) := by decide +kernel
theorem dX10_refusal_61 : decode cX10_refusal 61 = .ok (.iconst 3, 1) := by decide +kernel
theorem dX10_refusal_62 : decode cX10_refusal 62 = .ok (.goto 4, 3) := by decide +kernel
theorem dX10_refusal_65 : decode cX10_refusal 65 = .ok (.iconst 0, 1) := by decide +kernel
theorem dX10_refusal_66 : decode cX10_refusal 66 = .ok (.ireturn, 1) := by decide +kernel
theorem dX10_keeps_0 : decode cX10_keeps 0 = .ok (.aload_n 0, 1) := by decide +kernel
theorem dX10_keeps_1 : decode cX10_keeps 1 = .ok (.getfield 251, 3) := by decide +kernel
theorem dX10_keeps_4 : decode cX10_keeps 4 = .ok (.bipush 8, 2) := by decide +kernel
theorem dX10_keeps_6 : decode cX10_keeps 6 = .ok (.if_icmp .ne 44, 3) := by decide +kernel
theorem dX10_keeps_9 : decode cX10_keeps 9 = .ok (.iconst 0, 1) := by decide +kernel
theorem dX10_keeps_10 : decode cX10_keeps 10 = .ok (.istore_n 2, 1) := by decide +kernel
theorem dX10_keeps_11 : decode cX10_keeps 11 = .ok (.iload_n 2, 1) := by decide +kernel
theorem dX10_keeps_12 : decode cX10_keeps 12 = .ok (.sipush 1736, 3) := by decide +kernel
theorem dX10_keeps_15 : decode cX10_keeps 15 = .ok (.if_icmp .ge 25, 3) := by decide +kernel
theorem dX10_keeps_18 : decode cX10_keeps 18 = .ok (.aload_n 0, 1) := by decide +kernel
theorem dX10_keeps_19 : decode cX10_keeps 19 = .ok (.getfield 19, 3) := by decide +kernel
theorem dX10_keeps_22 : decode cX10_keeps 22 = .ok (.iload_n 2, 1) := by decide +kernel
theorem dX10_keeps_23 : decode cX10_keeps 23 = .ok (.aload_n 0, 1) := by decide +kernel
theorem dX10_keeps_24 : decode cX10_keeps 24 = .ok (.getfield 19, 3) := by decide +kernel
theorem dX10_keeps_27 : decode cX10_keeps 27 = .ok (.iload_n 2, 1) := by decide +kernel
theorem dX10_keeps_28 : decode cX10_keeps 28 = .ok (.sipush 248, 3) := by decide +kernel
theorem dX10_keeps_31 : decode cX10_keeps 31 = .ok (.iadd, 1) := by decide +kernel
theorem dX10_keeps_32 : decode cX10_keeps 32 = .ok (.iaload, 1) := by decide +kernel
theorem dX10_keeps_33 : decode cX10_keeps 33 = .ok (.iastore, 1) := by decide +kernel
theorem dX10_keeps_34 : decode cX10_keeps 34 = .ok (.iinc 2 1, 3) := by decide +kernel
theorem dX10_keeps_37 : decode cX10_keeps 37 = .ok (.goto (-26), 3) := by decide +kernel
theorem dX10_keeps_40 : decode cX10_keeps 40 = .ok (.aload_n 0, 1) := by decide +kernel
theorem dX10_keeps_41 : decode cX10_keeps 41 = .ok (.dup, 1) := by decide +kernel
theorem dX10_keeps_42 : decode cX10_keeps 42 = .ok (.getfield 251, 3) := by decide +kernel
theorem dX10_keeps_45 : decode cX10_keeps 45 = .ok (.iconst 1, 1) := by decide +kernel
theorem dX10_keeps_46 : decode cX10_keeps 46 = .ok (.isub, 1) := by decide +kernel
theorem dX10_keeps_47 : decode cX10_keeps 47 = .ok (.putfield 251, 3) := by decide +kernel
theorem dX10_keeps_50 : decode cX10_keeps 50 = .ok (.aload_n 0, 1) := by decide +kernel
theorem dX10_keeps_51 : decode cX10_keeps 51 = .ok (.getfield 7, 3) := by decide +kernel
theorem dX10_keeps_54 : decode cX10_keeps 54 = .ok (.iconst 0, 1) := by decide +kernel
theorem dX10_keeps_55 : decode cX10_keeps 55 = .ok (.aload_n 0, 1) := by decide +kernel
theorem dX10_keeps_56 : decode cX10_keeps 56 = .ok (.getfield 19, 3) := by decide +kernel
theorem dX10_keeps_59 : decode cX10_keeps 59 = .ok (.sipush 248, 3) := by decide +kernel
theorem dX10_keeps_62 : decode cX10_keeps 62 = .ok (.aload_n 0, 1) := by decide +kernel
theorem dX10_keeps_63 : decode cX10_keeps 63 = .ok (.getfield 251, 3) := by decide +kernel
theorem dX10_keeps_66 : decode cX10_keeps 66 = .ok (.imul, 1) := by decide +kernel
theorem dX10_keeps_67 : decode cX10_keeps 67 = .ok (.invokestatic 136, 3) := by decide +kernel
theorem dX10_keeps_70 : decode cX10_keeps 70 = .ok (.aload_n 0, 1) := by decide +kernel
theorem dX10_keeps_71 : decode cX10_keeps 71 = .ok (.dup, 1) := by decide +kernel
theorem dX10_keeps_72 : decode cX10_keeps 72 = .ok (.getfield 251, 3) := by decide +kernel
theorem dX10_keeps_75 : decode cX10_keeps 75 = .ok (.iconst 1, 1) := by decide +kernel
theorem dX10_keeps_76 : decode cX10_keeps 76 = .ok (.iadd, 1) := by decide +kernel
theorem dX10_keeps_77 : decode cX10_keeps 77 = .ok (.putfield 251, 3) := by decide +kernel
theorem dX10_keeps_80 : decode cX10_keeps 80 = .ok (.aload_n 0, 1) := by decide +kernel
theorem dX10_keeps_81 : decode cX10_keeps 81 = .ok (.getfield 29, 3) := by decide +kernel
theorem dX10_keeps_84 : decode cX10_keeps 84 = .ok (.iload_n 1, 1) := by decide +kernel
theorem dX10_keeps_85 : decode cX10_keeps 85 = .ok (.dup2, 1) := by decide +kernel
theorem dX10_keeps_86 : decode cX10_keeps 86 = .ok (.iaload, 1) := by decide +kernel
theorem dX10_keeps_87 : decode cX10_keeps 87 = .ok (.iconst 1, 1) := by decide +kernel
theorem dX10_keeps_88 : decode cX10_keeps 88 = .ok (.iadd, 1) := by decide +kernel
theorem dX10_keeps_89 : decode cX10_keeps 89 = .ok (.iastore, 1) := by decide +kernel
theorem dX10_keeps_90 : decode cX10_keeps 90 = .ok (.return_, 1) := by decide +kernel
theorem dX10_join_0 : decode cX10_join 0 = .ok (.aload_n 0, 1) := by decide +kernel
theorem dX10_join_1 : decode cX10_join 1 = .ok (.iload_n 1, 1) := by decide +kernel
theorem dX10_join_2 : decode cX10_join 2 = .ok (.iload_n 2, 1) := by decide +kernel
theorem dX10_join_3 : decode cX10_join 3 = .ok (.invokestatic 344, 3) := by decide +kernel
theorem dX10_join_6 : decode cX10_join 6 = .ok (.ifCond .ne 7, 3) := by decide +kernel
theorem dX10_join_9 : decode cX10_join 9 = .ok (.iconst 1, 1) := by decide +kernel
theorem dX10_join_10 : decode cX10_join 10 = .ok (.goto 26, 3) := by decide +kernel
theorem dX10_join_13 : decode cX10_join 13 = .ok (.aload_n 0, 1) := by decide +kernel
theorem dX10_join_14 : decode cX10_join 14 = .ok (.iload_n 1, 1) := by decide +kernel
theorem dX10_join_15 : decode cX10_join 15 = .ok (.iload_n 2, 1) := by decide +kernel
theorem dX10_join_16 : decode cX10_join 16 = .ok (.invokevirtual 199, 3) := by decide +kernel
theorem dX10_join_19 : decode cX10_join 19 = .ok (.ifCond .eq 16, 3) := by decide +kernel
theorem dX10_join_22 : decode cX10_join 22 = .ok (.aload_n 0, 1) := by decide +kernel
theorem dX10_join_23 : decode cX10_join 23 = .ok (.invokevirtual 105, 3) := by decide +kernel
theorem dX10_join_26 : decode cX10_join 26 = .ok (.bipush 12, 2) := by decide +kernel
theorem dX10_join_28 : decode cX10_join 28 = .ok (.if_icmp .ge 7, 3) := by decide +kernel
theorem dX10_join_31 : decode cX10_join 31 = .ok (.iconst 0, 1) := by decide +kernel
theorem dX10_join_32 : decode cX10_join 32 = .ok (.goto 4, 3) := by decide +kernel
theorem dX10_join_35 : decode cX10_join 35 = .ok (.iconst 2, 1) := by decide +kernel
theorem dX10_join_36 : decode cX10_join 36 = .ok (.putfield 91, 3) := by decide +kernel
theorem dX10_join_39 : decode cX10_join 39 = .ok (.aload_n 0, 1) := by decide +kernel
theorem dX10_join_40 : decode cX10_join 40 = .ok (.getfield 91, 3) := by decide +kernel
theorem dX10_join_43 : decode cX10_join 43 = .ok (.ifCond .le 5, 3) := by decide +kernel
theorem dX10_join_46 : decode cX10_join 46 = .ok (.iconst 0, 1) := by decide +kernel
theorem dX10_join_47 : decode cX10_join 47 = .ok (.ireturn, 1) := by decide +kernel
theorem dX10_join_48 : decode cX10_join 48 = .ok (.aload_n 0, 1) := by decide +kernel
theorem dX10_join_49 : decode cX10_join 49 = .ok (.iconst 0, 1) := by decide +kernel
theorem dX10_join_50 : decode cX10_join 50 = .ok (.invokevirtual 347, 3) := by decide +kernel
theorem dX10_join_53 : decode cX10_join 53 = .ok (.aload_n 0, 1) := by decide +kernel
theorem dX10_join_54 : decode cX10_join 54 = .ok (.iload_n 1, 1) := by decide +kernel
theorem dX10_join_55 : decode cX10_join 55 = .ok (.iload_n 2, 1) := by decide +kernel
theorem dX10_join_56 : decode cX10_join 56 = .ok (.invokevirtual 202, 3) := by decide +kernel
theorem dX10_join_59 : decode cX10_join 59 = .ok (.ireturn, 1) := by decide +kernel
theorem dX10_leave_0 : decode cX10_leave 0 = .ok (.aload_n 0, 1) := by decide +kernel
theorem dX10_leave_1 : decode cX10_leave 1 = .ok (.iload_n 1, 1) := by decide +kernel
theorem dX10_leave_2 : decode cX10_leave 2 = .ok (.iload_n 2, 1) := by decide +kernel
theorem dX10_leave_3 : decode cX10_leave 3 = .ok (.invokestatic 344, 3) := by decide +kernel
theorem dX10_leave_6 : decode cX10_leave 6 = .ok (.ifCond .ne 7, 3) := by decide +kernel
theorem dX10_leave_9 : decode cX10_leave 9 = .ok (.iconst 1, 1) := by decide +kernel
theorem dX10_leave_10 : decode cX10_leave 10 = .ok (.goto 17, 3) := by decide +kernel
theorem dX10_leave_13 : decode cX10_leave 13 = .ok (.aload_n 0, 1) := by decide +kernel
theorem dX10_leave_14 : decode cX10_leave 14 = .ok (.iload_n 1, 1) := by decide +kernel
theorem dX10_leave_15 : decode cX10_leave 15 = .ok (.iload_n 2, 1) := by decide +kernel
theorem dX10_leave_16 : decode cX10_leave 16 = .ok (.invokevirtual 334, 3) := by decide +kernel
theorem dX10_leave_19 : decode cX10_leave 19 = .ok (.ifCond .eq 7, 3) := by decide +kernel
theorem dX10_leave_22 : decode cX10_leave 22 = .ok (.iconst 0, 1) := by decide +kernel
theorem dX10_leave_23 : decode cX10_leave 23 = .ok (.goto 4, 3) := by decide +kernel
theorem dX10_leave_26 : decode cX10_leave 26 = .ok (.iconst 2, 1) := by decide +kernel
theorem dX10_leave_27 : decode cX10_leave 27 = .ok (.putfield 91, 3) := by decide +kernel
theorem dX10_leave_30 : decode cX10_leave 30 = .ok (.aload_n 0, 1) := by decide +kernel
theorem dX10_leave_31 : decode cX10_leave 31 = .ok (.getfield 91, 3) := by decide +kernel
theorem dX10_leave_34 : decode cX10_leave 34 = .ok (.ifCond .le 5, 3) := by decide +kernel
theorem dX10_leave_37 : decode cX10_leave 37 = .ok (.iconst 0, 1) := by decide +kernel
theorem dX10_leave_38 : decode cX10_leave 38 = .ok (.ireturn, 1) := by decide +kernel
theorem dX10_leave_39 : decode cX10_leave 39 = .ok (.aload_n 0, 1) := by decide +kernel
theorem dX10_leave_40 : decode cX10_leave 40 = .ok (.iconst 1, 1) := by decide +kernel
theorem dX10_leave_41 : decode cX10_leave 41 = .ok (.invokevirtual 347, 3) := by decide +kernel
theorem dX10_leave_44 : decode cX10_leave 44 = .ok (.aload_n 0, 1) := by decide +kernel
theorem dX10_leave_45 : decode cX10_leave 45 = .ok (.iload_n 1, 1) := by decide +kernel
theorem dX10_leave_46 : decode cX10_leave 46 = .ok (.iload_n 2, 1) := by decide +kernel
theorem dX10_leave_47 : decode cX10_leave 47 = .ok (.invokevirtual 350, 3) := by decide +kernel
theorem dX10_leave_50 : decode cX10_leave 50 = .ok (.ireturn, 1) := by decide +kernel
theorem dX10_isMonomial_0 : decode cX10_isMonomial 0 = .ok (.iload_n 1, 1) := by decide +kernel
theorem dX10_isMonomial_1 : decode cX10_isMonomial 1 = .ok (.iconst 0, 1) := by decide +kernel
theorem dX10_isMonomial_2 : decode cX10_isMonomial 2 = .ok (.aload_n 0, 1) := by decide +kernel
theorem dX10_isMonomial_3 : decode cX10_isMonomial 3 = .ok (.invokevirtual 105, 3) := by decide +kernel
theorem dX10_isMonomial_6 : decode cX10_isMonomial 6 = .ok (.iconst 1, 1) := by decide +kernel
theorem dX10_isMonomial_7 : decode cX10_isMonomial 7 = .ok (.isub, 1) := by decide +kernel
theorem dX10_isMonomial_8 : decode cX10_isMonomial 8 = .ok (.invokestatic 101, 3) := by decide +kernel
theorem dX10_isMonomial_11 : decode cX10_isMonomial 11 = .ok (.ireturn, 1) := by decide +kernel
theorem dX10_isBorder_0 : decode cX10_isBorder 0 = .ok (.iload_n 1, 1) := by decide +kernel
theorem dX10_isBorder_1 : decode cX10_isBorder 1 = .ok (.iconst 0, 1) := by decide +kernel
theorem dX10_isBorder_2 : decode cX10_isBorder 2 = .ok (.aload_n 0, 1) := by decide +kernel
theorem dX10_isBorder_3 : decode cX10_isBorder 3 = .ok (.getfield 7, 3) := by decide +kernel
theorem dX10_isBorder_6 : decode cX10_isBorder 6 = .ok (.iconst 2, 1) := by decide +kernel
theorem dX10_isBorder_7 : decode cX10_isBorder 7 = .ok (.iaload, 1) := by decide +kernel
theorem dX10_isBorder_8 : decode cX10_isBorder 8 = .ok (.iconst 1, 1) := by decide +kernel
theorem dX10_isBorder_9 : decode cX10_isBorder 9 = .ok (.isub, 1) := by decide +kernel
theorem dX10_isBorder_10 : decode cX10_isBorder 10 = .ok (.invokestatic 101, 3) := by decide +kernel
theorem dX10_isBorder_13 : decode cX10_isBorder 13 = .ok (.ireturn, 1) := by decide +kernel
theorem dX10_monomial_0 : decode cX10_monomial 0 = .ok (.aload_n 0, 1) := by decide +kernel
theorem dX10_monomial_1 : decode cX10_monomial 1 = .ok (.aload_n 0, 1) := by decide +kernel
theorem dX10_monomial_2 : decode cX10_monomial 2 = .ok (.iload_n 1, 1) := by decide +kernel
theorem dX10_monomial_3 : decode cX10_monomial 3 = .ok (.invokevirtual 353, 3) := by decide +kernel
theorem dX10_monomial_6 : decode cX10_monomial 6 = .ok (.ifCond .ne 7, 3) := by decide +kernel
theorem dX10_monomial_9 : decode cX10_monomial 9 = .ok (.iconst 1, 1) := by decide +kernel
theorem dX10_monomial_10 : decode cX10_monomial 10 = .ok (.goto 17, 3) := by decide +kernel
theorem dX10_monomial_13 : decode cX10_monomial 13 = .ok (.iload_n 2, 1) := by decide +kernel
theorem dX10_monomial_14 : decode cX10_monomial 14 = .ok (.iconst 0, 1) := by decide +kernel
theorem dX10_monomial_15 : decode cX10_monomial 15 = .ok (.iconst 1, 1) := by decide +kernel
theorem dX10_monomial_16 : decode cX10_monomial 16 = .ok (.invokestatic 101, 3) := by decide +kernel
theorem dX10_monomial_19 : decode cX10_monomial 19 = .ok (.ifCond .eq 7, 3) := by decide +kernel
theorem dX10_monomial_22 : decode cX10_monomial 22 = .ok (.iconst 0, 1) := by decide +kernel
theorem dX10_monomial_23 : decode cX10_monomial 23 = .ok (.goto 4, 3) := by decide +kernel
theorem dX10_monomial_26 : decode cX10_monomial 26 = .ok (.iconst 2, 1) := by decide +kernel
theorem dX10_monomial_27 : decode cX10_monomial 27 = .ok (.putfield 91, 3) := by decide +kernel
theorem dX10_monomial_30 : decode cX10_monomial 30 = .ok (.aload_n 0, 1) := by decide +kernel
theorem dX10_monomial_31 : decode cX10_monomial 31 = .ok (.getfield 91, 3) := by decide +kernel
theorem dX10_monomial_34 : decode cX10_monomial 34 = .ok (.ifCond .le 7, 3) := by decide +kernel
theorem dX10_monomial_37 : decode cX10_monomial 37 = .ok (.iconst 0, 1) := by decide +kernel
theorem dX10_monomial_38 : decode cX10_monomial 38 = .ok (.goto 20, 3) := by decide +kernel
theorem dX10_monomial_41 : decode cX10_monomial 41 = .ok (.aload_n 0, 1) := by decide +kernel
theorem dX10_monomial_42 : decode cX10_monomial 42 = .ok (.getfield 7, 3) := by decide +kernel
theorem dX10_monomial_45 : decode cX10_monomial 45 = .ok (.iload_n 2, 1) := by decide +kernel
theorem dX10_monomial_46 : decode cX10_monomial 46 = .ok (.ifCond .ne 7, 3) := by decide +kernel
theorem dX10_monomial_49 : decode cX10_monomial 49 = .ok (.iconst 4, 1) := by decide +kernel
theorem dX10_monomial_50 : decode cX10_monomial 50 = .ok (.goto 5, 3) := by decide +kernel
theorem dX10_monomial_53 : decode cX10_monomial 53 = .ok (.bipush 16, 2) := by decide +kernel
theorem dX10_monomial_55 : decode cX10_monomial 55 = .ok (.iload_n 1, 1) := by decide +kernel
theorem dX10_monomial_56 : decode cX10_monomial 56 = .ok (.iadd, 1) := by decide +kernel
theorem dX10_monomial_57 : decode cX10_monomial 57 = .ok (.iaload, 1) := by decide +kernel
theorem dX10_monomial_58 : decode cX10_monomial 58 = .ok (.ireturn, 1) := by decide +kernel
theorem dX10_border_0 : decode cX10_border 0 = .ok (.aload_n 0, 1) := by decide +kernel
theorem dX10_border_1 : decode cX10_border 1 = .ok (.aload_n 0, 1) := by decide +kernel
theorem dX10_border_2 : decode cX10_border 2 = .ok (.iload_n 1, 1) := by decide +kernel
theorem dX10_border_3 : decode cX10_border 3 = .ok (.invokevirtual 356, 3) := by decide +kernel
theorem dX10_border_6 : decode cX10_border 6 = .ok (.ifCond .ne 7, 3) := by decide +kernel
theorem dX10_border_9 : decode cX10_border 9 = .ok (.iconst 1, 1) := by decide +kernel
theorem dX10_border_10 : decode cX10_border 10 = .ok (.goto 17, 3) := by decide +kernel
theorem dX10_border_13 : decode cX10_border 13 = .ok (.iload_n 2, 1) := by decide +kernel
theorem dX10_border_14 : decode cX10_border 14 = .ok (.iconst 0, 1) := by decide +kernel
theorem dX10_border_15 : decode cX10_border 15 = .ok (.iconst 1, 1) := by decide +kernel
theorem dX10_border_16 : decode cX10_border 16 = .ok (.invokestatic 101, 3) := by decide +kernel
theorem dX10_border_19 : decode cX10_border 19 = .ok (.ifCond .eq 7, 3) := by decide +kernel
theorem dX10_border_22 : decode cX10_border 22 = .ok (.iconst 0, 1) := by decide +kernel
theorem dX10_border_23 : decode cX10_border 23 = .ok (.goto 4, 3) := by decide +kernel
theorem dX10_border_26 : decode cX10_border 26 = .ok (.iconst 2, 1) := by decide +kernel
theorem dX10_border_27 : decode cX10_border 27 = .ok (.putfield 91, 3) := by decide +kernel
theorem dX10_border_30 : decode cX10_border 30 = .ok (.aload_n 0, 1) := by decide +kernel
theorem dX10_border_31 : decode cX10_border 31 = .ok (.getfield 91, 3) := by decide +kernel
theorem dX10_border_34 : decode cX10_border 34 = .ok (.ifCond .le 7, 3) := by decide +kernel
theorem dX10_border_37 : decode cX10_border 37 = .ok (.iconst 0, 1) := by decide +kernel
theorem dX10_border_38 : decode cX10_border 38 = .ok (.goto 21, 3) := by decide +kernel
theorem dX10_border_41 : decode cX10_border 41 = .ok (.aload_n 0, 1) := by decide +kernel
theorem dX10_border_42 : decode cX10_border 42 = .ok (.getfield 7, 3) := by decide +kernel
theorem dX10_border_45 : decode cX10_border 45 = .ok (.iload_n 2, 1) := by decide +kernel
theorem dX10_border_46 : decode cX10_border 46 = .ok (.ifCond .ne 8, 3) := by decide +kernel
theorem dX10_border_49 : decode cX10_border 49 = .ok (.bipush 28, 2) := by decide +kernel
theorem dX10_border_51 : decode cX10_border 51 = .ok (.goto 5, 3) := by decide +kernel
theorem dX10_border_54 : decode cX10_border 54 = .ok (.bipush 42, 2) := by decide +kernel
theorem dX10_border_56 : decode cX10_border 56 = .ok (.iload_n 1, 1) := by decide +kernel
theorem dX10_border_57 : decode cX10_border 57 = .ok (.iadd, 1) := by decide +kernel
theorem dX10_border_58 : decode cX10_border 58 = .ok (.iaload, 1) := by decide +kernel
theorem dX10_border_59 : decode cX10_border 59 = .ok (.ireturn, 1) := by decide +kernel
theorem dX10_place_0 : decode cX10_place 0 = .ok (.aload_n 0, 1) := by decide +kernel
theorem dX10_place_1 : decode cX10_place 1 = .ok (.iconst 0, 1) := by decide +kernel
theorem dX10_place_2 : decode cX10_place 2 = .ok (.putfield 91, 3) := by decide +kernel
theorem dX10_place_5 : decode cX10_place 5 = .ok (.aload_n 0, 1) := by decide +kernel
theorem dX10_place_6 : decode cX10_place 6 = .ok (.iload_n 1, 1) := by decide +kernel
theorem dX10_place_7 : decode cX10_place 7 = .ok (.iload_n 2, 1) := by decide +kernel
theorem dX10_place_8 : decode cX10_place 8 = .ok (.invokevirtual 108, 3) := by decide +kernel
theorem dX10_place_11 : decode cX10_place 11 = .ok (.istore_n 3, 1) := by decide +kernel
theorem dX10_place_12 : decode cX10_place 12 = .ok (.aload_n 0, 1) := by decide +kernel
theorem dX10_place_13 : decode cX10_place 13 = .ok (.iload_n 1, 1) := by decide +kernel
theorem dX10_place_14 : decode cX10_place 14 = .ok (.iload_n 2, 1) := by decide +kernel
theorem dX10_place_15 : decode cX10_place 15 = .ok (.invokevirtual 119, 3) := by decide +kernel
theorem dX10_place_18 : decode cX10_place 18 = .ok (.istore 4, 2) := by decide +kernel
theorem dX10_place_20 : decode cX10_place 20 = .ok (.iload_n 3, 1) := by decide +kernel
theorem dX10_place_21 : decode cX10_place 21 = .ok (.iconst (-1), 1) := by decide +kernel
theorem dX10_place_22 : decode cX10_place 22 = .ok (.if_icmp .eq 7, 3) := by decide +kernel
theorem dX10_place_25 : decode cX10_place 25 = .ok (.iload_n 3, 1) := by decide +kernel
theorem dX10_place_26 : decode cX10_place 26 = .ok (.goto 18, 3) := by decide +kernel
theorem dX10_place_29 : decode cX10_place 29 = .ok (.iload 4, 2) := by decide +kernel
theorem dX10_place_31 : decode cX10_place 31 = .ok (.iconst (-1), 1) := by decide +kernel
theorem dX10_place_32 : decode cX10_place 32 = .ok (.if_icmp .eq 11, 3) := by decide +kernel
theorem dX10_place_35 : decode cX10_place 35 = .ok (.bipush 100, 2) := by decide +kernel
theorem dX10_place_37 : decode cX10_place 37 = .ok (.iload 4, 2) := by decide +kernel
theorem dX10_place_39 : decode cX10_place 39 = .ok (.iadd, 1) := by decide +kernel
theorem dX10_place_40 : decode cX10_place 40 = .ok (.goto 4, 3) := by decide +kernel
theorem dX10_place_43 : decode cX10_place 43 = .ok (.iconst (-1), 1) := by decide +kernel
theorem dX10_place_44 : decode cX10_place 44 = .ok (.ireturn, 1) := by decide +kernel
theorem dX10_isNumber_0 : decode cX10_isNumber 0 = .ok (.iload_n 1, 1) := by decide +kernel
theorem dX10_isNumber_1 : decode cX10_isNumber 1 = .ok (.iconst 0, 1) := by decide +kernel
theorem dX10_isNumber_2 : decode cX10_isNumber 2 = .ok (.aload_n 0, 1) := by decide +kernel
theorem dX10_isNumber_3 : decode cX10_isNumber 3 = .ok (.invokevirtual 97, 3) := by decide +kernel
theorem dX10_isNumber_6 : decode cX10_isNumber 6 = .ok (.iconst 1, 1) := by decide +kernel
theorem dX10_isNumber_7 : decode cX10_isNumber 7 = .ok (.isub, 1) := by decide +kernel
theorem dX10_isNumber_8 : decode cX10_isNumber 8 = .ok (.invokestatic 101, 3) := by decide +kernel
theorem dX10_isNumber_11 : decode cX10_isNumber 11 = .ok (.ireturn, 1) := by decide +kernel
theorem dX10_setRule_0 : decode cX10_setRule 0 = .ok (.aload_n 0, 1) := by decide +kernel
theorem dX10_setRule_1 : decode cX10_setRule 1 = .ok (.aload_n 0, 1) := by decide +kernel
theorem dX10_setRule_2 : decode cX10_setRule 2 = .ok (.iload_n 1, 1) := by decide +kernel
theorem dX10_setRule_3 : decode cX10_setRule 3 = .ok (.invokevirtual 356, 3) := by decide +kernel
theorem dX10_setRule_6 : decode cX10_setRule 6 = .ok (.ifCond .eq 11, 3) := by decide +kernel
theorem dX10_setRule_9 : decode cX10_setRule 9 = .ok (.aload_n 0, 1) := by decide +kernel
theorem dX10_setRule_10 : decode cX10_setRule 10 = .ok (.iload_n 2, 1) := by decide +kernel
theorem dX10_setRule_11 : decode cX10_setRule 11 = .ok (.invokevirtual 353, 3) := by decide +kernel
theorem dX10_setRule_14 : decode cX10_setRule 14 = .ok (.ifCond .ne 7, 3) := by decide +kernel
theorem dX10_setRule_17 : decode cX10_setRule 17 = .ok (.iconst 1, 1) := by decide +kernel
theorem dX10_setRule_18 : decode cX10_setRule 18 = .ok (.goto 16, 3) := by decide +kernel
theorem dX10_setRule_21 : decode cX10_setRule 21 = .ok (.aload_n 0, 1) := by decide +kernel
theorem dX10_setRule_22 : decode cX10_setRule 22 = .ok (.iload_n 3, 1) := by decide +kernel
theorem dX10_setRule_23 : decode cX10_setRule 23 = .ok (.invokevirtual 359, 3) := by decide +kernel
theorem dX10_setRule_26 : decode cX10_setRule 26 = .ok (.ifCond .eq 7, 3) := by decide +kernel
theorem dX10_setRule_29 : decode cX10_setRule 29 = .ok (.iconst 0, 1) := by decide +kernel
theorem dX10_setRule_30 : decode cX10_setRule 30 = .ok (.goto 4, 3) := by decide +kernel
theorem dX10_setRule_33 : decode cX10_setRule 33 = .ok (.iconst 2, 1) := by decide +kernel
theorem dX10_setRule_34 : decode cX10_setRule 34 = .ok (.putfield 91, 3) := by decide +kernel
theorem dX10_setRule_37 : decode cX10_setRule 37 = .ok (.aload_n 0, 1) := by decide +kernel
theorem dX10_setRule_38 : decode cX10_setRule 38 = .ok (.getfield 91, 3) := by decide +kernel
theorem dX10_setRule_41 : decode cX10_setRule 41 = .ok (.ifCond .le 5, 3) := by decide +kernel
theorem dX10_setRule_44 : decode cX10_setRule 44 = .ok (.iconst 0, 1) := by decide +kernel
theorem dX10_setRule_45 : decode cX10_setRule 45 = .ok (.ireturn, 1) := by decide +kernel
theorem dX10_setRule_46 : decode cX10_setRule 46 = .ok (.aload_n 0, 1) := by decide +kernel
theorem dX10_setRule_47 : decode cX10_setRule 47 = .ok (.iconst 2, 1) := by decide +kernel
theorem dX10_setRule_48 : decode cX10_setRule 48 = .ok (.invokevirtual 347, 3) := by decide +kernel
theorem dX10_setRule_51 : decode cX10_setRule 51 = .ok (.aload_n 0, 1) := by decide +kernel
theorem dX10_setRule_52 : decode cX10_setRule 52 = .ok (.getfield 7, 3) := by decide +kernel
theorem dX10_setRule_55 : decode cX10_setRule 55 = .ok (.iload_n 1, 1) := by decide +kernel
theorem dX10_setRule_56 : decode cX10_setRule 56 = .ok (.iload_n 2, 1) := by decide +kernel
theorem dX10_setRule_57 : decode cX10_setRule 57 = .ok (.invokestatic 130, 3) := by decide +kernel
theorem dX10_setRule_60 : decode cX10_setRule 60 = .ok (.iaload, 1) := by decide +kernel
theorem dX10_setRule_61 : decode cX10_setRule 61 = .ok (.istore 4, 2) := by decide +kernel
theorem dX10_setRule_63 : decode cX10_setRule 63 = .ok (.aload_n 0, 1) := by decide +kernel
theorem dX10_setRule_64 : decode cX10_setRule 64 = .ok (.getfield 7, 3) := by decide +kernel
theorem dX10_setRule_67 : decode cX10_setRule 67 = .ok (.iload_n 1, 1) := by decide +kernel
theorem dX10_setRule_68 : decode cX10_setRule 68 = .ok (.iload_n 2, 1) := by decide +kernel
theorem dX10_setRule_69 : decode cX10_setRule 69 = .ok (.invokestatic 130, 3) := by decide +kernel
theorem dX10_setRule_72 : decode cX10_setRule 72 = .ok (.iload_n 3, 1) := by decide +kernel
theorem dX10_setRule_73 : decode cX10_setRule 73 = .ok (.iastore, 1) := by decide +kernel
theorem dX10_setRule_74 : decode cX10_setRule 74 = .ok (.iload 4, 2) := by decide +kernel
theorem dX10_setRule_76 : decode cX10_setRule 76 = .ok (.ireturn, 1) := by decide +kernel
theorem dX10_rule_0 : decode cX10_rule 0 = .ok (.aload_n 0, 1) := by decide +kernel
theorem dX10_rule_1 : decode cX10_rule 1 = .ok (.aload_n 0, 1) := by decide +kernel
theorem dX10_rule_2 : decode cX10_rule 2 = .ok (.iload_n 1, 1) := by decide +kernel
theorem dX10_rule_3 : decode cX10_rule 3 = .ok (.invokevirtual 356, 3) := by decide +kernel
theorem dX10_rule_6 : decode cX10_rule 6 = .ok (.ifCond .eq 15, 3) := by decide +kernel
theorem dX10_rule_9 : decode cX10_rule 9 = .ok (.aload_n 0, 1) := by decide +kernel
theorem dX10_rule_10 : decode cX10_rule 10 = .ok (.iload_n 2, 1) := by decide +kernel
theorem dX10_rule_11 : decode cX10_rule 11 = .ok (.invokevirtual 353, 3) := by decide +kernel
theorem dX10_rule_14 : decode cX10_rule 14 = .ok (.ifCond .eq 7, 3) := by decide +kernel
theorem dX10_rule_17 : decode cX10_rule 17 = .ok (.iconst 0, 1) := by decide +kernel
theorem dX10_rule_18 : decode cX10_rule 18 = .ok (.goto 4, 3) := by decide +kernel
theorem dX10_rule_21 : decode cX10_rule 21 = .ok (.iconst 1, 1) := by decide +kernel
theorem dX10_rule_22 : decode cX10_rule 22 = .ok (.putfield 91, 3) := by decide +kernel
theorem dX10_rule_25 : decode cX10_rule 25 = .ok (.aload_n 0, 1) := by decide +kernel
theorem dX10_rule_26 : decode cX10_rule 26 = .ok (.getfield 91, 3) := by decide +kernel
theorem dX10_rule_29 : decode cX10_rule 29 = .ok (.ifCond .le 7, 3) := by decide +kernel
theorem dX10_rule_32 : decode cX10_rule 32 = .ok (.iconst 0, 1) := by decide +kernel
theorem dX10_rule_33 : decode cX10_rule 33 = .ok (.goto 13, 3) := by decide +kernel
theorem dX10_rule_36 : decode cX10_rule 36 = .ok (.aload_n 0, 1) := by decide +kernel
theorem dX10_rule_37 : decode cX10_rule 37 = .ok (.getfield 7, 3) := by decide +kernel
theorem dX10_rule_40 : decode cX10_rule 40 = .ok (.iload_n 1, 1) := by decide +kernel
theorem dX10_rule_41 : decode cX10_rule 41 = .ok (.iload_n 2, 1) := by decide +kernel
theorem dX10_rule_42 : decode cX10_rule 42 = .ok (.invokestatic 130, 3) := by decide +kernel
theorem dX10_rule_45 : decode cX10_rule 45 = .ok (.iaload, 1) := by decide +kernel
theorem dX10_rule_46 : decode cX10_rule 46 = .ok (.ireturn, 1) := by decide +kernel
theorem dX10_value_0 : decode cX10_value 0 = .ok (.aload_n 0, 1) := by decide +kernel
theorem dX10_value_1 : decode cX10_value 1 = .ok (.aload_n 0, 1) := by decide +kernel
theorem dX10_value_2 : decode cX10_value 2 = .ok (.iload_n 1, 1) := by decide +kernel
theorem dX10_value_3 : decode cX10_value 3 = .ok (.invokevirtual 356, 3) := by decide +kernel
theorem dX10_value_6 : decode cX10_value 6 = .ok (.ifCond .ne 7, 3) := by decide +kernel
theorem dX10_value_9 : decode cX10_value 9 = .ok (.iconst 1, 1) := by decide +kernel
theorem dX10_value_10 : decode cX10_value 10 = .ok (.goto 24, 3) := by decide +kernel
theorem dX10_value_13 : decode cX10_value 13 = .ok (.aload_n 0, 1) := by decide +kernel
theorem dX10_value_14 : decode cX10_value 14 = .ok (.iload_n 2, 1) := by decide +kernel
theorem dX10_value_15 : decode cX10_value 15 = .ok (.invokevirtual 359, 3) := by decide +kernel
theorem dX10_value_18 : decode cX10_value 18 = .ok (.ifCond .eq 15, 3) := by decide +kernel
theorem dX10_value_21 : decode cX10_value 21 = .ok (.aload_n 0, 1) := by decide +kernel
theorem dX10_value_22 : decode cX10_value 22 = .ok (.iload_n 3, 1) := by decide +kernel
theorem dX10_value_23 : decode cX10_value 23 = .ok (.invokevirtual 359, 3) := by decide +kernel
theorem dX10_value_26 : decode cX10_value 26 = .ok (.ifCond .eq 7, 3) := by decide +kernel
theorem dX10_value_29 : decode cX10_value 29 = .ok (.iconst 0, 1) := by decide +kernel
theorem dX10_value_30 : decode cX10_value 30 = .ok (.goto 4, 3) := by decide +kernel
theorem dX10_value_33 : decode cX10_value 33 = .ok (.iconst 2, 1) := by decide +kernel
theorem dX10_value_34 : decode cX10_value 34 = .ok (.putfield 91, 3) := by decide +kernel
theorem dX10_value_37 : decode cX10_value 37 = .ok (.aload_n 0, 1) := by decide +kernel
theorem dX10_value_38 : decode cX10_value 38 = .ok (.getfield 91, 3) := by decide +kernel
theorem dX10_value_41 : decode cX10_value 41 = .ok (.ifCond .le 5, 3) := by decide +kernel
theorem dX10_value_44 : decode cX10_value 44 = .ok (.iconst 0, 1) := by decide +kernel
theorem dX10_value_45 : decode cX10_value 45 = .ok (.ireturn, 1) := by decide +kernel
theorem dX10_value_46 : decode cX10_value 46 = .ok (.aload_n 0, 1) := by decide +kernel
theorem dX10_value_47 : decode cX10_value 47 = .ok (.iload_n 2, 1) := by decide +kernel
theorem dX10_value_48 : decode cX10_value 48 = .ok (.iload_n 3, 1) := by decide +kernel
theorem dX10_value_49 : decode cX10_value 49 = .ok (.invokevirtual 316, 3) := by decide +kernel
theorem dX10_value_52 : decode cX10_value 52 = .ok (.aload_n 0, 1) := by decide +kernel
theorem dX10_value_53 : decode cX10_value 53 = .ok (.iload_n 1, 1) := by decide +kernel
theorem dX10_value_54 : decode cX10_value 54 = .ok (.invokevirtual 319, 3) := by decide +kernel
theorem dX10_value_57 : decode cX10_value 57 = .ok (.ireturn, 1) := by decide +kernel
theorem dX10_isVariable_0 : decode cX10_isVariable 0 = .ok (.iload_n 0, 1) := by decide +kernel
theorem dX10_isVariable_1 : decode cX10_isVariable 1 = .ok (.iconst 0, 1) := by decide +kernel
theorem dX10_isVariable_2 : decode cX10_isVariable 2 = .ok (.iconst 1, 1) := by decide +kernel
theorem dX10_isVariable_3 : decode cX10_isVariable 3 = .ok (.invokestatic 101, 3) := by decide +kernel
theorem dX10_isVariable_6 : decode cX10_isVariable 6 = .ok (.ireturn, 1) := by decide +kernel
theorem dX10_table_0 : decode cX10_table 0 = .ok (.aload_n 0, 1) := by decide +kernel
theorem dX10_table_1 : decode cX10_table 1 = .ok (.aload_n 0, 1) := by decide +kernel
theorem dX10_table_2 : decode cX10_table 2 = .ok (.iload_n 2, 1) := by decide +kernel
theorem dX10_table_3 : decode cX10_table 3 = .ok (.invokevirtual 353, 3) := by decide +kernel
theorem dX10_table_6 : decode cX10_table 6 = .ok (.ifCond .eq 11, 3) := by decide +kernel
theorem dX10_table_9 : decode cX10_table 9 = .ok (.aload_n 0, 1) := by decide +kernel
theorem dX10_table_10 : decode cX10_table 10 = .ok (.iload_n 3, 1) := by decide +kernel
theorem dX10_table_11 : decode cX10_table 11 = .ok (.invokevirtual 353, 3) := by decide +kernel
theorem dX10_table_14 : decode cX10_table 14 = .ok (.ifCond .ne 7, 3) := by decide +kernel
theorem dX10_table_17 : decode cX10_table 17 = .ok (.iconst 1, 1) := by decide +kernel
theorem dX10_table_18 : decode cX10_table 18 = .ok (.goto 15, 3) := by decide +kernel
theorem dX10_table_21 : decode cX10_table 21 = .ok (.iload_n 1, 1) := by decide +kernel
theorem dX10_table_22 : decode cX10_table 22 = .ok (.invokestatic 362, 3) := by decide +kernel
theorem dX10_table_25 : decode cX10_table 25 = .ok (.ifCond .eq 7, 3) := by decide +kernel
theorem dX10_table_28 : decode cX10_table 28 = .ok (.iconst 0, 1) := by decide +kernel
theorem dX10_table_29 : decode cX10_table 29 = .ok (.goto 4, 3) := by decide +kernel
theorem dX10_table_32 : decode cX10_table 32 = .ok (.iconst 2, 1) := by decide +kernel
theorem dX10_table_33 : decode cX10_table 33 = .ok (.putfield 91, 3) := by decide +kernel
theorem dX10_table_36 : decode cX10_table 36 = .ok (.aload_n 0, 1) := by decide +kernel
theorem dX10_table_37 : decode cX10_table 37 = .ok (.getfield 91, 3) := by decide +kernel
theorem dX10_table_40 : decode cX10_table 40 = .ok (.ifCond .le 5, 3) := by decide +kernel
theorem dX10_table_43 : decode cX10_table 43 = .ok (.iconst 0, 1) := by decide +kernel
theorem dX10_table_44 : decode cX10_table 44 = .ok (.ireturn, 1) := by decide +kernel
theorem dX10_table_45 : decode cX10_table 45 = .ok (.aload_n 0, 1) := by decide +kernel
theorem dX10_table_46 : decode cX10_table 46 = .ok (.invokevirtual 261, 3) := by decide +kernel
theorem dX10_table_49 : decode cX10_table 49 = .ok (.iload_n 1, 1) := by decide +kernel
theorem dX10_table_50 : decode cX10_table 50 = .ok (.ifCond .ne 10, 3) := by decide +kernel
theorem dX10_table_53 : decode cX10_table 53 = .ok (.aload_n 0, 1) := by decide +kernel
theorem dX10_table_54 : decode cX10_table 54 = .ok (.getfield 43, 3) := by decide +kernel
theorem dX10_table_57 : decode cX10_table 57 = .ok (.goto 7, 3) := by decide +kernel
theorem dX10_table_60 : decode cX10_table 60 = .ok (.aload_n 0, 1) := by decide +kernel
theorem dX10_table_61 : decode cX10_table 61 = .ok (.getfield 46, 3) := by decide +kernel
theorem dX10_table_64 : decode cX10_table 64 = .ok (.iload_n 2, 1) := by decide +kernel
theorem dX10_table_65 : decode cX10_table 65 = .ok (.iload_n 3, 1) := by decide +kernel
theorem dX10_table_66 : decode cX10_table 66 = .ok (.invokestatic 254, 3) := by decide +kernel
theorem dX10_table_69 : decode cX10_table 69 = .ok (.iaload, 1) := by decide +kernel
theorem dX10_table_70 : decode cX10_table 70 = .ok (.ireturn, 1) := by decide +kernel
theorem dX10_commutes_0 : decode cX10_commutes 0 = .ok (.aload_n 0, 1) := by decide +kernel
theorem dX10_commutes_1 : decode cX10_commutes 1 = .ok (.iconst 0, 1) := by decide +kernel
theorem dX10_commutes_2 : decode cX10_commutes 2 = .ok (.putfield 91, 3) := by decide +kernel
theorem dX10_commutes_5 : decode cX10_commutes 5 = .ok (.aload_n 0, 1) := by decide +kernel
theorem dX10_commutes_6 : decode cX10_commutes 6 = .ok (.invokevirtual 365, 3) := by decide +kernel
theorem dX10_commutes_9 : decode cX10_commutes 9 = .ok (.ireturn, 1) := by decide +kernel
theorem dX10_clash_0 : decode cX10_clash 0 = .ok (.aload_n 0, 1) := by decide +kernel
theorem dX10_clash_1 : decode cX10_clash 1 = .ok (.iload_n 1, 1) := by decide +kernel
theorem dX10_clash_2 : decode cX10_clash 2 = .ok (.iconst 0, 1) := by decide +kernel
theorem dX10_clash_3 : decode cX10_clash 3 = .ok (.iconst 4, 1) := by decide +kernel
theorem dX10_clash_4 : decode cX10_clash 4 = .ok (.invokestatic 101, 3) := by decide +kernel
theorem dX10_clash_7 : decode cX10_clash 7 = .ok (.ifCond .eq 7, 3) := by decide +kernel
theorem dX10_clash_10 : decode cX10_clash 10 = .ok (.iconst 0, 1) := by decide +kernel
theorem dX10_clash_11 : decode cX10_clash 11 = .ok (.goto 4, 3) := by decide +kernel
theorem dX10_clash_14 : decode cX10_clash 14 = .ok (.iconst 1, 1) := by decide +kernel
theorem dX10_clash_15 : decode cX10_clash 15 = .ok (.putfield 91, 3) := by decide +kernel
theorem dX10_clash_18 : decode cX10_clash 18 = .ok (.aload_n 0, 1) := by decide +kernel
theorem dX10_clash_19 : decode cX10_clash 19 = .ok (.getfield 91, 3) := by decide +kernel
theorem dX10_clash_22 : decode cX10_clash 22 = .ok (.ifCond .le 5, 3) := by decide +kernel
theorem dX10_clash_25 : decode cX10_clash 25 = .ok (.iconst 0, 1) := by decide +kernel
theorem dX10_clash_26 : decode cX10_clash 26 = .ok (.ireturn, 1) := by decide +kernel
theorem dX10_clash_27 : decode cX10_clash 27 = .ok (.aload_n 0, 1) := by decide +kernel
theorem dX10_clash_28 : decode cX10_clash 28 = .ok (.invokevirtual 268, 3) := by decide +kernel
theorem dX10_clash_31 : decode cX10_clash 31 = .ok (.istore_n 2, 1) := by decide +kernel
theorem dX10_clash_32 : decode cX10_clash 32 = .ok (.iload_n 1, 1) := by decide +kernel
theorem dX10_clash_33 : decode cX10_clash 33 = .ok (.iconst 4, 1) := by decide +kernel
theorem dX10_clash_34 : decode cX10_clash 34 = .ok (.if_icmp .eq 7, 3) := by decide +kernel
theorem dX10_clash_37 : decode cX10_clash 37 = .ok (.iload_n 2, 1) := by decide +kernel
theorem dX10_clash_38 : decode cX10_clash 38 = .ok (.ifCond .ne 14, 3) := by decide +kernel
theorem dX10_clash_41 : decode cX10_clash 41 = .ok (.iload_n 1, 1) := by decide +kernel
theorem dX10_clash_42 : decode cX10_clash 42 = .ok (.iconst 4, 1) := by decide +kernel
theorem dX10_clash_43 : decode cX10_clash 43 = .ok (.if_icmp .ne 7, 3) := by decide +kernel
theorem dX10_clash_46 : decode cX10_clash 46 = .ok (.iload_n 2, 1) := by decide +kernel
theorem dX10_clash_47 : decode cX10_clash 47 = .ok (.goto 4, 3) := by decide +kernel
theorem dX10_clash_50 : decode cX10_clash 50 = .ok (.iconst (-1), 1) := by decide +kernel
theorem dX10_clash_51 : decode cX10_clash 51 = .ok (.ireturn, 1) := by decide +kernel
theorem dX10_clash_52 : decode cX10_clash 52 = .ok (.iconst 0, 1) := by decide +kernel
theorem dX10_clash_53 : decode cX10_clash 53 = .ok (.istore_n 3, 1) := by decide +kernel
theorem dX10_clash_54 : decode cX10_clash 54 = .ok (.aload_n 0, 1) := by decide +kernel
theorem dX10_clash_55 : decode cX10_clash 55 = .ok (.getfield 52, 3) := by decide +kernel
theorem dX10_clash_58 : decode cX10_clash 58 = .ok (.iload_n 3, 1) := by decide +kernel
theorem dX10_clash_59 : decode cX10_clash 59 = .ok (.aload_n 0, 1) := by decide +kernel
theorem dX10_clash_60 : decode cX10_clash 60 = .ok (.invokevirtual 105, 3) := by decide +kernel
theorem dX10_clash_63 : decode cX10_clash 63 = .ok (.irem, 1) := by decide +kernel
theorem dX10_clash_64 : decode cX10_clash 64 = .ok (.iload_n 3, 1) := by decide +kernel
theorem dX10_clash_65 : decode cX10_clash 65 = .ok (.aload_n 0, 1) := by decide +kernel
theorem dX10_clash_66 : decode cX10_clash 66 = .ok (.invokevirtual 105, 3) := by decide +kernel
theorem dX10_clash_69 : decode cX10_clash 69 = .ok (.idiv, 1) := by decide +kernel
theorem dX10_clash_70 : decode cX10_clash 70 = .ok (.invokestatic 254, 3) := by decide +kernel
theorem dX10_clash_73 : decode cX10_clash 73 = .ok (.iaload, 1) := by decide +kernel
theorem dX10_clash_74 : decode cX10_clash 74 = .ok (.aload_n 0, 1) := by decide +kernel
theorem dX10_clash_75 : decode cX10_clash 75 = .ok (.getfield 55, 3) := by decide +kernel
theorem dX10_clash_78 : decode cX10_clash 78 = .ok (.iload_n 3, 1) := by decide +kernel
theorem dX10_clash_79 : decode cX10_clash 79 = .ok (.aload_n 0, 1) := by decide +kernel
theorem dX10_clash_80 : decode cX10_clash 80 = .ok (.invokevirtual 105, 3) := by decide +kernel
theorem dX10_clash_83 : decode cX10_clash 83 = .ok (.irem, 1) := by decide +kernel
theorem dX10_clash_84 : decode cX10_clash 84 = .ok (.iload_n 3, 1) := by decide +kernel
theorem dX10_clash_85 : decode cX10_clash 85 = .ok (.aload_n 0, 1) := by decide +kernel
theorem dX10_clash_86 : decode cX10_clash 86 = .ok (.invokevirtual 105, 3) := by decide +kernel
theorem dX10_clash_89 : decode cX10_clash 89 = .ok (.idiv, 1) := by decide +kernel
theorem dX10_clash_90 : decode cX10_clash 90 = .ok (.invokestatic 254, 3) := by decide +kernel
theorem dX10_clash_93 : decode cX10_clash 93 = .ok (.iaload, 1) := by decide +kernel
theorem dX10_clash_94 : decode cX10_clash 94 = .ok (.if_icmp .ne 9, 3) := by decide +kernel
theorem dX10_clash_97 : decode cX10_clash 97 = .ok (.iinc 3 1, 3) := by decide +kernel
theorem dX10_clash_100 : decode cX10_clash 100 = .ok (.goto (-46), 3) := by decide +kernel
theorem dX10_clash_103 : decode cX10_clash 103 = .ok (.iload_n 3, 1) := by decide +kernel
theorem dX10_clash_104 : decode cX10_clash 104 = .ok (.aload_n 0, 1) := by decide +kernel
theorem dX10_clash_105 : decode cX10_clash 105 = .ok (.invokevirtual 105, 3) := by decide +kernel
theorem dX10_clash_108 : decode cX10_clash 108 = .ok (.irem, 1) := by decide +kernel
theorem dX10_clash_109 : decode cX10_clash 109 = .ok (.iload_n 3, 1) := by decide +kernel
theorem dX10_clash_110 : decode cX10_clash 110 = .ok (.aload_n 0, 1) := by decide +kernel
theorem dX10_clash_111 : decode cX10_clash 111 = .ok (.invokevirtual 105, 3) := by decide +kernel
theorem dX10_clash_114 : decode cX10_clash 114 = .ok (.idiv, 1) := by decide +kernel
theorem dX10_clash_115 : decode cX10_clash 115 = .ok (.invokestatic 254, 3) := by decide +kernel
theorem dX10_clash_118 : decode cX10_clash 118 = .ok (.istore 4, 2) := by decide +kernel
theorem dX10_clash_120 : decode cX10_clash 120 = .ok (.iload_n 1, 1) := by decide +kernel
theorem dX10_clash_121 : decode cX10_clash 121 = .ok (.ifCond .ne 12, 3) := by decide +kernel
theorem dX10_clash_124 : decode cX10_clash 124 = .ok (.iload_n 3, 1) := by decide +kernel
theorem dX10_clash_125 : decode cX10_clash 125 = .ok (.aload_n 0, 1) := by decide +kernel
theorem dX10_clash_126 : decode cX10_clash 126 = .ok (.invokevirtual 105, 3) := by decide +kernel
theorem dX10_clash_129 : decode cX10_clash 129 = .ok (.idiv, 1) := by decide +kernel
theorem dX10_clash_130 : decode cX10_clash 130 = .ok (.goto 39, 3) := by decide +kernel
theorem dX10_clash_133 : decode cX10_clash 133 = .ok (.iload_n 1, 1) := by decide +kernel
theorem dX10_clash_134 : decode cX10_clash 134 = .ok (.iconst 1, 1) := by decide +kernel
theorem dX10_clash_135 : decode cX10_clash 135 = .ok (.if_icmp .ne 12, 3) := by decide +kernel
theorem dX10_clash_138 : decode cX10_clash 138 = .ok (.iload_n 3, 1) := by decide +kernel
theorem dX10_clash_139 : decode cX10_clash 139 = .ok (.aload_n 0, 1) := by decide +kernel
theorem dX10_clash_140 : decode cX10_clash 140 = .ok (.invokevirtual 105, 3) := by decide +kernel
theorem dX10_clash_143 : decode cX10_clash 143 = .ok (.irem, 1) := by decide +kernel
theorem dX10_clash_144 : decode cX10_clash 144 = .ok (.goto 25, 3) := by decide +kernel
theorem dX10_clash_147 : decode cX10_clash 147 = .ok (.iload_n 1, 1) := by decide +kernel
theorem dX10_clash_148 : decode cX10_clash 148 = .ok (.iconst 2, 1) := by decide +kernel
theorem dX10_clash_149 : decode cX10_clash 149 = .ok (.if_icmp .ne 13, 3) := by decide +kernel
theorem dX10_clash_152 : decode cX10_clash 152 = .ok (.aload_n 0, 1) := by decide +kernel
theorem dX10_clash_153 : decode cX10_clash 153 = .ok (.getfield 52, 3) := by decide +kernel
theorem dX10_clash_156 : decode cX10_clash 156 = .ok (.iload 4, 2) := by decide +kernel
theorem dX10_clash_158 : decode cX10_clash 158 = .ok (.iaload, 1) := by decide +kernel
theorem dX10_clash_159 : decode cX10_clash 159 = .ok (.goto 10, 3) := by decide +kernel
theorem dX10_clash_162 : decode cX10_clash 162 = .ok (.aload_n 0, 1) := by decide +kernel
theorem dX10_clash_163 : decode cX10_clash 163 = .ok (.getfield 55, 3) := by decide +kernel
theorem dX10_clash_166 : decode cX10_clash 166 = .ok (.iload 4, 2) := by decide +kernel
theorem dX10_clash_168 : decode cX10_clash 168 = .ok (.iaload, 1) := by decide +kernel
theorem dX10_clash_169 : decode cX10_clash 169 = .ok (.ireturn, 1) := by decide +kernel
theorem dX10_arePowers_0 : decode cX10_arePowers 0 = .ok (.iload_n 0, 1) := by decide +kernel
theorem dX10_arePowers_1 : decode cX10_arePowers 1 = .ok (.iconst 0, 1) := by decide +kernel
theorem dX10_arePowers_2 : decode cX10_arePowers 2 = .ok (.bipush 22, 2) := by decide +kernel
theorem dX10_arePowers_4 : decode cX10_arePowers 4 = .ok (.invokestatic 101, 3) := by decide +kernel
theorem dX10_arePowers_7 : decode cX10_arePowers 7 = .ok (.ifCond .eq 17, 3) := by decide +kernel
theorem dX10_arePowers_10 : decode cX10_arePowers 10 = .ok (.iload_n 1, 1) := by decide +kernel
theorem dX10_arePowers_11 : decode cX10_arePowers 11 = .ok (.iconst 0, 1) := by decide +kernel
theorem dX10_arePowers_12 : decode cX10_arePowers 12 = .ok (.bipush 22, 2) := by decide +kernel
theorem dX10_arePowers_14 : decode cX10_arePowers 14 = .ok (.invokestatic 101, 3) := by decide +kernel
theorem dX10_arePowers_17 : decode cX10_arePowers 17 = .ok (.ifCond .eq 7, 3) := by decide +kernel
theorem dX10_arePowers_20 : decode cX10_arePowers 20 = .ok (.iconst 1, 1) := by decide +kernel
theorem dX10_arePowers_21 : decode cX10_arePowers 21 = .ok (.goto 4, 3) := by decide +kernel
theorem dX10_arePowers_24 : decode cX10_arePowers 24 = .ok (.iconst 0, 1) := by decide +kernel
theorem dX10_arePowers_25 : decode cX10_arePowers 25 = .ok (.ireturn, 1) := by decide +kernel
theorem dX10_trace_0 : decode cX10_trace 0 = .ok (.aload_n 0, 1) := by decide +kernel
theorem dX10_trace_1 : decode cX10_trace 1 = .ok (.iload_n 1, 1) := by decide +kernel
theorem dX10_trace_2 : decode cX10_trace 2 = .ok (.iload_n 2, 1) := by decide +kernel
theorem dX10_trace_3 : decode cX10_trace 3 = .ok (.invokestatic 368, 3) := by decide +kernel
theorem dX10_trace_6 : decode cX10_trace 6 = .ok (.ifCond .eq 7, 3) := by decide +kernel
theorem dX10_trace_9 : decode cX10_trace 9 = .ok (.iconst 0, 1) := by decide +kernel
theorem dX10_trace_10 : decode cX10_trace 10 = .ok (.goto 4, 3) := by decide +kernel
theorem dX10_trace_13 : decode cX10_trace 13 = .ok (.iconst 1, 1) := by decide +kernel
theorem dX10_trace_14 : decode cX10_trace 14 = .ok (.putfield 91, 3) := by decide +kernel
theorem dX10_trace_17 : decode cX10_trace 17 = .ok (.aload_n 0, 1) := by decide +kernel
theorem dX10_trace_18 : decode cX10_trace 18 = .ok (.getfield 91, 3) := by decide +kernel
theorem dX10_trace_21 : decode cX10_trace 21 = .ok (.ifCond .le 5, 3) := by decide +kernel
theorem dX10_trace_24 : decode cX10_trace 24 = .ok (.iconst 0, 1) := by decide +kernel
theorem dX10_trace_25 : decode cX10_trace 25 = .ok (.ireturn, 1) := by decide +kernel
theorem dX10_trace_26 : decode cX10_trace 26 = .ok (.aload_n 0, 1) := by decide +kernel
theorem dX10_trace_27 : decode cX10_trace 27 = .ok (.invokevirtual 261, 3) := by decide +kernel
theorem dX10_trace_30 : decode cX10_trace 30 = .ok (.aload_n 0, 1) := by decide +kernel
theorem dX10_trace_31 : decode cX10_trace 31 = .ok (.iload_n 1, 1) := by decide +kernel
theorem dX10_trace_32 : decode cX10_trace 32 = .ok (.iload_n 2, 1) := by decide +kernel
theorem dX10_trace_33 : decode cX10_trace 33 = .ok (.invokevirtual 304, 3) := by decide +kernel
theorem dX10_trace_36 : decode cX10_trace 36 = .ok (.ireturn, 1) := by decide +kernel
theorem dX10_normal_0 : decode cX10_normal 0 = .ok (.aload_n 0, 1) := by decide +kernel
theorem dX10_normal_1 : decode cX10_normal 1 = .ok (.aload_n 0, 1) := by decide +kernel
theorem dX10_normal_2 : decode cX10_normal 2 = .ok (.iload_n 3, 1) := by decide +kernel
theorem dX10_normal_3 : decode cX10_normal 3 = .ok (.invokevirtual 353, 3) := by decide +kernel
theorem dX10_normal_6 : decode cX10_normal 6 = .ok (.ifCond .ne 7, 3) := by decide +kernel
theorem dX10_normal_9 : decode cX10_normal 9 = .ok (.iconst 1, 1) := by decide +kernel
theorem dX10_normal_10 : decode cX10_normal 10 = .ok (.goto 16, 3) := by decide +kernel
theorem dX10_normal_13 : decode cX10_normal 13 = .ok (.iload_n 1, 1) := by decide +kernel
theorem dX10_normal_14 : decode cX10_normal 14 = .ok (.iload_n 2, 1) := by decide +kernel
theorem dX10_normal_15 : decode cX10_normal 15 = .ok (.invokestatic 368, 3) := by decide +kernel
theorem dX10_normal_18 : decode cX10_normal 18 = .ok (.ifCond .eq 7, 3) := by decide +kernel
theorem dX10_normal_21 : decode cX10_normal 21 = .ok (.iconst 0, 1) := by decide +kernel
theorem dX10_normal_22 : decode cX10_normal 22 = .ok (.goto 4, 3) := by decide +kernel
theorem dX10_normal_25 : decode cX10_normal 25 = .ok (.iconst 2, 1) := by decide +kernel
theorem dX10_normal_26 : decode cX10_normal 26 = .ok (.putfield 91, 3) := by decide +kernel
theorem dX10_normal_29 : decode cX10_normal 29 = .ok (.aload_n 0, 1) := by decide +kernel
theorem dX10_normal_30 : decode cX10_normal 30 = .ok (.getfield 91, 3) := by decide +kernel
theorem dX10_normal_33 : decode cX10_normal 33 = .ok (.ifCond .le 5, 3) := by decide +kernel
theorem dX10_normal_36 : decode cX10_normal 36 = .ok (.iconst 0, 1) := by decide +kernel
theorem dX10_normal_37 : decode cX10_normal 37 = .ok (.ireturn, 1) := by decide +kernel
theorem dX10_normal_38 : decode cX10_normal 38 = .ok (.aload_n 0, 1) := by decide +kernel
theorem dX10_normal_39 : decode cX10_normal 39 = .ok (.invokevirtual 261, 3) := by decide +kernel
theorem dX10_normal_42 : decode cX10_normal 42 = .ok (.aload_n 0, 1) := by decide +kernel
theorem dX10_normal_43 : decode cX10_normal 43 = .ok (.iload_n 1, 1) := by decide +kernel
theorem dX10_normal_44 : decode cX10_normal 44 = .ok (.iload_n 2, 1) := by decide +kernel
theorem dX10_normal_45 : decode cX10_normal 45 = .ok (.invokevirtual 310, 3) := by decide +kernel
theorem dX10_normal_48 : decode cX10_normal 48 = .ok (.aload_n 0, 1) := by decide +kernel
theorem dX10_normal_49 : decode cX10_normal 49 = .ok (.getfield 61, 3) := by decide +kernel
theorem dX10_normal_52 : decode cX10_normal 52 = .ok (.iload_n 3, 1) := by decide +kernel
theorem dX10_normal_53 : decode cX10_normal 53 = .ok (.iaload, 1) := by decide +kernel
theorem dX10_normal_54 : decode cX10_normal 54 = .ok (.ireturn, 1) := by decide +kernel
theorem dX10_determinant_0 : decode cX10_determinant 0 = .ok (.aload_n 0, 1) := by decide +kernel
theorem dX10_determinant_1 : decode cX10_determinant 1 = .ok (.iload_n 1, 1) := by decide +kernel
theorem dX10_determinant_2 : decode cX10_determinant 2 = .ok (.invokestatic 362, 3) := by decide +kernel
theorem dX10_determinant_5 : decode cX10_determinant 5 = .ok (.ifCond .eq 7, 3) := by decide +kernel
theorem dX10_determinant_8 : decode cX10_determinant 8 = .ok (.iconst 0, 1) := by decide +kernel
theorem dX10_determinant_9 : decode cX10_determinant 9 = .ok (.goto 4, 3) := by decide +kernel
theorem dX10_determinant_12 : decode cX10_determinant 12 = .ok (.iconst 1, 1) := by decide +kernel
theorem dX10_determinant_13 : decode cX10_determinant 13 = .ok (.putfield 91, 3) := by decide +kernel
theorem dX10_determinant_16 : decode cX10_determinant 16 = .ok (.aload_n 0, 1) := by decide +kernel
theorem dX10_determinant_17 : decode cX10_determinant 17 = .ok (.getfield 91, 3) := by decide +kernel
theorem dX10_determinant_20 : decode cX10_determinant 20 = .ok (.ifCond .le 5, 3) := by decide +kernel
theorem dX10_determinant_23 : decode cX10_determinant 23 = .ok (.iconst 0, 1) := by decide +kernel
theorem dX10_determinant_24 : decode cX10_determinant 24 = .ok (.ireturn, 1) := by decide +kernel
theorem dX10_determinant_25 : decode cX10_determinant 25 = .ok (.aload_n 0, 1) := by decide +kernel
theorem dX10_determinant_26 : decode cX10_determinant 26 = .ok (.invokevirtual 261, 3) := by decide +kernel
theorem dX10_determinant_29 : decode cX10_determinant 29 = .ok (.aload_n 0, 1) := by decide +kernel
theorem dX10_determinant_30 : decode cX10_determinant 30 = .ok (.iload_n 1, 1) := by decide +kernel
theorem dX10_determinant_31 : decode cX10_determinant 31 = .ok (.ifCond .ne 10, 3) := by decide +kernel
theorem dX10_determinant_34 : decode cX10_determinant 34 = .ok (.aload_n 0, 1) := by decide +kernel
theorem dX10_determinant_35 : decode cX10_determinant 35 = .ok (.getfield 43, 3) := by decide +kernel
theorem dX10_determinant_38 : decode cX10_determinant 38 = .ok (.goto 7, 3) := by decide +kernel
theorem dX10_determinant_41 : decode cX10_determinant 41 = .ok (.aload_n 0, 1) := by decide +kernel
theorem dX10_determinant_42 : decode cX10_determinant 42 = .ok (.getfield 46, 3) := by decide +kernel
theorem dX10_determinant_45 : decode cX10_determinant 45 = .ok (.iconst 0, 1) := by decide +kernel
theorem dX10_determinant_46 : decode cX10_determinant 46 = .ok (.invokevirtual 298, 3) := by decide +kernel
theorem dX10_determinant_49 : decode cX10_determinant 49 = .ok (.aload_n 0, 1) := by decide +kernel
theorem dX10_determinant_50 : decode cX10_determinant 50 = .ok (.aload_n 0, 1) := by decide +kernel
theorem dX10_determinant_51 : decode cX10_determinant 51 = .ok (.invokevirtual 105, 3) := by decide +kernel
theorem dX10_determinant_54 : decode cX10_determinant 54 = .ok (.invokevirtual 301, 3) := by decide +kernel
theorem dX10_determinant_57 : decode cX10_determinant 57 = .ok (.aload_n 0, 1) := by decide +kernel
theorem dX10_determinant_58 : decode cX10_determinant 58 = .ok (.getfield 286, 3) := by decide +kernel
theorem dX10_determinant_61 : decode cX10_determinant 61 = .ok (.ireturn, 1) := by decide +kernel
theorem dX10_kernel_0 : decode cX10_kernel 0 = .ok (.aload_n 0, 1) := by decide +kernel
theorem dX10_kernel_1 : decode cX10_kernel 1 = .ok (.iload_n 1, 1) := by decide +kernel
theorem dX10_kernel_2 : decode cX10_kernel 2 = .ok (.invokestatic 362, 3) := by decide +kernel
theorem dX10_kernel_5 : decode cX10_kernel 5 = .ok (.ifCond .eq 15, 3) := by decide +kernel
theorem dX10_kernel_8 : decode cX10_kernel 8 = .ok (.aload_n 0, 1) := by decide +kernel
theorem dX10_kernel_9 : decode cX10_kernel 9 = .ok (.iload_n 2, 1) := by decide +kernel
theorem dX10_kernel_10 : decode cX10_kernel 10 = .ok (.invokevirtual 359, 3) := by decide +kernel
theorem dX10_kernel_13 : decode cX10_kernel 13 = .ok (.ifCond .eq 7, 3) := by decide +kernel
theorem dX10_kernel_16 : decode cX10_kernel 16 = .ok (.iconst 0, 1) := by decide +kernel
theorem dX10_kernel_17 : decode cX10_kernel 17 = .ok (.goto 4, 3) := by decide +kernel
theorem dX10_kernel_20 : decode cX10_kernel 20 = .ok (.iconst 1, 1) := by decide +kernel
theorem dX10_kernel_21 : decode cX10_kernel 21 = .ok (.putfield 91, 3) := by decide +kernel
theorem dX10_kernel_24 : decode cX10_kernel 24 = .ok (.aload_n 0, 1) := by decide +kernel
theorem dX10_kernel_25 : decode cX10_kernel 25 = .ok (.getfield 91, 3) := by decide +kernel
theorem dX10_kernel_28 : decode cX10_kernel 28 = .ok (.ifCond .le 5, 3) := by decide +kernel
theorem dX10_kernel_31 : decode cX10_kernel 31 = .ok (.iconst 0, 1) := by decide +kernel
theorem dX10_kernel_32 : decode cX10_kernel 32 = .ok (.ireturn, 1) := by decide +kernel
theorem dX10_kernel_33 : decode cX10_kernel 33 = .ok (.aload_n 0, 1) := by decide +kernel
theorem dX10_kernel_34 : decode cX10_kernel 34 = .ok (.invokevirtual 261, 3) := by decide +kernel
theorem dX10_kernel_37 : decode cX10_kernel 37 = .ok (.iload_n 1, 1) := by decide +kernel
theorem dX10_kernel_38 : decode cX10_kernel 38 = .ok (.ifCond .ne 10, 3) := by decide +kernel
theorem dX10_kernel_41 : decode cX10_kernel 41 = .ok (.aload_n 0, 1) := by decide +kernel
theorem dX10_kernel_42 : decode cX10_kernel 42 = .ok (.getfield 43, 3) := by decide +kernel
theorem dX10_kernel_45 : decode cX10_kernel 45 = .ok (.goto 7, 3) := by decide +kernel
theorem dX10_kernel_48 : decode cX10_kernel 48 = .ok (.aload_n 0, 1) := by decide +kernel
theorem dX10_kernel_49 : decode cX10_kernel 49 = .ok (.getfield 46, 3) := by decide +kernel
theorem dX10_kernel_52 : decode cX10_kernel 52 = .ok (.astore_n 3, 1) := by decide +kernel
theorem dX10_kernel_53 : decode cX10_kernel 53 = .ok (.aload_n 0, 1) := by decide +kernel
theorem dX10_kernel_54 : decode cX10_kernel 54 = .ok (.aload_n 3, 1) := by decide +kernel
theorem dX10_kernel_55 : decode cX10_kernel 55 = .ok (.iload_n 2, 1) := by decide +kernel
theorem dX10_kernel_56 : decode cX10_kernel 56 = .ok (.invokevirtual 295, 3) := by decide +kernel
theorem dX10_kernel_59 : decode cX10_kernel 59 = .ok (.aload_n 0, 1) := by decide +kernel
theorem dX10_kernel_60 : decode cX10_kernel 60 = .ok (.aload_n 3, 1) := by decide +kernel
theorem dX10_kernel_61 : decode cX10_kernel 61 = .ok (.iconst 0, 1) := by decide +kernel
theorem dX10_kernel_62 : decode cX10_kernel 62 = .ok (.invokevirtual 298, 3) := by decide +kernel
theorem dX10_kernel_65 : decode cX10_kernel 65 = .ok (.aload_n 0, 1) := by decide +kernel
theorem dX10_kernel_66 : decode cX10_kernel 66 = .ok (.aload_n 0, 1) := by decide +kernel
theorem dX10_kernel_67 : decode cX10_kernel 67 = .ok (.invokevirtual 105, 3) := by decide +kernel
theorem dX10_kernel_70 : decode cX10_kernel 70 = .ok (.invokevirtual 301, 3) := by decide +kernel
theorem dX10_kernel_73 : decode cX10_kernel 73 = .ok (.aload_n 0, 1) := by decide +kernel
theorem dX10_kernel_74 : decode cX10_kernel 74 = .ok (.invokevirtual 105, 3) := by decide +kernel
theorem dX10_kernel_77 : decode cX10_kernel 77 = .ok (.aload_n 0, 1) := by decide +kernel
theorem dX10_kernel_78 : decode cX10_kernel 78 = .ok (.getfield 283, 3) := by decide +kernel
theorem dX10_kernel_81 : decode cX10_kernel 81 = .ok (.isub, 1) := by decide +kernel
theorem dX10_kernel_82 : decode cX10_kernel 82 = .ok (.ireturn, 1) := by decide +kernel
theorem dX10_zeros_0 : decode cX10_zeros 0 = .ok (.aload_n 0, 1) := by decide +kernel
theorem dX10_zeros_1 : decode cX10_zeros 1 = .ok (.iload_n 1, 1) := by decide +kernel
theorem dX10_zeros_2 : decode cX10_zeros 2 = .ok (.iconst 0, 1) := by decide +kernel
theorem dX10_zeros_3 : decode cX10_zeros 3 = .ok (.iconst 2, 1) := by decide +kernel
theorem dX10_zeros_4 : decode cX10_zeros 4 = .ok (.invokestatic 101, 3) := by decide +kernel
theorem dX10_zeros_7 : decode cX10_zeros 7 = .ok (.ifCond .eq 7, 3) := by decide +kernel
theorem dX10_zeros_10 : decode cX10_zeros 10 = .ok (.iconst 0, 1) := by decide +kernel
theorem dX10_zeros_11 : decode cX10_zeros 11 = .ok (.goto 4, 3) := by decide +kernel
theorem dX10_zeros_14 : decode cX10_zeros 14 = .ok (.iconst 1, 1) := by decide +kernel
theorem dX10_zeros_15 : decode cX10_zeros 15 = .ok (.putfield 91, 3) := by decide +kernel
theorem dX10_zeros_18 : decode cX10_zeros 18 = .ok (.aload_n 0, 1) := by decide +kernel
theorem dX10_zeros_19 : decode cX10_zeros 19 = .ok (.getfield 91, 3) := by decide +kernel
theorem dX10_zeros_22 : decode cX10_zeros 22 = .ok (.ifCond .le 5, 3) := by decide +kernel
theorem dX10_zeros_25 : decode cX10_zeros 25 = .ok (.iconst 0, 1) := by decide +kernel
theorem dX10_zeros_26 : decode cX10_zeros 26 = .ok (.ireturn, 1) := by decide +kernel
theorem dX10_zeros_27 : decode cX10_zeros 27 = .ok (.iload_n 1, 1) := by decide +kernel
theorem dX10_zeros_28 : decode cX10_zeros 28 = .ok (.ifCond .ne 12, 3) := by decide +kernel
theorem dX10_zeros_31 : decode cX10_zeros 31 = .ok (.aload_n 0, 1) := by decide +kernel
theorem dX10_zeros_32 : decode cX10_zeros 32 = .ok (.invokevirtual 328, 3) := by decide +kernel
theorem dX10_zeros_35 : decode cX10_zeros 35 = .ok (.aload_n 0, 1) := by decide +kernel
theorem dX10_zeros_36 : decode cX10_zeros 36 = .ok (.getfield 322, 3) := by decide +kernel
theorem dX10_zeros_39 : decode cX10_zeros 39 = .ok (.ireturn, 1) := by decide +kernel
theorem dX10_zeros_40 : decode cX10_zeros 40 = .ok (.aload_n 0, 1) := by decide +kernel
theorem dX10_zeros_41 : decode cX10_zeros 41 = .ok (.invokevirtual 365, 3) := by decide +kernel
theorem dX10_zeros_44 : decode cX10_zeros 44 = .ok (.ifCond .ne 7, 3) := by decide +kernel
theorem dX10_zeros_47 : decode cX10_zeros 47 = .ok (.iconst (-1), 1) := by decide +kernel
theorem dX10_zeros_48 : decode cX10_zeros 48 = .ok (.goto 19, 3) := by decide +kernel
theorem dX10_zeros_51 : decode cX10_zeros 51 = .ok (.iload_n 1, 1) := by decide +kernel
theorem dX10_zeros_52 : decode cX10_zeros 52 = .ok (.iconst 1, 1) := by decide +kernel
theorem dX10_zeros_53 : decode cX10_zeros 53 = .ok (.if_icmp .ne 10, 3) := by decide +kernel
theorem dX10_zeros_56 : decode cX10_zeros 56 = .ok (.aload_n 0, 1) := by decide +kernel
theorem dX10_zeros_57 : decode cX10_zeros 57 = .ok (.invokevirtual 371, 3) := by decide +kernel
theorem dX10_zeros_60 : decode cX10_zeros 60 = .ok (.goto 7, 3) := by decide +kernel
theorem dX10_zeros_63 : decode cX10_zeros 63 = .ok (.aload_n 0, 1) := by decide +kernel
theorem dX10_zeros_64 : decode cX10_zeros 64 = .ok (.invokevirtual 374, 3) := by decide +kernel
theorem dX10_zeros_67 : decode cX10_zeros 67 = .ok (.ireturn, 1) := by decide +kernel
theorem dX10_zero_0 : decode cX10_zero 0 = .ok (.aload_n 0, 1) := by decide +kernel
theorem dX10_zero_1 : decode cX10_zero 1 = .ok (.invokevirtual 328, 3) := by decide +kernel
theorem dX10_zero_4 : decode cX10_zero 4 = .ok (.aload_n 0, 1) := by decide +kernel
theorem dX10_zero_5 : decode cX10_zero 5 = .ok (.iload_n 1, 1) := by decide +kernel
theorem dX10_zero_6 : decode cX10_zero 6 = .ok (.iconst 0, 1) := by decide +kernel
theorem dX10_zero_7 : decode cX10_zero 7 = .ok (.aload_n 0, 1) := by decide +kernel
theorem dX10_zero_8 : decode cX10_zero 8 = .ok (.getfield 322, 3) := by decide +kernel
theorem dX10_zero_11 : decode cX10_zero 11 = .ok (.iconst 1, 1) := by decide +kernel
theorem dX10_zero_12 : decode cX10_zero 12 = .ok (.isub, 1) := by decide +kernel
theorem dX10_zero_13 : decode cX10_zero 13 = .ok (.invokestatic 101, 3) := by decide +kernel
theorem dX10_zero_16 : decode cX10_zero 16 = .ok (.ifCond .ne 7, 3) := by decide +kernel
theorem dX10_zero_19 : decode cX10_zero 19 = .ok (.iconst 1, 1) := by decide +kernel
theorem dX10_zero_20 : decode cX10_zero 20 = .ok (.goto 17, 3) := by decide +kernel
theorem dX10_zero_23 : decode cX10_zero 23 = .ok (.iload_n 2, 1) := by decide +kernel
theorem dX10_zero_24 : decode cX10_zero 24 = .ok (.iconst 0, 1) := by decide +kernel
theorem dX10_zero_25 : decode cX10_zero 25 = .ok (.iconst 2, 1) := by decide +kernel
theorem dX10_zero_26 : decode cX10_zero 26 = .ok (.invokestatic 101, 3) := by decide +kernel
theorem dX10_zero_29 : decode cX10_zero 29 = .ok (.ifCond .eq 7, 3) := by decide +kernel
theorem dX10_zero_32 : decode cX10_zero 32 = .ok (.iconst 0, 1) := by decide +kernel
theorem dX10_zero_33 : decode cX10_zero 33 = .ok (.goto 4, 3) := by decide +kernel
theorem dX10_zero_36 : decode cX10_zero 36 = .ok (.iconst 2, 1) := by decide +kernel
theorem dX10_zero_37 : decode cX10_zero 37 = .ok (.putfield 91, 3) := by decide +kernel
theorem dX10_zero_40 : decode cX10_zero 40 = .ok (.aload_n 0, 1) := by decide +kernel
theorem dX10_zero_41 : decode cX10_zero 41 = .ok (.getfield 91, 3) := by decide +kernel
theorem dX10_zero_44 : decode cX10_zero 44 = .ok (.ifCond .le 5, 3) := by decide +kernel
theorem dX10_zero_47 : decode cX10_zero 47 = .ok (.iconst 0, 1) := by decide +kernel
theorem dX10_zero_48 : decode cX10_zero 48 = .ok (.ireturn, 1) := by decide +kernel
theorem dX10_zero_49 : decode cX10_zero 49 = .ok (.iload_n 2, 1) := by decide +kernel
theorem dX10_zero_50 : decode cX10_zero 50 = .ok (.ifCond .ne 12, 3) := by decide +kernel
theorem dX10_zero_53 : decode cX10_zero 53 = .ok (.aload_n 0, 1) := by decide +kernel
theorem dX10_zero_54 : decode cX10_zero 54 = .ok (.getfield 79, 3) := by decide +kernel
theorem dX10_zero_57 : decode cX10_zero 57 = .ok (.iload_n 1, 1) := by decide +kernel
theorem dX10_zero_58 : decode cX10_zero 58 = .ok (.iaload, 1) := by decide +kernel
theorem dX10_zero_59 : decode cX10_zero 59 = .ok (.goto 44, 3) := by decide +kernel
theorem dX10_zero_62 : decode cX10_zero 62 = .ok (.iload_n 2, 1) := by decide +kernel
theorem dX10_zero_63 : decode cX10_zero 63 = .ok (.iconst 1, 1) := by decide +kernel
theorem dX10_zero_64 : decode cX10_zero 64 = .ok (.if_icmp .ne 12, 3) := by decide +kernel
theorem dX10_zero_67 : decode cX10_zero 67 = .ok (.aload_n 0, 1) := by decide +kernel
theorem dX10_zero_68 : decode cX10_zero 68 = .ok (.getfield 82, 3) := by decide +kernel
theorem dX10_zero_71 : decode cX10_zero 71 = .ok (.iload_n 1, 1) := by decide +kernel
theorem dX10_zero_72 : decode cX10_zero 72 = .ok (.iaload, 1) := by decide +kernel
theorem dX10_zero_73 : decode cX10_zero 73 = .ok (.goto 30, 3) := by decide +kernel
theorem dX10_zero_76 : decode cX10_zero 76 = .ok (.aload_n 0, 1) := by decide +kernel
theorem dX10_zero_77 : decode cX10_zero 77 = .ok (.invokevirtual 365, 3) := by decide +kernel
theorem dX10_zero_80 : decode cX10_zero 80 = .ok (.ifCond .eq 22, 3) := by decide +kernel
theorem dX10_zero_83 : decode cX10_zero 83 = .ok (.aload_n 0, 1) := by decide +kernel
theorem dX10_zero_84 : decode cX10_zero 84 = .ok (.aload_n 0, 1) := by decide +kernel
theorem dX10_zero_85 : decode cX10_zero 85 = .ok (.getfield 79, 3) := by decide +kernel
theorem dX10_zero_88 : decode cX10_zero 88 = .ok (.iload_n 1, 1) := by decide +kernel
theorem dX10_zero_89 : decode cX10_zero 89 = .ok (.iaload, 1) := by decide +kernel
theorem dX10_zero_90 : decode cX10_zero 90 = .ok (.aload_n 0, 1) := by decide +kernel
theorem dX10_zero_91 : decode cX10_zero 91 = .ok (.getfield 82, 3) := by decide +kernel
theorem dX10_zero_94 : decode cX10_zero 94 = .ok (.iload_n 1, 1) := by decide +kernel
theorem dX10_zero_95 : decode cX10_zero 95 = .ok (.iaload, 1) := by decide +kernel
theorem dX10_zero_96 : decode cX10_zero 96 = .ok (.invokevirtual 331, 3) := by decide +kernel
theorem dX10_zero_99 : decode cX10_zero 99 = .ok (.goto 4, 3) := by decide +kernel
theorem dX10_zero_102 : decode cX10_zero 102 = .ok (.iconst (-1), 1) := by decide +kernel
theorem dX10_zero_103 : decode cX10_zero 103 = .ok (.ireturn, 1) := by decide +kernel
theorem dX10_multiplicity_0 : decode cX10_multiplicity 0 = .ok (.aload_n 0, 1) := by decide +kernel
theorem dX10_multiplicity_1 : decode cX10_multiplicity 1 = .ok (.aload_n 0, 1) := by decide +kernel
theorem dX10_multiplicity_2 : decode cX10_multiplicity 2 = .ok (.iload_n 1, 1) := by decide +kernel
theorem dX10_multiplicity_3 : decode cX10_multiplicity 3 = .ok (.invokevirtual 359, 3) := by decide +kernel
theorem dX10_multiplicity_6 : decode cX10_multiplicity 6 = .ok (.ifCond .eq 15, 3) := by decide +kernel
theorem dX10_multiplicity_9 : decode cX10_multiplicity 9 = .ok (.aload_n 0, 1) := by decide +kernel
theorem dX10_multiplicity_10 : decode cX10_multiplicity 10 = .ok (.iload_n 2, 1) := by decide +kernel
theorem dX10_multiplicity_11 : decode cX10_multiplicity 11 = .ok (.invokevirtual 359, 3) := by decide +kernel
theorem dX10_multiplicity_14 : decode cX10_multiplicity 14 = .ok (.ifCond .eq 7, 3) := by decide +kernel
theorem dX10_multiplicity_17 : decode cX10_multiplicity 17 = .ok (.iconst 0, 1) := by decide +kernel
theorem dX10_multiplicity_18 : decode cX10_multiplicity 18 = .ok (.goto 4, 3) := by decide +kernel
theorem dX10_multiplicity_21 : decode cX10_multiplicity 21 = .ok (.iconst 1, 1) := by decide +kernel
theorem dX10_multiplicity_22 : decode cX10_multiplicity 22 = .ok (.putfield 91, 3) := by decide +kernel
theorem dX10_multiplicity_25 : decode cX10_multiplicity 25 = .ok (.aload_n 0, 1) := by decide +kernel
theorem dX10_multiplicity_26 : decode cX10_multiplicity 26 = .ok (.getfield 91, 3) := by decide +kernel
theorem dX10_multiplicity_29 : decode cX10_multiplicity 29 = .ok (.ifCond .le 5, 3) := by decide +kernel
theorem dX10_multiplicity_32 : decode cX10_multiplicity 32 = .ok (.iconst 0, 1) := by decide +kernel
theorem dX10_multiplicity_33 : decode cX10_multiplicity 33 = .ok (.ireturn, 1) := by decide +kernel
theorem dX10_multiplicity_34 : decode cX10_multiplicity 34 = .ok (.aload_n 0, 1) := by decide +kernel
theorem dX10_multiplicity_35 : decode cX10_multiplicity 35 = .ok (.invokevirtual 365, 3) := by decide +kernel
theorem dX10_multiplicity_38 : decode cX10_multiplicity 38 = .ok (.ifCond .eq 12, 3) := by decide +kernel
theorem dX10_multiplicity_41 : decode cX10_multiplicity 41 = .ok (.aload_n 0, 1) := by decide +kernel
theorem dX10_multiplicity_42 : decode cX10_multiplicity 42 = .ok (.iload_n 1, 1) := by decide +kernel
theorem dX10_multiplicity_43 : decode cX10_multiplicity 43 = .ok (.iload_n 2, 1) := by decide +kernel
theorem dX10_multiplicity_44 : decode cX10_multiplicity 44 = .ok (.invokevirtual 331, 3) := by decide +kernel
theorem dX10_multiplicity_47 : decode cX10_multiplicity 47 = .ok (.goto 4, 3) := by decide +kernel
theorem dX10_multiplicity_50 : decode cX10_multiplicity 50 = .ok (.iconst (-1), 1) := by decide +kernel
theorem dX10_multiplicity_51 : decode cX10_multiplicity 51 = .ok (.ireturn, 1) := by decide +kernel
theorem dX10_share_0 : decode cX10_share 0 = .ok (.aload_n 0, 1) := by decide +kernel
theorem dX10_share_1 : decode cX10_share 1 = .ok (.iconst 0, 1) := by decide +kernel
theorem dX10_share_2 : decode cX10_share 2 = .ok (.putfield 91, 3) := by decide +kernel
theorem dX10_share_5 : decode cX10_share 5 = .ok (.aload_n 0, 1) := by decide +kernel
theorem dX10_share_6 : decode cX10_share 6 = .ok (.invokevirtual 365, 3) := by decide +kernel
theorem dX10_share_9 : decode cX10_share 9 = .ok (.ifCond .eq 17, 3) := by decide +kernel
theorem dX10_share_12 : decode cX10_share 12 = .ok (.aload_n 0, 1) := by decide +kernel
theorem dX10_share_13 : decode cX10_share 13 = .ok (.invokevirtual 374, 3) := by decide +kernel
theorem dX10_share_16 : decode cX10_share 16 = .ok (.i2d, 1) := by decide +kernel
theorem dX10_share_17 : decode cX10_share 17 = .ok (.aload_n 0, 1) := by decide +kernel
theorem dX10_share_18 : decode cX10_share 18 = .ok (.invokevirtual 105, 3) := by decide +kernel
theorem dX10_share_21 : decode cX10_share 21 = .ok (.i2d, 1) := by decide +kernel
theorem dX10_share_22 : decode cX10_share 22 = .ok (.ddiv, 1) := by decide +kernel
theorem dX10_share_23 : decode cX10_share 23 = .ok (.goto 6, 3) := by decide +kernel
theorem dX10_share_26 : decode cX10_share 26 = .ok (.ldc2_w 377, 3) := by decide +kernel
theorem dX10_share_29 : decode cX10_share 29 = .ok (.dreturn, 1) := by decide +kernel
theorem dX10_addPoint_0 : decode cX10_addPoint 0 = .ok (.aload_n 0, 1) := by decide +kernel
theorem dX10_addPoint_1 : decode cX10_addPoint 1 = .ok (.aload_n 0, 1) := by decide +kernel
theorem dX10_addPoint_2 : decode cX10_addPoint 2 = .ok (.iload_n 1, 1) := by decide +kernel
theorem dX10_addPoint_3 : decode cX10_addPoint 3 = .ok (.invokevirtual 359, 3) := by decide +kernel
theorem dX10_addPoint_6 : decode cX10_addPoint 6 = .ok (.ifCond .eq 11, 3) := by decide +kernel
theorem dX10_addPoint_9 : decode cX10_addPoint 9 = .ok (.aload_n 0, 1) := by decide +kernel
theorem dX10_addPoint_10 : decode cX10_addPoint 10 = .ok (.iload_n 2, 1) := by decide +kernel
theorem dX10_addPoint_11 : decode cX10_addPoint 11 = .ok (.invokevirtual 359, 3) := by decide +kernel
theorem dX10_addPoint_14 : decode cX10_addPoint 14 = .ok (.ifCond .ne 7, 3) := by decide +kernel
theorem dX10_addPoint_17 : decode cX10_addPoint 17 = .ok (.iconst 1, 1) := by decide +kernel
theorem dX10_addPoint_18 : decode cX10_addPoint 18 = .ok (.goto 29, 3) := by decide +kernel
theorem dX10_addPoint_21 : decode cX10_addPoint 21 = .ok (.aload_n 0, 1) := by decide +kernel
theorem dX10_addPoint_22 : decode cX10_addPoint 22 = .ok (.iload_n 1, 1) := by decide +kernel
theorem dX10_addPoint_23 : decode cX10_addPoint 23 = .ok (.iload_n 2, 1) := by decide +kernel
theorem dX10_addPoint_24 : decode cX10_addPoint 24 = .ok (.invokevirtual 226, 3) := by decide +kernel
theorem dX10_addPoint_27 : decode cX10_addPoint 27 = .ok (.iconst (-1), 1) := by decide +kernel
theorem dX10_addPoint_28 : decode cX10_addPoint 28 = .ok (.if_icmp .ne 14, 3) := by decide +kernel
theorem dX10_addPoint_31 : decode cX10_addPoint 31 = .ok (.aload_n 0, 1) := by decide +kernel
theorem dX10_addPoint_32 : decode cX10_addPoint 32 = .ok (.getfield 7, 3) := by decide +kernel
theorem dX10_addPoint_35 : decode cX10_addPoint 35 = .ok (.iconst 3, 1) := by decide +kernel
theorem dX10_addPoint_36 : decode cX10_addPoint 36 = .ok (.iaload, 1) := by decide +kernel
theorem dX10_addPoint_37 : decode cX10_addPoint 37 = .ok (.bipush 12, 2) := by decide +kernel
theorem dX10_addPoint_39 : decode cX10_addPoint 39 = .ok (.if_icmp .ne 7, 3) := by decide +kernel
theorem dX10_addPoint_42 : decode cX10_addPoint 42 = .ok (.iconst 2, 1) := by decide +kernel
theorem dX10_addPoint_43 : decode cX10_addPoint 43 = .ok (.goto 4, 3) := by decide +kernel
theorem dX10_addPoint_46 : decode cX10_addPoint 46 = .ok (.iconst 0, 1) := by decide +kernel
theorem dX10_addPoint_47 : decode cX10_addPoint 47 = .ok (.putfield 91, 3) := by decide +kernel
theorem dX10_addPoint_50 : decode cX10_addPoint 50 = .ok (.aload_n 0, 1) := by decide +kernel
theorem dX10_addPoint_51 : decode cX10_addPoint 51 = .ok (.getfield 91, 3) := by decide +kernel
theorem dX10_addPoint_54 : decode cX10_addPoint 54 = .ok (.ifCond .le 5, 3) := by decide +kernel
theorem dX10_addPoint_57 : decode cX10_addPoint 57 = .ok (.iconst 0, 1) := by decide +kernel
theorem dX10_addPoint_58 : decode cX10_addPoint 58 = .ok (.ireturn, 1) := by decide +kernel
theorem dX10_addPoint_59 : decode cX10_addPoint 59 = .ok (.aload_n 0, 1) := by decide +kernel
theorem dX10_addPoint_60 : decode cX10_addPoint 60 = .ok (.iconst 3, 1) := by decide +kernel
theorem dX10_addPoint_61 : decode cX10_addPoint 61 = .ok (.invokevirtual 347, 3) := by decide +kernel
theorem dX10_addPoint_64 : decode cX10_addPoint 64 = .ok (.aload_n 0, 1) := by decide +kernel
theorem dX10_addPoint_65 : decode cX10_addPoint 65 = .ok (.iload_n 1, 1) := by decide +kernel
theorem dX10_addPoint_66 : decode cX10_addPoint 66 = .ok (.iload_n 2, 1) := by decide +kernel
theorem dX10_addPoint_67 : decode cX10_addPoint 67 = .ok (.invokevirtual 229, 3) := by decide +kernel
theorem dX10_addPoint_70 : decode cX10_addPoint 70 = .ok (.ireturn, 1) := by decide +kernel
theorem dX10_isPoint_0 : decode cX10_isPoint 0 = .ok (.iload_n 1, 1) := by decide +kernel
theorem dX10_isPoint_1 : decode cX10_isPoint 1 = .ok (.iconst 0, 1) := by decide +kernel
theorem dX10_isPoint_2 : decode cX10_isPoint 2 = .ok (.aload_n 0, 1) := by decide +kernel
theorem dX10_isPoint_3 : decode cX10_isPoint 3 = .ok (.getfield 7, 3) := by decide +kernel
theorem dX10_isPoint_6 : decode cX10_isPoint 6 = .ok (.iconst 3, 1) := by decide +kernel
theorem dX10_isPoint_7 : decode cX10_isPoint 7 = .ok (.iaload, 1) := by decide +kernel
theorem dX10_isPoint_8 : decode cX10_isPoint 8 = .ok (.iconst 1, 1) := by decide +kernel
theorem dX10_isPoint_9 : decode cX10_isPoint 9 = .ok (.isub, 1) := by decide +kernel
theorem dX10_isPoint_10 : decode cX10_isPoint 10 = .ok (.invokestatic 101, 3) := by decide +kernel
theorem dX10_isPoint_13 : decode cX10_isPoint 13 = .ok (.ireturn, 1) := by decide +kernel
theorem dX10_removePoint_0 : decode cX10_removePoint 0 = .ok (.aload_n 0, 1) := by decide +kernel
theorem dX10_removePoint_1 : decode cX10_removePoint 1 = .ok (.aload_n 0, 1) := by decide +kernel
theorem dX10_removePoint_2 : decode cX10_removePoint 2 = .ok (.iload_n 1, 1) := by decide +kernel
theorem dX10_removePoint_3 : decode cX10_removePoint 3 = .ok (.invokevirtual 379, 3) := by decide +kernel
theorem dX10_removePoint_6 : decode cX10_removePoint 6 = .ok (.ifCond .eq 7, 3) := by decide +kernel
theorem dX10_removePoint_9 : decode cX10_removePoint 9 = .ok (.iconst 0, 1) := by decide +kernel
theorem dX10_removePoint_10 : decode cX10_removePoint 10 = .ok (.goto 4, 3) := by decide +kernel
theorem dX10_removePoint_13 : decode cX10_removePoint 13 = .ok (.iconst 1, 1) := by decide +kernel
theorem dX10_removePoint_14 : decode cX10_removePoint 14 = .ok (.putfield 91, 3) := by decide +kernel
theorem dX10_removePoint_17 : decode cX10_removePoint 17 = .ok (.aload_n 0, 1) := by decide +kernel
theorem dX10_removePoint_18 : decode cX10_removePoint 18 = .ok (.getfield 91, 3) := by decide +kernel
theorem dX10_removePoint_21 : decode cX10_removePoint 21 = .ok (.ifCond .le 5, 3) := by decide +kernel
theorem dX10_removePoint_24 : decode cX10_removePoint 24 = .ok (.iconst 0, 1) := by decide +kernel
theorem dX10_removePoint_25 : decode cX10_removePoint 25 = .ok (.ireturn, 1) := by decide +kernel
theorem dX10_removePoint_26 : decode cX10_removePoint 26 = .ok (.aload_n 0, 1) := by decide +kernel
theorem dX10_removePoint_27 : decode cX10_removePoint 27 = .ok (.iconst 4, 1) := by decide +kernel
theorem dX10_removePoint_28 : decode cX10_removePoint 28 = .ok (.invokevirtual 347, 3) := by decide +kernel
theorem dX10_removePoint_31 : decode cX10_removePoint 31 = .ok (.iload_n 1, 1) := by decide +kernel
theorem dX10_removePoint_32 : decode cX10_removePoint 32 = .ok (.istore_n 2, 1) := by decide +kernel
theorem dX10_removePoint_33 : decode cX10_removePoint 33 = .ok (.iload_n 2, 1) := by decide +kernel
theorem dX10_removePoint_34 : decode cX10_removePoint 34 = .ok (.iconst 1, 1) := by decide +kernel
theorem dX10_removePoint_35 : decode cX10_removePoint 35 = .ok (.iadd, 1) := by decide +kernel
theorem dX10_removePoint_36 : decode cX10_removePoint 36 = .ok (.aload_n 0, 1) := by decide +kernel
theorem dX10_removePoint_37 : decode cX10_removePoint 37 = .ok (.getfield 7, 3) := by decide +kernel
theorem dX10_removePoint_40 : decode cX10_removePoint 40 = .ok (.iconst 3, 1) := by decide +kernel
theorem dX10_removePoint_41 : decode cX10_removePoint 41 = .ok (.iaload, 1) := by decide +kernel
theorem dX10_removePoint_42 : decode cX10_removePoint 42 = .ok (.if_icmp .ge 53, 3) := by decide +kernel
theorem dX10_removePoint_45 : decode cX10_removePoint 45 = .ok (.aload_n 0, 1) := by decide +kernel
theorem dX10_removePoint_46 : decode cX10_removePoint 46 = .ok (.getfield 7, 3) := by decide +kernel
theorem dX10_removePoint_49 : decode cX10_removePoint 49 = .ok (.sipush 224, 3) := by decide +kernel
theorem dX10_removePoint_52 : decode cX10_removePoint 52 = .ok (.iload_n 2, 1) := by decide +kernel
theorem dX10_removePoint_53 : decode cX10_removePoint 53 = .ok (.iadd, 1) := by decide +kernel
theorem dX10_removePoint_54 : decode cX10_removePoint 54 = .ok (.aload_n 0, 1) := by decide +kernel
theorem dX10_removePoint_55 : decode cX10_removePoint 55 = .ok (.getfield 7, 3) := by decide +kernel
theorem dX10_removePoint_58 : decode cX10_removePoint 58 = .ok (.sipush 224, 3) := by decide +kernel
theorem dX10_removePoint_61 : decode cX10_removePoint 61 = .ok (.iload_n 2, 1) := by decide +kernel
theorem dX10_removePoint_62 : decode cX10_removePoint 62 = .ok (.iadd, 1) := by decide +kernel
theorem dX10_removePoint_63 : decode cX10_removePoint 63 = .ok (.iconst 1, 1) := by decide +kernel
theorem dX10_removePoint_64 : decode cX10_removePoint 64 = .ok (.iadd, 1) := by decide +kernel
theorem dX10_removePoint_65 : decode cX10_removePoint 65 = .ok (.iaload, 1) := by decide +kernel
theorem dX10_removePoint_66 : decode cX10_removePoint 66 = .ok (.iastore, 1) := by decide +kernel
theorem dX10_removePoint_67 : decode cX10_removePoint 67 = .ok (.aload_n 0, 1) := by decide +kernel
theorem dX10_removePoint_68 : decode cX10_removePoint 68 = .ok (.getfield 7, 3) := by decide +kernel
theorem dX10_removePoint_71 : decode cX10_removePoint 71 = .ok (.sipush 236, 3) := by decide +kernel
theorem dX10_removePoint_74 : decode cX10_removePoint 74 = .ok (.iload_n 2, 1) := by decide +kernel
theorem dX10_removePoint_75 : decode cX10_removePoint 75 = .ok (.iadd, 1) := by decide +kernel
theorem dX10_removePoint_76 : decode cX10_removePoint 76 = .ok (.aload_n 0, 1) := by decide +kernel
theorem dX10_removePoint_77 : decode cX10_removePoint 77 = .ok (.getfield 7, 3) := by decide +kernel
theorem dX10_removePoint_80 : decode cX10_removePoint 80 = .ok (.sipush 236, 3) := by decide +kernel
theorem dX10_removePoint_83 : decode cX10_removePoint 83 = .ok (.iload_n 2, 1) := by decide +kernel
theorem dX10_removePoint_84 : decode cX10_removePoint 84 = .ok (.iadd, 1) := by decide +kernel
theorem dX10_removePoint_85 : decode cX10_removePoint 85 = .ok (.iconst 1, 1) := by decide +kernel
theorem dX10_removePoint_86 : decode cX10_removePoint 86 = .ok (.iadd, 1) := by decide +kernel
theorem dX10_removePoint_87 : decode cX10_removePoint 87 = .ok (.iaload, 1) := by decide +kernel
theorem dX10_removePoint_88 : decode cX10_removePoint 88 = .ok (.iastore, 1) := by decide +kernel
theorem dX10_removePoint_89 : decode cX10_removePoint 89 = .ok (.iinc 2 1, 3) := by decide +kernel
theorem dX10_removePoint_92 : decode cX10_removePoint 92 = .ok (.goto (-59), 3) := by decide +kernel
theorem dX10_removePoint_95 : decode cX10_removePoint 95 = .ok (.aload_n 0, 1) := by decide +kernel
theorem dX10_removePoint_96 : decode cX10_removePoint 96 = .ok (.getfield 7, 3) := by decide +kernel
theorem dX10_removePoint_99 : decode cX10_removePoint 99 = .ok (.iconst 3, 1) := by decide +kernel
theorem dX10_removePoint_100 : decode cX10_removePoint 100 = .ok (.dup2, 1) := by decide +kernel
theorem dX10_removePoint_101 : decode cX10_removePoint 101 = .ok (.iaload, 1) := by decide +kernel
theorem dX10_removePoint_102 : decode cX10_removePoint 102 = .ok (.iconst 1, 1) := by decide +kernel
theorem dX10_removePoint_103 : decode cX10_removePoint 103 = .ok (.isub, 1) := by decide +kernel
theorem dX10_removePoint_104 : decode cX10_removePoint 104 = .ok (.iastore, 1) := by decide +kernel
theorem dX10_removePoint_105 : decode cX10_removePoint 105 = .ok (.aload_n 0, 1) := by decide +kernel
theorem dX10_removePoint_106 : decode cX10_removePoint 106 = .ok (.getfield 7, 3) := by decide +kernel
theorem dX10_removePoint_109 : decode cX10_removePoint 109 = .ok (.iconst 3, 1) := by decide +kernel
theorem dX10_removePoint_110 : decode cX10_removePoint 110 = .ok (.iaload, 1) := by decide +kernel
theorem dX10_removePoint_111 : decode cX10_removePoint 111 = .ok (.ireturn, 1) := by decide +kernel
theorem dX10_point_0 : decode cX10_point 0 = .ok (.aload_n 0, 1) := by decide +kernel
theorem dX10_point_1 : decode cX10_point 1 = .ok (.aload_n 0, 1) := by decide +kernel
theorem dX10_point_2 : decode cX10_point 2 = .ok (.iload_n 1, 1) := by decide +kernel
theorem dX10_point_3 : decode cX10_point 3 = .ok (.invokevirtual 379, 3) := by decide +kernel
theorem dX10_point_6 : decode cX10_point 6 = .ok (.ifCond .ne 7, 3) := by decide +kernel
theorem dX10_point_9 : decode cX10_point 9 = .ok (.iconst 1, 1) := by decide +kernel
theorem dX10_point_10 : decode cX10_point 10 = .ok (.goto 17, 3) := by decide +kernel
theorem dX10_point_13 : decode cX10_point 13 = .ok (.iload_n 2, 1) := by decide +kernel
theorem dX10_point_14 : decode cX10_point 14 = .ok (.iconst 0, 1) := by decide +kernel
theorem dX10_point_15 : decode cX10_point 15 = .ok (.iconst 2, 1) := by decide +kernel
theorem dX10_point_16 : decode cX10_point 16 = .ok (.invokestatic 101, 3) := by decide +kernel
theorem dX10_point_19 : decode cX10_point 19 = .ok (.ifCond .eq 7, 3) := by decide +kernel
theorem dX10_point_22 : decode cX10_point 22 = .ok (.iconst 0, 1) := by decide +kernel
theorem dX10_point_23 : decode cX10_point 23 = .ok (.goto 4, 3) := by decide +kernel
theorem dX10_point_26 : decode cX10_point 26 = .ok (.iconst 2, 1) := by decide +kernel
theorem dX10_point_27 : decode cX10_point 27 = .ok (.putfield 91, 3) := by decide +kernel
theorem dX10_point_30 : decode cX10_point 30 = .ok (.aload_n 0, 1) := by decide +kernel
theorem dX10_point_31 : decode cX10_point 31 = .ok (.getfield 91, 3) := by decide +kernel
theorem dX10_point_34 : decode cX10_point 34 = .ok (.ifCond .le 5, 3) := by decide +kernel
theorem dX10_point_37 : decode cX10_point 37 = .ok (.iconst 0, 1) := by decide +kernel
theorem dX10_point_38 : decode cX10_point 38 = .ok (.ireturn, 1) := by decide +kernel
theorem dX10_point_39 : decode cX10_point 39 = .ok (.aload_n 0, 1) := by decide +kernel
theorem dX10_point_40 : decode cX10_point 40 = .ok (.getfield 7, 3) := by decide +kernel
theorem dX10_point_43 : decode cX10_point 43 = .ok (.sipush 224, 3) := by decide +kernel
theorem dX10_point_46 : decode cX10_point 46 = .ok (.iload_n 1, 1) := by decide +kernel
theorem dX10_point_47 : decode cX10_point 47 = .ok (.iadd, 1) := by decide +kernel
theorem dX10_point_48 : decode cX10_point 48 = .ok (.iaload, 1) := by decide +kernel
theorem dX10_point_49 : decode cX10_point 49 = .ok (.istore_n 3, 1) := by decide +kernel
theorem dX10_point_50 : decode cX10_point 50 = .ok (.aload_n 0, 1) := by decide +kernel
theorem dX10_point_51 : decode cX10_point 51 = .ok (.getfield 7, 3) := by decide +kernel
theorem dX10_point_54 : decode cX10_point 54 = .ok (.sipush 236, 3) := by decide +kernel
theorem dX10_point_57 : decode cX10_point 57 = .ok (.iload_n 1, 1) := by decide +kernel
theorem dX10_point_58 : decode cX10_point 58 = .ok (.iadd, 1) := by decide +kernel
theorem dX10_point_59 : decode cX10_point 59 = .ok (.iaload, 1) := by decide +kernel
theorem dX10_point_60 : decode cX10_point 60 = .ok (.istore 4, 2) := by decide +kernel
theorem dX10_point_62 : decode cX10_point 62 = .ok (.iload_n 2, 1) := by decide +kernel
theorem dX10_point_63 : decode cX10_point 63 = .ok (.ifCond .ne 7, 3) := by decide +kernel
theorem dX10_point_66 : decode cX10_point 66 = .ok (.iload_n 3, 1) := by decide +kernel
theorem dX10_point_67 : decode cX10_point 67 = .ok (.goto 28, 3) := by decide +kernel
theorem dX10_point_70 : decode cX10_point 70 = .ok (.iload_n 2, 1) := by decide +kernel
theorem dX10_point_71 : decode cX10_point 71 = .ok (.iconst 1, 1) := by decide +kernel
theorem dX10_point_72 : decode cX10_point 72 = .ok (.if_icmp .ne 8, 3) := by decide +kernel
theorem dX10_point_75 : decode cX10_point 75 = .ok (.iload 4, 2) := by decide +kernel
theorem dX10_point_77 : decode cX10_point 77 = .ok (.goto 18, 3) := by decide +kernel
theorem dX10_point_80 : decode cX10_point 80 = .ok (.aload_n 0, 1) := by decide +kernel
theorem dX10_point_81 : decode cX10_point 81 = .ok (.iload_n 3, 1) := by decide +kernel
theorem dX10_point_82 : decode cX10_point 82 = .ok (.iload 4, 2) := by decide +kernel
theorem dX10_point_84 : decode cX10_point 84 = .ok (.invokevirtual 325, 3) := by decide +kernel
theorem dX10_point_87 : decode cX10_point 87 = .ok (.ifCond .eq 7, 3) := by decide +kernel
theorem dX10_point_90 : decode cX10_point 90 = .ok (.iconst 1, 1) := by decide +kernel
theorem dX10_point_91 : decode cX10_point 91 = .ok (.goto 4, 3) := by decide +kernel
theorem dX10_point_94 : decode cX10_point 94 = .ok (.iconst 0, 1) := by decide +kernel
theorem dX10_point_95 : decode cX10_point 95 = .ok (.ireturn, 1) := by decide +kernel
theorem dX10_valueAt_0 : decode cX10_valueAt 0 = .ok (.aload_n 0, 1) := by decide +kernel
theorem dX10_valueAt_1 : decode cX10_valueAt 1 = .ok (.aload_n 0, 1) := by decide +kernel
theorem dX10_valueAt_2 : decode cX10_valueAt 2 = .ok (.getfield 7, 3) := by decide +kernel
theorem dX10_valueAt_5 : decode cX10_valueAt 5 = .ok (.sipush 224, 3) := by decide +kernel
theorem dX10_valueAt_8 : decode cX10_valueAt 8 = .ok (.iload_n 3, 1) := by decide +kernel
theorem dX10_valueAt_9 : decode cX10_valueAt 9 = .ok (.iadd, 1) := by decide +kernel
theorem dX10_valueAt_10 : decode cX10_valueAt 10 = .ok (.iaload, 1) := by decide +kernel
theorem dX10_valueAt_11 : decode cX10_valueAt 11 = .ok (.aload_n 0, 1) := by decide +kernel
theorem dX10_valueAt_12 : decode cX10_valueAt 12 = .ok (.getfield 7, 3) := by decide +kernel
theorem dX10_valueAt_15 : decode cX10_valueAt 15 = .ok (.sipush 236, 3) := by decide +kernel
theorem dX10_valueAt_18 : decode cX10_valueAt 18 = .ok (.iload_n 3, 1) := by decide +kernel
theorem dX10_valueAt_19 : decode cX10_valueAt 19 = .ok (.iadd, 1) := by decide +kernel
theorem dX10_valueAt_20 : decode cX10_valueAt 20 = .ok (.iaload, 1) := by decide +kernel
theorem dX10_valueAt_21 : decode cX10_valueAt 21 = .ok (.invokevirtual 316, 3) := by decide +kernel
theorem dX10_valueAt_24 : decode cX10_valueAt 24 = .ok (.aload_n 0, 1) := by decide +kernel
theorem dX10_valueAt_25 : decode cX10_valueAt 25 = .ok (.getfield 73, 3) := by decide +kernel
theorem dX10_valueAt_28 : decode cX10_valueAt 28 = .ok (.iload_n 1, 1) := by decide +kernel
theorem dX10_valueAt_29 : decode cX10_valueAt 29 = .ok (.iaload, 1) := by decide +kernel
theorem dX10_valueAt_30 : decode cX10_valueAt 30 = .ok (.aload_n 0, 1) := by decide +kernel
theorem dX10_valueAt_31 : decode cX10_valueAt 31 = .ok (.getfield 76, 3) := by decide +kernel
theorem dX10_valueAt_34 : decode cX10_valueAt 34 = .ok (.iload_n 2, 1) := by decide +kernel
theorem dX10_valueAt_35 : decode cX10_valueAt 35 = .ok (.iaload, 1) := by decide +kernel
theorem dX10_valueAt_36 : decode cX10_valueAt 36 = .ok (.imul, 1) := by decide +kernel
theorem dX10_valueAt_37 : decode cX10_valueAt 37 = .ok (.aload_n 0, 1) := by decide +kernel
theorem dX10_valueAt_38 : decode cX10_valueAt 38 = .ok (.invokevirtual 97, 3) := by decide +kernel
theorem dX10_valueAt_41 : decode cX10_valueAt 41 = .ok (.irem, 1) := by decide +kernel
theorem dX10_valueAt_42 : decode cX10_valueAt 42 = .ok (.ireturn, 1) := by decide +kernel
theorem dX10_isFresh_0 : decode cX10_isFresh 0 = .ok (.aload_n 0, 1) := by decide +kernel
theorem dX10_isFresh_1 : decode cX10_isFresh 1 = .ok (.getfield 7, 3) := by decide +kernel
theorem dX10_isFresh_4 : decode cX10_isFresh 4 = .ok (.iconst 3, 1) := by decide +kernel
theorem dX10_isFresh_5 : decode cX10_isFresh 5 = .ok (.iaload, 1) := by decide +kernel
theorem dX10_isFresh_6 : decode cX10_isFresh 6 = .ok (.istore_n 3, 1) := by decide +kernel
theorem dX10_isFresh_7 : decode cX10_isFresh 7 = .ok (.iconst 0, 1) := by decide +kernel
theorem dX10_isFresh_8 : decode cX10_isFresh 8 = .ok (.istore 4, 2) := by decide +kernel
theorem dX10_isFresh_10 : decode cX10_isFresh 10 = .ok (.iload 4, 2) := by decide +kernel
theorem dX10_isFresh_12 : decode cX10_isFresh 12 = .ok (.aload_n 0, 1) := by decide +kernel
theorem dX10_isFresh_13 : decode cX10_isFresh 13 = .ok (.invokevirtual 105, 3) := by decide +kernel
theorem dX10_isFresh_16 : decode cX10_isFresh 16 = .ok (.if_icmp .gt 81, 3) := by decide +kernel
theorem dX10_isFresh_19 : decode cX10_isFresh 19 = .ok (.iconst 0, 1) := by decide +kernel
theorem dX10_isFresh_20 : decode cX10_isFresh 20 = .ok (.istore 5, 2) := by decide +kernel
theorem dX10_isFresh_22 : decode cX10_isFresh 22 = .ok (.iload 5, 2) := by decide +kernel
theorem dX10_isFresh_24 : decode cX10_isFresh 24 = .ok (.iload_n 3, 1) := by decide +kernel
theorem dX10_isFresh_25 : decode cX10_isFresh 25 = .ok (.if_icmp .ge 66, 3) := by decide +kernel
theorem dX10_isFresh_28 : decode cX10_isFresh 28 = .ok (.aload_n 0, 1) := by decide +kernel
theorem dX10_isFresh_29 : decode cX10_isFresh 29 = .ok (.getfield 58, 3) := by decide +kernel
theorem dX10_isFresh_32 : decode cX10_isFresh 32 = .ok (.iload 4, 2) := by decide +kernel
theorem dX10_isFresh_34 : decode cX10_isFresh 34 = .ok (.iload 5, 2) := by decide +kernel
theorem dX10_isFresh_36 : decode cX10_isFresh 36 = .ok (.invokestatic 254, 3) := by decide +kernel
theorem dX10_isFresh_39 : decode cX10_isFresh 39 = .ok (.iload 4, 2) := by decide +kernel
theorem dX10_isFresh_41 : decode cX10_isFresh 41 = .ok (.aload_n 0, 1) := by decide +kernel
theorem dX10_isFresh_42 : decode cX10_isFresh 42 = .ok (.invokevirtual 105, 3) := by decide +kernel
theorem dX10_isFresh_45 : decode cX10_isFresh 45 = .ok (.if_icmp .ge 31, 3) := by decide +kernel
theorem dX10_isFresh_48 : decode cX10_isFresh 48 = .ok (.aload_n 0, 1) := by decide +kernel
theorem dX10_isFresh_49 : decode cX10_isFresh 49 = .ok (.aload_n 0, 1) := by decide +kernel
theorem dX10_isFresh_50 : decode cX10_isFresh 50 = .ok (.getfield 7, 3) := by decide +kernel
theorem dX10_isFresh_53 : decode cX10_isFresh 53 = .ok (.iconst 4, 1) := by decide +kernel
theorem dX10_isFresh_54 : decode cX10_isFresh 54 = .ok (.iload 4, 2) := by decide +kernel
theorem dX10_isFresh_56 : decode cX10_isFresh 56 = .ok (.iadd, 1) := by decide +kernel
theorem dX10_isFresh_57 : decode cX10_isFresh 57 = .ok (.iaload, 1) := by decide +kernel
theorem dX10_isFresh_58 : decode cX10_isFresh 58 = .ok (.aload_n 0, 1) := by decide +kernel
theorem dX10_isFresh_59 : decode cX10_isFresh 59 = .ok (.getfield 7, 3) := by decide +kernel
theorem dX10_isFresh_62 : decode cX10_isFresh 62 = .ok (.bipush 16, 2) := by decide +kernel
theorem dX10_isFresh_64 : decode cX10_isFresh 64 = .ok (.iload 4, 2) := by decide +kernel
theorem dX10_isFresh_66 : decode cX10_isFresh 66 = .ok (.iadd, 1) := by decide +kernel
theorem dX10_isFresh_67 : decode cX10_isFresh 67 = .ok (.iaload, 1) := by decide +kernel
theorem dX10_isFresh_68 : decode cX10_isFresh 68 = .ok (.iload 5, 2) := by decide +kernel
theorem dX10_isFresh_70 : decode cX10_isFresh 70 = .ok (.invokevirtual 382, 3) := by decide +kernel
theorem dX10_isFresh_73 : decode cX10_isFresh 73 = .ok (.goto 11, 3) := by decide +kernel
theorem dX10_isFresh_76 : decode cX10_isFresh 76 = .ok (.aload_n 0, 1) := by decide +kernel
theorem dX10_isFresh_77 : decode cX10_isFresh 77 = .ok (.iload_n 1, 1) := by decide +kernel
theorem dX10_isFresh_78 : decode cX10_isFresh 78 = .ok (.iload_n 2, 1) := by decide +kernel
theorem dX10_isFresh_79 : decode cX10_isFresh 79 = .ok (.iload 5, 2) := by decide +kernel
theorem dX10_isFresh_81 : decode cX10_isFresh 81 = .ok (.invokevirtual 382, 3) := by decide +kernel
theorem dX10_isFresh_84 : decode cX10_isFresh 84 = .ok (.iastore, 1) := by decide +kernel
theorem dX10_isFresh_85 : decode cX10_isFresh 85 = .ok (.iinc 5 1, 3) := by decide +kernel
theorem dX10_isFresh_88 : decode cX10_isFresh 88 = .ok (.goto (-66), 3) := by decide +kernel
theorem dX10_isFresh_91 : decode cX10_isFresh 91 = .ok (.iinc 4 1, 3) := by decide +kernel
theorem dX10_isFresh_94 : decode cX10_isFresh 94 = .ok (.goto (-84), 3) := by decide +kernel
theorem dX10_isFresh_97 : decode cX10_isFresh 97 = .ok (.aload_n 0, 1) := by decide +kernel
theorem dX10_isFresh_98 : decode cX10_isFresh 98 = .ok (.aload_n 0, 1) := by decide +kernel
theorem dX10_isFresh_99 : decode cX10_isFresh 99 = .ok (.invokevirtual 105, 3) := by decide +kernel
theorem dX10_isFresh_102 : decode cX10_isFresh 102 = .ok (.iconst 1, 1) := by decide +kernel
theorem dX10_isFresh_103 : decode cX10_isFresh 103 = .ok (.iadd, 1) := by decide +kernel
theorem dX10_isFresh_104 : decode cX10_isFresh 104 = .ok (.iload_n 3, 1) := by decide +kernel
theorem dX10_isFresh_105 : decode cX10_isFresh 105 = .ok (.invokevirtual 386, 3) := by decide +kernel
theorem dX10_isFresh_108 : decode cX10_isFresh 108 = .ok (.aload_n 0, 1) := by decide +kernel
theorem dX10_isFresh_109 : decode cX10_isFresh 109 = .ok (.invokevirtual 105, 3) := by decide +kernel
theorem dX10_isFresh_112 : decode cX10_isFresh 112 = .ok (.iconst 1, 1) := by decide +kernel
theorem dX10_isFresh_113 : decode cX10_isFresh 113 = .ok (.iadd, 1) := by decide +kernel
theorem dX10_isFresh_114 : decode cX10_isFresh 114 = .ok (.if_icmp .ne 7, 3) := by decide +kernel
theorem dX10_isFresh_117 : decode cX10_isFresh 117 = .ok (.iconst 1, 1) := by decide +kernel
theorem dX10_isFresh_118 : decode cX10_isFresh 118 = .ok (.goto 4, 3) := by decide +kernel
theorem dX10_isFresh_121 : decode cX10_isFresh 121 = .ok (.iconst 0, 1) := by decide +kernel
theorem dX10_isFresh_122 : decode cX10_isFresh 122 = .ok (.ireturn, 1) := by decide +kernel
theorem dX10_rankOf_0 : decode cX10_rankOf 0 = .ok (.iconst 0, 1) := by decide +kernel
theorem dX10_rankOf_1 : decode cX10_rankOf 1 = .ok (.istore_n 3, 1) := by decide +kernel
theorem dX10_rankOf_2 : decode cX10_rankOf 2 = .ok (.iconst 0, 1) := by decide +kernel
theorem dX10_rankOf_3 : decode cX10_rankOf 3 = .ok (.istore 4, 2) := by decide +kernel
theorem dX10_rankOf_5 : decode cX10_rankOf 5 = .ok (.iload 4, 2) := by decide +kernel
theorem dX10_rankOf_7 : decode cX10_rankOf 7 = .ok (.iload_n 2, 1) := by decide +kernel
theorem dX10_rankOf_8 : decode cX10_rankOf 8 = .ok (.if_icmp .ge 173, 3) := by decide +kernel
theorem dX10_rankOf_11 : decode cX10_rankOf 11 = .ok (.iload_n 3, 1) := by decide +kernel
theorem dX10_rankOf_12 : decode cX10_rankOf 12 = .ok (.istore 5, 2) := by decide +kernel
theorem dX10_rankOf_14 : decode cX10_rankOf 14 = .ok (.iload 5, 2) := by decide +kernel
theorem dX10_rankOf_16 : decode cX10_rankOf 16 = .ok (.iload_n 1, 1) := by decide +kernel
theorem dX10_rankOf_17 : decode cX10_rankOf 17 = .ok (.if_icmp .ge 24, 3) := by decide +kernel
theorem dX10_rankOf_20 : decode cX10_rankOf 20 = .ok (.aload_n 0, 1) := by decide +kernel
theorem dX10_rankOf_21 : decode cX10_rankOf 21 = .ok (.getfield 58, 3) := by decide +kernel
theorem dX10_rankOf_24 : decode cX10_rankOf 24 = .ok (.iload 5, 2) := by decide +kernel
theorem dX10_rankOf_26 : decode cX10_rankOf 26 = .ok (.iload 4, 2) := by decide +kernel
theorem dX10_rankOf_28 : decode cX10_rankOf 28 = .ok (.invokestatic 254, 3) := by decide +kernel
theorem dX10_rankOf_31 : decode cX10_rankOf 31 = .ok (.iaload, 1) := by decide +kernel
theorem dX10_rankOf_32 : decode cX10_rankOf 32 = .ok (.ifCond .ne 9, 3) := by decide +kernel
theorem dX10_rankOf_35 : decode cX10_rankOf 35 = .ok (.iinc 5 1, 3) := by decide +kernel
theorem dX10_rankOf_38 : decode cX10_rankOf 38 = .ok (.goto (-24), 3) := by decide +kernel
theorem dX10_rankOf_41 : decode cX10_rankOf 41 = .ok (.iload 5, 2) := by decide +kernel
theorem dX10_rankOf_43 : decode cX10_rankOf 43 = .ok (.iload_n 1, 1) := by decide +kernel
theorem dX10_rankOf_44 : decode cX10_rankOf 44 = .ok (.if_icmp .ne 6, 3) := by decide +kernel
theorem dX10_rankOf_47 : decode cX10_rankOf 47 = .ok (.goto 128, 3) := by decide +kernel
theorem dX10_rankOf_50 : decode cX10_rankOf 50 = .ok (.aload_n 0, 1) := by decide +kernel
theorem dX10_rankOf_51 : decode cX10_rankOf 51 = .ok (.iload 5, 2) := by decide +kernel
theorem dX10_rankOf_53 : decode cX10_rankOf 53 = .ok (.iload_n 3, 1) := by decide +kernel
theorem dX10_rankOf_54 : decode cX10_rankOf 54 = .ok (.invokevirtual 289, 3) := by decide +kernel
theorem dX10_rankOf_57 : decode cX10_rankOf 57 = .ok (.aload_n 0, 1) := by decide +kernel
theorem dX10_rankOf_58 : decode cX10_rankOf 58 = .ok (.aload_n 0, 1) := by decide +kernel
theorem dX10_rankOf_59 : decode cX10_rankOf 59 = .ok (.getfield 58, 3) := by decide +kernel
theorem dX10_rankOf_62 : decode cX10_rankOf 62 = .ok (.iload_n 3, 1) := by decide +kernel
theorem dX10_rankOf_63 : decode cX10_rankOf 63 = .ok (.iload 4, 2) := by decide +kernel
theorem dX10_rankOf_65 : decode cX10_rankOf 65 = .ok (.invokestatic 254, 3) := by decide +kernel
theorem dX10_rankOf_68 : decode cX10_rankOf 68 = .ok (.iaload, 1) := by decide +kernel
theorem dX10_rankOf_69 : decode cX10_rankOf 69 = .ok (.invokevirtual 292, 3) := by decide +kernel
theorem dX10_rankOf_72 : decode cX10_rankOf 72 = .ok (.istore 6, 2) := by decide +kernel
theorem dX10_rankOf_74 : decode cX10_rankOf 74 = .ok (.iload_n 3, 1) := by decide +kernel
theorem dX10_rankOf_75 : decode cX10_rankOf 75 = .ok (.iconst 1, 1) := by decide +kernel
theorem dX10_rankOf_76 : decode cX10_rankOf 76 = .ok (.iadd, 1) := by decide +kernel
theorem dX10_rankOf_77 : decode cX10_rankOf 77 = .ok (.istore 7, 2) := by decide +kernel
theorem dX10_rankOf_79 : decode cX10_rankOf 79 = .ok (.iload 7, 2) := by decide +kernel
theorem dX10_rankOf_81 : decode cX10_rankOf 81 = .ok (.iload_n 1, 1) := by decide +kernel
theorem dX10_rankOf_82 : decode cX10_rankOf 82 = .ok (.if_icmp .ge 90, 3) := by decide +kernel
theorem dX10_rankOf_85 : decode cX10_rankOf 85 = .ok (.aload_n 0, 1) := by decide +kernel
theorem dX10_rankOf_86 : decode cX10_rankOf 86 = .ok (.getfield 58, 3) := by decide +kernel
theorem dX10_rankOf_89 : decode cX10_rankOf 89 = .ok (.iload 7, 2) := by decide +kernel
theorem dX10_rankOf_91 : decode cX10_rankOf 91 = .ok (.iload 4, 2) := by decide +kernel
theorem dX10_rankOf_93 : decode cX10_rankOf 93 = .ok (.invokestatic 254, 3) := by decide +kernel
theorem dX10_rankOf_96 : decode cX10_rankOf 96 = .ok (.iaload, 1) := by decide +kernel
theorem dX10_rankOf_97 : decode cX10_rankOf 97 = .ok (.iload 6, 2) := by decide +kernel
theorem dX10_rankOf_99 : decode cX10_rankOf 99 = .ok (.imul, 1) := by decide +kernel
theorem dX10_rankOf_100 : decode cX10_rankOf 100 = .ok (.aload_n 0, 1) := by decide +kernel
theorem dX10_rankOf_101 : decode cX10_rankOf 101 = .ok (.invokevirtual 97, 3) := by decide +kernel
theorem dX10_rankOf_104 : decode cX10_rankOf 104 = .ok (.irem, 1) := by decide +kernel
theorem dX10_rankOf_105 : decode cX10_rankOf 105 = .ok (.istore 8, 2) := by decide +kernel
theorem dX10_rankOf_107 : decode cX10_rankOf 107 = .ok (.iload 4, 2) := by decide +kernel
theorem dX10_rankOf_109 : decode cX10_rankOf 109 = .ok (.istore 9, 2) := by decide +kernel
theorem dX10_rankOf_111 : decode cX10_rankOf 111 = .ok (.iload 9, 2) := by decide +kernel
theorem dX10_rankOf_113 : decode cX10_rankOf 113 = .ok (.iload_n 2, 1) := by decide +kernel
theorem dX10_rankOf_114 : decode cX10_rankOf 114 = .ok (.if_icmp .ge 52, 3) := by decide +kernel
theorem dX10_rankOf_117 : decode cX10_rankOf 117 = .ok (.aload_n 0, 1) := by decide +kernel
theorem dX10_rankOf_118 : decode cX10_rankOf 118 = .ok (.getfield 58, 3) := by decide +kernel
theorem dX10_rankOf_121 : decode cX10_rankOf 121 = .ok (.iload 7, 2) := by decide +kernel
theorem dX10_rankOf_123 : decode cX10_rankOf 123 = .ok (.iload 9, 2) := by decide +kernel
theorem dX10_rankOf_125 : decode cX10_rankOf 125 = .ok (.invokestatic 254, 3) := by decide +kernel
theorem dX10_rankOf_128 : decode cX10_rankOf 128 = .ok (.aload_n 0, 1) := by decide +kernel
theorem dX10_rankOf_129 : decode cX10_rankOf 129 = .ok (.aload_n 0, 1) := by decide +kernel
theorem dX10_rankOf_130 : decode cX10_rankOf 130 = .ok (.getfield 58, 3) := by decide +kernel
theorem dX10_rankOf_133 : decode cX10_rankOf 133 = .ok (.iload 7, 2) := by decide +kernel
theorem dX10_rankOf_135 : decode cX10_rankOf 135 = .ok (.iload 9, 2) := by decide +kernel
theorem dX10_rankOf_137 : decode cX10_rankOf 137 = .ok (.invokestatic 254, 3) := by decide +kernel
theorem dX10_rankOf_140 : decode cX10_rankOf 140 = .ok (.iaload, 1) := by decide +kernel
theorem dX10_rankOf_141 : decode cX10_rankOf 141 = .ok (.iload 8, 2) := by decide +kernel
theorem dX10_rankOf_143 : decode cX10_rankOf 143 = .ok (.aload_n 0, 1) := by decide +kernel
theorem dX10_rankOf_144 : decode cX10_rankOf 144 = .ok (.getfield 58, 3) := by decide +kernel
theorem dX10_rankOf_147 : decode cX10_rankOf 147 = .ok (.iload_n 3, 1) := by decide +kernel
theorem dX10_rankOf_148 : decode cX10_rankOf 148 = .ok (.iload 9, 2) := by decide +kernel
theorem dX10_rankOf_150 : decode cX10_rankOf 150 = .ok (.invokestatic 254, 3) := by decide +kernel
theorem dX10_rankOf_153 : decode cX10_rankOf 153 = .ok (.iaload, 1) := by decide +kernel
theorem dX10_rankOf_154 : decode cX10_rankOf 154 = .ok (.imul, 1) := by decide +kernel
theorem dX10_rankOf_155 : decode cX10_rankOf 155 = .ok (.isub, 1) := by decide +kernel
theorem dX10_rankOf_156 : decode cX10_rankOf 156 = .ok (.invokevirtual 205, 3) := by decide +kernel
theorem dX10_rankOf_159 : decode cX10_rankOf 159 = .ok (.iastore, 1) := by decide +kernel
theorem dX10_rankOf_160 : decode cX10_rankOf 160 = .ok (.iinc 9 1, 3) := by decide +kernel
theorem dX10_rankOf_163 : decode cX10_rankOf 163 = .ok (.goto (-52), 3) := by decide +kernel
theorem dX10_rankOf_166 : decode cX10_rankOf 166 = .ok (.iinc 7 1, 3) := by decide +kernel
theorem dX10_rankOf_169 : decode cX10_rankOf 169 = .ok (.goto (-90), 3) := by decide +kernel
theorem dX10_rankOf_172 : decode cX10_rankOf 172 = .ok (.iinc 3 1, 3) := by decide +kernel
theorem dX10_rankOf_175 : decode cX10_rankOf 175 = .ok (.iinc 4 1, 3) := by decide +kernel
theorem dX10_rankOf_178 : decode cX10_rankOf 178 = .ok (.goto (-173), 3) := by decide +kernel
theorem dX10_rankOf_181 : decode cX10_rankOf 181 = .ok (.iload_n 3, 1) := by decide +kernel
theorem dX10_rankOf_182 : decode cX10_rankOf 182 = .ok (.ireturn, 1) := by decide +kernel
theorem dX10_solves_0 : decode cX10_solves 0 = .ok (.aload_n 0, 1) := by decide +kernel
theorem dX10_solves_1 : decode cX10_solves 1 = .ok (.invokevirtual 105, 3) := by decide +kernel
theorem dX10_solves_4 : decode cX10_solves 4 = .ok (.istore_n 2, 1) := by decide +kernel
theorem dX10_solves_5 : decode cX10_solves 5 = .ok (.iconst 0, 1) := by decide +kernel
theorem dX10_solves_6 : decode cX10_solves 6 = .ok (.istore_n 3, 1) := by decide +kernel
theorem dX10_solves_7 : decode cX10_solves 7 = .ok (.iload_n 3, 1) := by decide +kernel
theorem dX10_solves_8 : decode cX10_solves 8 = .ok (.iload_n 2, 1) := by decide +kernel
theorem dX10_solves_9 : decode cX10_solves 9 = .ok (.if_icmp .ge 95, 3) := by decide +kernel
theorem dX10_solves_12 : decode cX10_solves 12 = .ok (.iconst 0, 1) := by decide +kernel
theorem dX10_solves_13 : decode cX10_solves 13 = .ok (.istore 4, 2) := by decide +kernel
theorem dX10_solves_15 : decode cX10_solves 15 = .ok (.iload 4, 2) := by decide +kernel
theorem dX10_solves_17 : decode cX10_solves 17 = .ok (.iload_n 2, 1) := by decide +kernel
theorem dX10_solves_18 : decode cX10_solves 18 = .ok (.if_icmp .ge 45, 3) := by decide +kernel
theorem dX10_solves_21 : decode cX10_solves 21 = .ok (.aload_n 0, 1) := by decide +kernel
theorem dX10_solves_22 : decode cX10_solves 22 = .ok (.getfield 85, 3) := by decide +kernel
theorem dX10_solves_25 : decode cX10_solves 25 = .ok (.bipush 13, 2) := by decide +kernel
theorem dX10_solves_27 : decode cX10_solves 27 = .ok (.iload_n 3, 1) := by decide +kernel
theorem dX10_solves_28 : decode cX10_solves 28 = .ok (.imul, 1) := by decide +kernel
theorem dX10_solves_29 : decode cX10_solves 29 = .ok (.iload 4, 2) := by decide +kernel
theorem dX10_solves_31 : decode cX10_solves 31 = .ok (.iadd, 1) := by decide +kernel
theorem dX10_solves_32 : decode cX10_solves 32 = .ok (.aload_n 0, 1) := by decide +kernel
theorem dX10_solves_33 : decode cX10_solves 33 = .ok (.aload_n 0, 1) := by decide +kernel
theorem dX10_solves_34 : decode cX10_solves 34 = .ok (.getfield 7, 3) := by decide +kernel
theorem dX10_solves_37 : decode cX10_solves 37 = .ok (.iconst 4, 1) := by decide +kernel
theorem dX10_solves_38 : decode cX10_solves 38 = .ok (.iload 4, 2) := by decide +kernel
theorem dX10_solves_40 : decode cX10_solves 40 = .ok (.iadd, 1) := by decide +kernel
theorem dX10_solves_41 : decode cX10_solves 41 = .ok (.iaload, 1) := by decide +kernel
theorem dX10_solves_42 : decode cX10_solves 42 = .ok (.aload_n 0, 1) := by decide +kernel
theorem dX10_solves_43 : decode cX10_solves 43 = .ok (.getfield 7, 3) := by decide +kernel
theorem dX10_solves_46 : decode cX10_solves 46 = .ok (.bipush 16, 2) := by decide +kernel
theorem dX10_solves_48 : decode cX10_solves 48 = .ok (.iload 4, 2) := by decide +kernel
theorem dX10_solves_50 : decode cX10_solves 50 = .ok (.iadd, 1) := by decide +kernel
theorem dX10_solves_51 : decode cX10_solves 51 = .ok (.iaload, 1) := by decide +kernel
theorem dX10_solves_52 : decode cX10_solves 52 = .ok (.iload_n 3, 1) := by decide +kernel
theorem dX10_solves_53 : decode cX10_solves 53 = .ok (.invokevirtual 382, 3) := by decide +kernel
theorem dX10_solves_56 : decode cX10_solves 56 = .ok (.iastore, 1) := by decide +kernel
theorem dX10_solves_57 : decode cX10_solves 57 = .ok (.iinc 4 1, 3) := by decide +kernel
theorem dX10_solves_60 : decode cX10_solves 60 = .ok (.goto (-45), 3) := by decide +kernel
theorem dX10_solves_63 : decode cX10_solves 63 = .ok (.aload_n 0, 1) := by decide +kernel
theorem dX10_solves_64 : decode cX10_solves 64 = .ok (.getfield 85, 3) := by decide +kernel
theorem dX10_solves_67 : decode cX10_solves 67 = .ok (.bipush 13, 2) := by decide +kernel
theorem dX10_solves_69 : decode cX10_solves 69 = .ok (.iload_n 3, 1) := by decide +kernel
theorem dX10_solves_70 : decode cX10_solves 70 = .ok (.imul, 1) := by decide +kernel
theorem dX10_solves_71 : decode cX10_solves 71 = .ok (.bipush 12, 2) := by decide +kernel
theorem dX10_solves_73 : decode cX10_solves 73 = .ok (.iadd, 1) := by decide +kernel
theorem dX10_solves_74 : decode cX10_solves 74 = .ok (.aload_n 0, 1) := by decide +kernel
theorem dX10_solves_75 : decode cX10_solves 75 = .ok (.aload_n 0, 1) := by decide +kernel
theorem dX10_solves_76 : decode cX10_solves 76 = .ok (.getfield 7, 3) := by decide +kernel
theorem dX10_solves_79 : decode cX10_solves 79 = .ok (.bipush 28, 2) := by decide +kernel
theorem dX10_solves_81 : decode cX10_solves 81 = .ok (.iload_n 1, 1) := by decide +kernel
theorem dX10_solves_82 : decode cX10_solves 82 = .ok (.iadd, 1) := by decide +kernel
theorem dX10_solves_83 : decode cX10_solves 83 = .ok (.iaload, 1) := by decide +kernel
theorem dX10_solves_84 : decode cX10_solves 84 = .ok (.aload_n 0, 1) := by decide +kernel
theorem dX10_solves_85 : decode cX10_solves 85 = .ok (.getfield 7, 3) := by decide +kernel
theorem dX10_solves_88 : decode cX10_solves 88 = .ok (.bipush 42, 2) := by decide +kernel
theorem dX10_solves_90 : decode cX10_solves 90 = .ok (.iload_n 1, 1) := by decide +kernel
theorem dX10_solves_91 : decode cX10_solves 91 = .ok (.iadd, 1) := by decide +kernel
theorem dX10_solves_92 : decode cX10_solves 92 = .ok (.iaload, 1) := by decide +kernel
theorem dX10_solves_93 : decode cX10_solves 93 = .ok (.iload_n 3, 1) := by decide +kernel
theorem dX10_solves_94 : decode cX10_solves 94 = .ok (.invokevirtual 382, 3) := by decide +kernel
theorem dX10_solves_97 : decode cX10_solves 97 = .ok (.iastore, 1) := by decide +kernel
theorem dX10_solves_98 : decode cX10_solves 98 = .ok (.iinc 3 1, 3) := by decide +kernel
theorem dX10_solves_101 : decode cX10_solves 101 = .ok (.goto (-94), 3) := by decide +kernel
theorem dX10_solves_104 : decode cX10_solves 104 = .ok (.iconst 0, 1) := by decide +kernel
theorem dX10_solves_105 : decode cX10_solves 105 = .ok (.istore_n 3, 1) := by decide +kernel
theorem dX10_solves_106 : decode cX10_solves 106 = .ok (.iload_n 3, 1) := by decide +kernel
theorem dX10_solves_107 : decode cX10_solves 107 = .ok (.iload_n 2, 1) := by decide +kernel
theorem dX10_solves_108 : decode cX10_solves 108 = .ok (.if_icmp .ge 235, 3) := by decide +kernel
theorem dX10_solves_111 : decode cX10_solves 111 = .ok (.iload_n 3, 1) := by decide +kernel
theorem dX10_solves_112 : decode cX10_solves 112 = .ok (.istore 4, 2) := by decide +kernel
theorem dX10_solves_114 : decode cX10_solves 114 = .ok (.aload_n 0, 1) := by decide +kernel
theorem dX10_solves_115 : decode cX10_solves 115 = .ok (.getfield 85, 3) := by decide +kernel
theorem dX10_solves_118 : decode cX10_solves 118 = .ok (.bipush 13, 2) := by decide +kernel
theorem dX10_solves_120 : decode cX10_solves 120 = .ok (.iload 4, 2) := by decide +kernel
theorem dX10_solves_122 : decode cX10_solves 122 = .ok (.imul, 1) := by decide +kernel
theorem dX10_solves_123 : decode cX10_solves 123 = .ok (.iload_n 3, 1) := by decide +kernel
theorem dX10_solves_124 : decode cX10_solves 124 = .ok (.iadd, 1) := by decide +kernel
theorem dX10_solves_125 : decode cX10_solves 125 = .ok (.iaload, 1) := by decide +kernel
theorem dX10_solves_126 : decode cX10_solves 126 = .ok (.ifCond .ne 9, 3) := by decide +kernel
theorem dX10_solves_129 : decode cX10_solves 129 = .ok (.iinc 4 1, 3) := by decide +kernel
theorem dX10_solves_132 : decode cX10_solves 132 = .ok (.goto (-18), 3) := by decide +kernel
theorem dX10_solves_135 : decode cX10_solves 135 = .ok (.aload_n 0, 1) := by decide +kernel
theorem dX10_solves_136 : decode cX10_solves 136 = .ok (.aload_n 0, 1) := by decide +kernel
theorem dX10_solves_137 : decode cX10_solves 137 = .ok (.getfield 85, 3) := by decide +kernel
theorem dX10_solves_140 : decode cX10_solves 140 = .ok (.bipush 13, 2) := by decide +kernel
theorem dX10_solves_142 : decode cX10_solves 142 = .ok (.iload 4, 2) := by decide +kernel
theorem dX10_solves_144 : decode cX10_solves 144 = .ok (.imul, 1) := by decide +kernel
theorem dX10_solves_145 : decode cX10_solves 145 = .ok (.iload_n 3, 1) := by decide +kernel
theorem dX10_solves_146 : decode cX10_solves 146 = .ok (.iadd, 1) := by decide +kernel
theorem dX10_solves_147 : decode cX10_solves 147 = .ok (.iaload, 1) := by decide +kernel
theorem dX10_solves_148 : decode cX10_solves 148 = .ok (.invokevirtual 292, 3) := by decide +kernel
theorem dX10_solves_151 : decode cX10_solves 151 = .ok (.istore 5, 2) := by decide +kernel
theorem dX10_solves_153 : decode cX10_solves 153 = .ok (.iconst 0, 1) := by decide +kernel
theorem dX10_solves_154 : decode cX10_solves 154 = .ok (.istore 6, 2) := by decide +kernel
theorem dX10_solves_156 : decode cX10_solves 156 = .ok (.iload 6, 2) := by decide +kernel
theorem dX10_solves_158 : decode cX10_solves 158 = .ok (.bipush 13, 2) := by decide +kernel
theorem dX10_solves_160 : decode cX10_solves 160 = .ok (.if_icmp .ge 71, 3) := by decide +kernel
theorem dX10_solves_163 : decode cX10_solves 163 = .ok (.aload_n 0, 1) := by decide +kernel
theorem dX10_solves_164 : decode cX10_solves 164 = .ok (.getfield 85, 3) := by decide +kernel
theorem dX10_solves_167 : decode cX10_solves 167 = .ok (.bipush 13, 2) := by decide +kernel
theorem dX10_solves_169 : decode cX10_solves 169 = .ok (.iload 4, 2) := by decide +kernel
theorem dX10_solves_171 : decode cX10_solves 171 = .ok (.imul, 1) := by decide +kernel
theorem dX10_solves_172 : decode cX10_solves 172 = .ok (.iload 6, 2) := by decide +kernel
theorem dX10_solves_174 : decode cX10_solves 174 = .ok (.iadd, 1) := by decide +kernel
theorem dX10_solves_175 : decode cX10_solves 175 = .ok (.iaload, 1) := by decide +kernel
theorem dX10_solves_176 : decode cX10_solves 176 = .ok (.iload 5, 2) := by decide +kernel
theorem dX10_solves_178 : decode cX10_solves 178 = .ok (.imul, 1) := by decide +kernel
theorem dX10_solves_179 : decode cX10_solves 179 = .ok (.aload_n 0, 1) := by decide +kernel
theorem dX10_solves_180 : decode cX10_solves 180 = .ok (.invokevirtual 97, 3) := by decide +kernel
theorem dX10_solves_183 : decode cX10_solves 183 = .ok (.irem, 1) := by decide +kernel
theorem dX10_solves_184 : decode cX10_solves 184 = .ok (.istore 7, 2) := by decide +kernel
theorem dX10_solves_186 : decode cX10_solves 186 = .ok (.aload_n 0, 1) := by decide +kernel
theorem dX10_solves_187 : decode cX10_solves 187 = .ok (.getfield 85, 3) := by decide +kernel
theorem dX10_solves_190 : decode cX10_solves 190 = .ok (.bipush 13, 2) := by decide +kernel
theorem dX10_solves_192 : decode cX10_solves 192 = .ok (.iload 4, 2) := by decide +kernel
theorem dX10_solves_194 : decode cX10_solves 194 = .ok (.imul, 1) := by decide +kernel
theorem dX10_solves_195 : decode cX10_solves 195 = .ok (.iload 6, 2) := by decide +kernel
theorem dX10_solves_197 : decode cX10_solves 197 = .ok (.iadd, 1) := by decide +kernel
theorem dX10_solves_198 : decode cX10_solves 198 = .ok (.aload_n 0, 1) := by decide +kernel
theorem dX10_solves_199 : decode cX10_solves 199 = .ok (.getfield 85, 3) := by decide +kernel
theorem dX10_solves_202 : decode cX10_solves 202 = .ok (.bipush 13, 2) := by decide +kernel
theorem dX10_solves_204 : decode cX10_solves 204 = .ok (.iload_n 3, 1) := by decide +kernel
theorem dX10_solves_205 : decode cX10_solves 205 = .ok (.imul, 1) := by decide +kernel
theorem dX10_solves_206 : decode cX10_solves 206 = .ok (.iload 6, 2) := by decide +kernel
theorem dX10_solves_208 : decode cX10_solves 208 = .ok (.iadd, 1) := by decide +kernel
theorem dX10_solves_209 : decode cX10_solves 209 = .ok (.iaload, 1) := by decide +kernel
theorem dX10_solves_210 : decode cX10_solves 210 = .ok (.iastore, 1) := by decide +kernel
theorem dX10_solves_211 : decode cX10_solves 211 = .ok (.aload_n 0, 1) := by decide +kernel
theorem dX10_solves_212 : decode cX10_solves 212 = .ok (.getfield 85, 3) := by decide +kernel
theorem dX10_solves_215 : decode cX10_solves 215 = .ok (.bipush 13, 2) := by decide +kernel
theorem dX10_solves_217 : decode cX10_solves 217 = .ok (.iload_n 3, 1) := by decide +kernel
theorem dX10_solves_218 : decode cX10_solves 218 = .ok (.imul, 1) := by decide +kernel
theorem dX10_solves_219 : decode cX10_solves 219 = .ok (.iload 6, 2) := by decide +kernel
theorem dX10_solves_221 : decode cX10_solves 221 = .ok (.iadd, 1) := by decide +kernel
theorem dX10_solves_222 : decode cX10_solves 222 = .ok (.iload 7, 2) := by decide +kernel
theorem dX10_solves_224 : decode cX10_solves 224 = .ok (.iastore, 1) := by decide +kernel
theorem dX10_solves_225 : decode cX10_solves 225 = .ok (.iinc 6 1, 3) := by decide +kernel
theorem dX10_solves_228 : decode cX10_solves 228 = .ok (.goto (-72), 3) := by decide +kernel
theorem dX10_solves_231 : decode cX10_solves 231 = .ok (.iconst 0, 1) := by decide +kernel
theorem dX10_solves_232 : decode cX10_solves 232 = .ok (.istore 6, 2) := by decide +kernel
theorem dX10_solves_234 : decode cX10_solves 234 = .ok (.iload 6, 2) := by decide +kernel
theorem dX10_solves_236 : decode cX10_solves 236 = .ok (.iload_n 2, 1) := by decide +kernel
theorem dX10_solves_237 : decode cX10_solves 237 = .ok (.if_icmp .ge 100, 3) := by decide +kernel
theorem dX10_solves_240 : decode cX10_solves 240 = .ok (.iload 6, 2) := by decide +kernel
theorem dX10_solves_242 : decode cX10_solves 242 = .ok (.iload_n 3, 1) := by decide +kernel
theorem dX10_solves_243 : decode cX10_solves 243 = .ok (.if_icmp .ne 7, 3) := by decide +kernel
theorem dX10_solves_246 : decode cX10_solves 246 = .ok (.iconst 0, 1) := by decide +kernel
theorem dX10_solves_247 : decode cX10_solves 247 = .ok (.goto 15, 3) := by decide +kernel
theorem dX10_solves_250 : decode cX10_solves 250 = .ok (.aload_n 0, 1) := by decide +kernel
theorem dX10_solves_251 : decode cX10_solves 251 = .ok (.getfield 85, 3) := by decide +kernel
theorem dX10_solves_254 : decode cX10_solves 254 = .ok (.bipush 13, 2) := by decide +kernel
theorem dX10_solves_256 : decode cX10_solves 256 = .ok (.iload 6, 2) := by decide +kernel
theorem dX10_solves_258 : decode cX10_solves 258 = .ok (.imul, 1) := by decide +kernel
theorem dX10_solves_259 : decode cX10_solves 259 = .ok (.iload_n 3, 1) := by decide +kernel
theorem dX10_solves_260 : decode cX10_solves 260 = .ok (.iadd, 1) := by decide +kernel
theorem dX10_solves_261 : decode cX10_solves 261 = .ok (.iaload, 1) := by decide +kernel
theorem dX10_solves_262 : decode cX10_solves 262 = .ok (.istore 7, 2) := by decide +kernel
theorem dX10_solves_264 : decode cX10_solves 264 = .ok (.iconst 0, 1) := by decide +kernel
theorem dX10_solves_265 : decode cX10_solves 265 = .ok (.istore 8, 2) := by decide +kernel
theorem dX10_solves_267 : decode cX10_solves 267 = .ok (.iload 8, 2) := by decide +kernel
theorem dX10_solves_269 : decode cX10_solves 269 = .ok (.bipush 13, 2) := by decide +kernel
theorem dX10_solves_271 : decode cX10_solves 271 = .ok (.if_icmp .ge 60, 3) := by decide +kernel
theorem dX10_solves_274 : decode cX10_solves 274 = .ok (.iload 7, 2) := by decide +kernel
theorem dX10_solves_276 : decode cX10_solves 276 = .ok (.ifCond .le 55, 3) := by decide +kernel
theorem dX10_solves_279 : decode cX10_solves 279 = .ok (.aload_n 0, 1) := by decide +kernel
theorem dX10_solves_280 : decode cX10_solves 280 = .ok (.getfield 85, 3) := by decide +kernel
theorem dX10_solves_283 : decode cX10_solves 283 = .ok (.bipush 13, 2) := by decide +kernel
theorem dX10_solves_285 : decode cX10_solves 285 = .ok (.iload 6, 2) := by decide +kernel
theorem dX10_solves_287 : decode cX10_solves 287 = .ok (.imul, 1) := by decide +kernel
theorem dX10_solves_288 : decode cX10_solves 288 = .ok (.iload 8, 2) := by decide +kernel
theorem dX10_solves_290 : decode cX10_solves 290 = .ok (.iadd, 1) := by decide +kernel
theorem dX10_solves_291 : decode cX10_solves 291 = .ok (.aload_n 0, 1) := by decide +kernel
theorem dX10_solves_292 : decode cX10_solves 292 = .ok (.aload_n 0, 1) := by decide +kernel
theorem dX10_solves_293 : decode cX10_solves 293 = .ok (.getfield 85, 3) := by decide +kernel
theorem dX10_solves_296 : decode cX10_solves 296 = .ok (.bipush 13, 2) := by decide +kernel
theorem dX10_solves_298 : decode cX10_solves 298 = .ok (.iload 6, 2) := by decide +kernel
theorem dX10_solves_300 : decode cX10_solves 300 = .ok (.imul, 1) := by decide +kernel
theorem dX10_solves_301 : decode cX10_solves 301 = .ok (.iload 8, 2) := by decide +kernel
theorem dX10_solves_303 : decode cX10_solves 303 = .ok (.iadd, 1) := by decide +kernel
theorem dX10_solves_304 : decode cX10_solves 304 = .ok (.iaload, 1) := by decide +kernel
theorem dX10_solves_305 : decode cX10_solves 305 = .ok (.iload 7, 2) := by decide +kernel
theorem dX10_solves_307 : decode cX10_solves 307 = .ok (.aload_n 0, 1) := by decide +kernel
theorem dX10_solves_308 : decode cX10_solves 308 = .ok (.getfield 85, 3) := by decide +kernel
theorem dX10_solves_311 : decode cX10_solves 311 = .ok (.bipush 13, 2) := by decide +kernel
theorem dX10_solves_313 : decode cX10_solves 313 = .ok (.iload_n 3, 1) := by decide +kernel
theorem dX10_solves_314 : decode cX10_solves 314 = .ok (.imul, 1) := by decide +kernel
theorem dX10_solves_315 : decode cX10_solves 315 = .ok (.iload 8, 2) := by decide +kernel
theorem dX10_solves_317 : decode cX10_solves 317 = .ok (.iadd, 1) := by decide +kernel
theorem dX10_solves_318 : decode cX10_solves 318 = .ok (.iaload, 1) := by decide +kernel
theorem dX10_solves_319 : decode cX10_solves 319 = .ok (.imul, 1) := by decide +kernel
theorem dX10_solves_320 : decode cX10_solves 320 = .ok (.isub, 1) := by decide +kernel
theorem dX10_solves_321 : decode cX10_solves 321 = .ok (.invokevirtual 205, 3) := by decide +kernel
theorem dX10_solves_324 : decode cX10_solves 324 = .ok (.iastore, 1) := by decide +kernel
theorem dX10_solves_325 : decode cX10_solves 325 = .ok (.iinc 8 1, 3) := by decide +kernel
theorem dX10_solves_328 : decode cX10_solves 328 = .ok (.goto (-61), 3) := by decide +kernel
theorem dX10_solves_331 : decode cX10_solves 331 = .ok (.iinc 6 1, 3) := by decide +kernel
theorem dX10_solves_334 : decode cX10_solves 334 = .ok (.goto (-100), 3) := by decide +kernel
theorem dX10_solves_337 : decode cX10_solves 337 = .ok (.iinc 3 1, 3) := by decide +kernel
theorem dX10_solves_340 : decode cX10_solves 340 = .ok (.goto (-234), 3) := by decide +kernel
theorem dX10_solves_343 : decode cX10_solves 343 = .ok (.iconst 0, 1) := by decide +kernel
theorem dX10_solves_344 : decode cX10_solves 344 = .ok (.istore_n 3, 1) := by decide +kernel
theorem dX10_solves_345 : decode cX10_solves 345 = .ok (.iload_n 3, 1) := by decide +kernel
theorem dX10_solves_346 : decode cX10_solves 346 = .ok (.iload_n 2, 1) := by decide +kernel
theorem dX10_solves_347 : decode cX10_solves 347 = .ok (.if_icmp .ge 31, 3) := by decide +kernel
theorem dX10_solves_350 : decode cX10_solves 350 = .ok (.aload_n 0, 1) := by decide +kernel
theorem dX10_solves_351 : decode cX10_solves 351 = .ok (.getfield 7, 3) := by decide +kernel
theorem dX10_solves_354 : decode cX10_solves 354 = .ok (.iload_n 1, 1) := by decide +kernel
theorem dX10_solves_355 : decode cX10_solves 355 = .ok (.iload_n 3, 1) := by decide +kernel
theorem dX10_solves_356 : decode cX10_solves 356 = .ok (.invokestatic 130, 3) := by decide +kernel
theorem dX10_solves_359 : decode cX10_solves 359 = .ok (.aload_n 0, 1) := by decide +kernel
theorem dX10_solves_360 : decode cX10_solves 360 = .ok (.getfield 85, 3) := by decide +kernel
theorem dX10_solves_363 : decode cX10_solves 363 = .ok (.bipush 13, 2) := by decide +kernel
theorem dX10_solves_365 : decode cX10_solves 365 = .ok (.iload_n 3, 1) := by decide +kernel
theorem dX10_solves_366 : decode cX10_solves 366 = .ok (.imul, 1) := by decide +kernel
theorem dX10_solves_367 : decode cX10_solves 367 = .ok (.bipush 12, 2) := by decide +kernel
theorem dX10_solves_369 : decode cX10_solves 369 = .ok (.iadd, 1) := by decide +kernel
theorem dX10_solves_370 : decode cX10_solves 370 = .ok (.iaload, 1) := by decide +kernel
theorem dX10_solves_371 : decode cX10_solves 371 = .ok (.iastore, 1) := by decide +kernel
theorem dX10_solves_372 : decode cX10_solves 372 = .ok (.iinc 3 1, 3) := by decide +kernel
theorem dX10_solves_375 : decode cX10_solves 375 = .ok (.goto (-30), 3) := by decide +kernel
theorem dX10_solves_378 : decode cX10_solves 378 = .ok (.return_, 1) := by decide +kernel
theorem dX10_fits_0 : decode cX10_fits 0 = .ok (.aload_n 0, 1) := by decide +kernel
theorem dX10_fits_1 : decode cX10_fits 1 = .ok (.getfield 7, 3) := by decide +kernel
theorem dX10_fits_4 : decode cX10_fits 4 = .ok (.iconst 1, 1) := by decide +kernel
theorem dX10_fits_5 : decode cX10_fits 5 = .ok (.iconst 0, 1) := by decide +kernel
theorem dX10_fits_6 : decode cX10_fits 6 = .ok (.iastore, 1) := by decide +kernel
theorem dX10_fits_7 : decode cX10_fits 7 = .ok (.iconst 0, 1) := by decide +kernel
theorem dX10_fits_8 : decode cX10_fits 8 = .ok (.istore_n 1, 1) := by decide +kernel
theorem dX10_fits_9 : decode cX10_fits 9 = .ok (.iload_n 1, 1) := by decide +kernel
theorem dX10_fits_10 : decode cX10_fits 10 = .ok (.bipush 11, 2) := by decide +kernel
theorem dX10_fits_12 : decode cX10_fits 12 = .ok (.if_icmp .gt 65, 3) := by decide +kernel
theorem dX10_fits_15 : decode cX10_fits 15 = .ok (.iconst 0, 1) := by decide +kernel
theorem dX10_fits_16 : decode cX10_fits 16 = .ok (.istore_n 2, 1) := by decide +kernel
theorem dX10_fits_17 : decode cX10_fits 17 = .ok (.iload_n 2, 1) := by decide +kernel
theorem dX10_fits_18 : decode cX10_fits 18 = .ok (.iload_n 1, 1) := by decide +kernel
theorem dX10_fits_19 : decode cX10_fits 19 = .ok (.if_icmp .gt 52, 3) := by decide +kernel
theorem dX10_fits_22 : decode cX10_fits 22 = .ok (.aload_n 0, 1) := by decide +kernel
theorem dX10_fits_23 : decode cX10_fits 23 = .ok (.invokevirtual 105, 3) := by decide +kernel
theorem dX10_fits_26 : decode cX10_fits 26 = .ok (.aload_n 0, 1) := by decide +kernel
theorem dX10_fits_27 : decode cX10_fits 27 = .ok (.getfield 7, 3) := by decide +kernel
theorem dX10_fits_30 : decode cX10_fits 30 = .ok (.iconst 3, 1) := by decide +kernel
theorem dX10_fits_31 : decode cX10_fits 31 = .ok (.iaload, 1) := by decide +kernel
theorem dX10_fits_32 : decode cX10_fits 32 = .ok (.if_icmp .ge 39, 3) := by decide +kernel
theorem dX10_fits_35 : decode cX10_fits 35 = .ok (.iload_n 1, 1) := by decide +kernel
theorem dX10_fits_36 : decode cX10_fits 36 = .ok (.iload_n 2, 1) := by decide +kernel
theorem dX10_fits_37 : decode cX10_fits 37 = .ok (.isub, 1) := by decide +kernel
theorem dX10_fits_38 : decode cX10_fits 38 = .ok (.istore_n 3, 1) := by decide +kernel
theorem dX10_fits_39 : decode cX10_fits 39 = .ok (.aload_n 0, 1) := by decide +kernel
theorem dX10_fits_40 : decode cX10_fits 40 = .ok (.iload_n 3, 1) := by decide +kernel
theorem dX10_fits_41 : decode cX10_fits 41 = .ok (.iload_n 2, 1) := by decide +kernel
theorem dX10_fits_42 : decode cX10_fits 42 = .ok (.invokevirtual 116, 3) := by decide +kernel
theorem dX10_fits_45 : decode cX10_fits 45 = .ok (.ifCond .eq 20, 3) := by decide +kernel
theorem dX10_fits_48 : decode cX10_fits 48 = .ok (.aload_n 0, 1) := by decide +kernel
theorem dX10_fits_49 : decode cX10_fits 49 = .ok (.iload_n 3, 1) := by decide +kernel
theorem dX10_fits_50 : decode cX10_fits 50 = .ok (.iload_n 2, 1) := by decide +kernel
theorem dX10_fits_51 : decode cX10_fits 51 = .ok (.invokevirtual 389, 3) := by decide +kernel
theorem dX10_fits_54 : decode cX10_fits 54 = .ok (.ifCond .eq 11, 3) := by decide +kernel
theorem dX10_fits_57 : decode cX10_fits 57 = .ok (.aload_n 0, 1) := by decide +kernel
theorem dX10_fits_58 : decode cX10_fits 58 = .ok (.iload_n 3, 1) := by decide +kernel
theorem dX10_fits_59 : decode cX10_fits 59 = .ok (.iload_n 2, 1) := by decide +kernel
theorem dX10_fits_60 : decode cX10_fits 60 = .ok (.invokevirtual 140, 3) := by decide +kernel
theorem dX10_fits_63 : decode cX10_fits 63 = .ok (.istore 4, 2) := by decide +kernel
theorem dX10_fits_65 : decode cX10_fits 65 = .ok (.iinc 2 1, 3) := by decide +kernel
theorem dX10_fits_68 : decode cX10_fits 68 = .ok (.goto (-51), 3) := by decide +kernel
theorem dX10_fits_71 : decode cX10_fits 71 = .ok (.iinc 1 1, 3) := by decide +kernel
theorem dX10_fits_74 : decode cX10_fits 74 = .ok (.goto (-65), 3) := by decide +kernel
theorem dX10_fits_77 : decode cX10_fits 77 = .ok (.aload_n 0, 1) := by decide +kernel
theorem dX10_fits_78 : decode cX10_fits 78 = .ok (.invokevirtual 94, 3) := by decide +kernel
theorem dX10_fits_81 : decode cX10_fits 81 = .ok (.iconst 0, 1) := by decide +kernel
theorem dX10_fits_82 : decode cX10_fits 82 = .ok (.istore_n 1, 1) := by decide +kernel
theorem dX10_fits_83 : decode cX10_fits 83 = .ok (.iload_n 1, 1) := by decide +kernel
theorem dX10_fits_84 : decode cX10_fits 84 = .ok (.aload_n 0, 1) := by decide +kernel
theorem dX10_fits_85 : decode cX10_fits 85 = .ok (.getfield 7, 3) := by decide +kernel
theorem dX10_fits_88 : decode cX10_fits 88 = .ok (.iconst 2, 1) := by decide +kernel
theorem dX10_fits_89 : decode cX10_fits 89 = .ok (.iaload, 1) := by decide +kernel
theorem dX10_fits_90 : decode cX10_fits 90 = .ok (.if_icmp .ge 14, 3) := by decide +kernel
theorem dX10_fits_93 : decode cX10_fits 93 = .ok (.aload_n 0, 1) := by decide +kernel
theorem dX10_fits_94 : decode cX10_fits 94 = .ok (.iload_n 1, 1) := by decide +kernel
theorem dX10_fits_95 : decode cX10_fits 95 = .ok (.invokevirtual 392, 3) := by decide +kernel
theorem dX10_fits_98 : decode cX10_fits 98 = .ok (.iinc 1 1, 3) := by decide +kernel
theorem dX10_fits_101 : decode cX10_fits 101 = .ok (.goto (-18), 3) := by decide +kernel
theorem dX10_fits_104 : decode cX10_fits 104 = .ok (.return_, 1) := by decide +kernel
theorem dX10_fit_0 : decode cX10_fit 0 = .ok (.aload_n 0, 1) := by decide +kernel
theorem dX10_fit_1 : decode cX10_fit 1 = .ok (.aload_n 0, 1) := by decide +kernel
theorem dX10_fit_2 : decode cX10_fit 2 = .ok (.getfield 7, 3) := by decide +kernel
theorem dX10_fit_5 : decode cX10_fit 5 = .ok (.iconst 3, 1) := by decide +kernel
theorem dX10_fit_6 : decode cX10_fit 6 = .ok (.iaload, 1) := by decide +kernel
theorem dX10_fit_7 : decode cX10_fit 7 = .ok (.ifCond .ne 7, 3) := by decide +kernel
theorem dX10_fit_10 : decode cX10_fit 10 = .ok (.iconst 1, 1) := by decide +kernel
theorem dX10_fit_11 : decode cX10_fit 11 = .ok (.goto 4, 3) := by decide +kernel
theorem dX10_fit_14 : decode cX10_fit 14 = .ok (.iconst 0, 1) := by decide +kernel
theorem dX10_fit_15 : decode cX10_fit 15 = .ok (.putfield 91, 3) := by decide +kernel
theorem dX10_fit_18 : decode cX10_fit 18 = .ok (.aload_n 0, 1) := by decide +kernel
theorem dX10_fit_19 : decode cX10_fit 19 = .ok (.getfield 91, 3) := by decide +kernel
theorem dX10_fit_22 : decode cX10_fit 22 = .ok (.ifCond .le 5, 3) := by decide +kernel
theorem dX10_fit_25 : decode cX10_fit 25 = .ok (.iconst 0, 1) := by decide +kernel
theorem dX10_fit_26 : decode cX10_fit 26 = .ok (.ireturn, 1) := by decide +kernel
theorem dX10_fit_27 : decode cX10_fit 27 = .ok (.aload_n 0, 1) := by decide +kernel
theorem dX10_fit_28 : decode cX10_fit 28 = .ok (.iconst 5, 1) := by decide +kernel
theorem dX10_fit_29 : decode cX10_fit 29 = .ok (.invokevirtual 347, 3) := by decide +kernel
theorem dX10_fit_32 : decode cX10_fit 32 = .ok (.aload_n 0, 1) := by decide +kernel
theorem dX10_fit_33 : decode cX10_fit 33 = .ok (.invokevirtual 395, 3) := by decide +kernel
theorem dX10_fit_36 : decode cX10_fit 36 = .ok (.aload_n 0, 1) := by decide +kernel
theorem dX10_fit_37 : decode cX10_fit 37 = .ok (.invokevirtual 105, 3) := by decide +kernel
theorem dX10_fit_40 : decode cX10_fit 40 = .ok (.ireturn, 1) := by decide +kernel
theorem dX10_hasSameMonomials_0 : decode cX10_hasSameMonomials 0 = .ok (.aload_n 0, 1) := by decide +kernel
theorem dX10_hasSameMonomials_1 : decode cX10_hasSameMonomials 1 = .ok (.getfield 7, 3) := by decide +kernel
theorem dX10_hasSameMonomials_4 : decode cX10_hasSameMonomials 4 = .ok (.iconst 1, 1) := by decide +kernel
theorem dX10_hasSameMonomials_5 : decode cX10_hasSameMonomials 5 = .ok (.iaload, 1) := by decide +kernel
theorem dX10_hasSameMonomials_6 : decode cX10_hasSameMonomials 6 = .ok (.aload_n 0, 1) := by decide +kernel
theorem dX10_hasSameMonomials_7 : decode cX10_hasSameMonomials 7 = .ok (.getfield 13, 3) := by decide +kernel
theorem dX10_hasSameMonomials_10 : decode cX10_hasSameMonomials 10 = .ok (.iconst 1, 1) := by decide +kernel
theorem dX10_hasSameMonomials_11 : decode cX10_hasSameMonomials 11 = .ok (.iaload, 1) := by decide +kernel
theorem dX10_hasSameMonomials_12 : decode cX10_hasSameMonomials 12 = .ok (.if_icmp .ne 7, 3) := by decide +kernel
theorem dX10_hasSameMonomials_15 : decode cX10_hasSameMonomials 15 = .ok (.iconst 1, 1) := by decide +kernel
theorem dX10_hasSameMonomials_16 : decode cX10_hasSameMonomials 16 = .ok (.goto 4, 3) := by decide +kernel
theorem dX10_hasSameMonomials_19 : decode cX10_hasSameMonomials 19 = .ok (.iconst 0, 1) := by decide +kernel
theorem dX10_hasSameMonomials_20 : decode cX10_hasSameMonomials 20 = .ok (.istore_n 1, 1) := by decide +kernel
theorem dX10_hasSameMonomials_21 : decode cX10_hasSameMonomials 21 = .ok (.iconst 0, 1) := by decide +kernel
theorem dX10_hasSameMonomials_22 : decode cX10_hasSameMonomials 22 = .ok (.istore_n 2, 1) := by decide +kernel
theorem dX10_hasSameMonomials_23 : decode cX10_hasSameMonomials 23 = .ok (.iload_n 2, 1) := by decide +kernel
theorem dX10_hasSameMonomials_24 : decode cX10_hasSameMonomials 24 = .ok (.aload_n 0, 1) := by decide +kernel
theorem dX10_hasSameMonomials_25 : decode cX10_hasSameMonomials 25 = .ok (.getfield 7, 3) := by decide +kernel
theorem dX10_hasSameMonomials_28 : decode cX10_hasSameMonomials 28 = .ok (.iconst 1, 1) := by decide +kernel
theorem dX10_hasSameMonomials_29 : decode cX10_hasSameMonomials 29 = .ok (.iaload, 1) := by decide +kernel
theorem dX10_hasSameMonomials_30 : decode cX10_hasSameMonomials 30 = .ok (.if_icmp .ge 59, 3) := by decide +kernel
theorem dX10_hasSameMonomials_33 : decode cX10_hasSameMonomials 33 = .ok (.iload_n 1, 1) := by decide +kernel
theorem dX10_hasSameMonomials_34 : decode cX10_hasSameMonomials 34 = .ok (.ifCond .eq 47, 3) := by decide +kernel
theorem dX10_hasSameMonomials_37 : decode cX10_hasSameMonomials 37 = .ok (.aload_n 0, 1) := by decide +kernel
theorem dX10_hasSameMonomials_38 : decode cX10_hasSameMonomials 38 = .ok (.getfield 7, 3) := by decide +kernel
theorem dX10_hasSameMonomials_41 : decode cX10_hasSameMonomials 41 = .ok (.iconst 4, 1) := by decide +kernel
theorem dX10_hasSameMonomials_42 : decode cX10_hasSameMonomials 42 = .ok (.iload_n 2, 1) := by decide +kernel
theorem dX10_hasSameMonomials_43 : decode cX10_hasSameMonomials 43 = .ok (.iadd, 1) := by decide +kernel
theorem dX10_hasSameMonomials_44 : decode cX10_hasSameMonomials 44 = .ok (.iaload, 1) := by decide +kernel
theorem dX10_hasSameMonomials_45 : decode cX10_hasSameMonomials 45 = .ok (.aload_n 0, 1) := by decide +kernel
theorem dX10_hasSameMonomials_46 : decode cX10_hasSameMonomials 46 = .ok (.getfield 13, 3) := by decide +kernel
theorem dX10_hasSameMonomials_49 : decode cX10_hasSameMonomials 49 = .ok (.iconst 4, 1) := by decide +kernel
theorem dX10_hasSameMonomials_50 : decode cX10_hasSameMonomials 50 = .ok (.iload_n 2, 1) := by decide +kernel
theorem dX10_hasSameMonomials_51 : decode cX10_hasSameMonomials 51 = .ok (.iadd, 1) := by decide +kernel
theorem dX10_hasSameMonomials_52 : decode cX10_hasSameMonomials 52 = .ok (.iaload, 1) := by decide +kernel
theorem dX10_hasSameMonomials_53 : decode cX10_hasSameMonomials 53 = .ok (.if_icmp .ne 28, 3) := by decide +kernel
theorem dX10_hasSameMonomials_56 : decode cX10_hasSameMonomials 56 = .ok (.aload_n 0, 1) := by decide +kernel
theorem dX10_hasSameMonomials_57 : decode cX10_hasSameMonomials 57 = .ok (.getfield 7, 3) := by decide +kernel
theorem dX10_hasSameMonomials_60 : decode cX10_hasSameMonomials 60 = .ok (.bipush 16, 2) := by decide +kernel
theorem dX10_hasSameMonomials_62 : decode cX10_hasSameMonomials 62 = .ok (.iload_n 2, 1) := by decide +kernel
theorem dX10_hasSameMonomials_63 : decode cX10_hasSameMonomials 63 = .ok (.iadd, 1) := by decide +kernel
theorem dX10_hasSameMonomials_64 : decode cX10_hasSameMonomials 64 = .ok (.iaload, 1) := by decide +kernel
theorem dX10_hasSameMonomials_65 : decode cX10_hasSameMonomials 65 = .ok (.aload_n 0, 1) := by decide +kernel
theorem dX10_hasSameMonomials_66 : decode cX10_hasSameMonomials 66 = .ok (.getfield 13, 3) := by decide +kernel
theorem dX10_hasSameMonomials_69 : decode cX10_hasSameMonomials 69 = .ok (.bipush 16, 2) := by decide +kernel
theorem dX10_hasSameMonomials_71 : decode cX10_hasSameMonomials 71 = .ok (.iload_n 2, 1) := by decide +kernel
theorem dX10_hasSameMonomials_72 : decode cX10_hasSameMonomials 72 = .ok (.iadd, 1) := by decide +kernel
theorem dX10_hasSameMonomials_73 : decode cX10_hasSameMonomials 73 = .ok (.iaload, 1) := by decide +kernel
theorem dX10_hasSameMonomials_74 : decode cX10_hasSameMonomials 74 = .ok (.if_icmp .ne 7, 3) := by decide +kernel
theorem dX10_hasSameMonomials_77 : decode cX10_hasSameMonomials 77 = .ok (.iconst 1, 1) := by decide +kernel
theorem dX10_hasSameMonomials_78 : decode cX10_hasSameMonomials 78 = .ok (.goto 4, 3) := by decide +kernel
theorem dX10_hasSameMonomials_81 : decode cX10_hasSameMonomials 81 = .ok (.iconst 0, 1) := by decide +kernel
theorem dX10_hasSameMonomials_82 : decode cX10_hasSameMonomials 82 = .ok (.istore_n 1, 1) := by decide +kernel
theorem dX10_hasSameMonomials_83 : decode cX10_hasSameMonomials 83 = .ok (.iinc 2 1, 3) := by decide +kernel
theorem dX10_hasSameMonomials_86 : decode cX10_hasSameMonomials 86 = .ok (.goto (-63), 3) := by decide +kernel
theorem dX10_hasSameMonomials_89 : decode cX10_hasSameMonomials 89 = .ok (.iload_n 1, 1) := by decide +kernel
theorem dX10_hasSameMonomials_90 : decode cX10_hasSameMonomials 90 = .ok (.ireturn, 1) := by decide +kernel
theorem dX10_misfits_0 : decode cX10_misfits 0 = .ok (.aload_n 0, 1) := by decide +kernel
theorem dX10_misfits_1 : decode cX10_misfits 1 = .ok (.iconst 0, 1) := by decide +kernel
theorem dX10_misfits_2 : decode cX10_misfits 2 = .ok (.putfield 91, 3) := by decide +kernel
theorem dX10_misfits_5 : decode cX10_misfits 5 = .ok (.aload_n 0, 1) := by decide +kernel
theorem dX10_misfits_6 : decode cX10_misfits 6 = .ok (.getfield 7, 3) := by decide +kernel
theorem dX10_misfits_9 : decode cX10_misfits 9 = .ok (.iconst 3, 1) := by decide +kernel
theorem dX10_misfits_10 : decode cX10_misfits 10 = .ok (.iaload, 1) := by decide +kernel
theorem dX10_misfits_11 : decode cX10_misfits 11 = .ok (.ifCond .ne 5, 3) := by decide +kernel
theorem dX10_misfits_14 : decode cX10_misfits 14 = .ok (.iconst (-1), 1) := by decide +kernel
theorem dX10_misfits_15 : decode cX10_misfits 15 = .ok (.ireturn, 1) := by decide +kernel
theorem dX10_misfits_16 : decode cX10_misfits 16 = .ok (.aload_n 0, 1) := by decide +kernel
theorem dX10_misfits_17 : decode cX10_misfits 17 = .ok (.getfield 7, 3) := by decide +kernel
theorem dX10_misfits_20 : decode cX10_misfits 20 = .ok (.iconst 0, 1) := by decide +kernel
theorem dX10_misfits_21 : decode cX10_misfits 21 = .ok (.aload_n 0, 1) := by decide +kernel
theorem dX10_misfits_22 : decode cX10_misfits 22 = .ok (.getfield 13, 3) := by decide +kernel
theorem dX10_misfits_25 : decode cX10_misfits 25 = .ok (.iconst 0, 1) := by decide +kernel
theorem dX10_misfits_26 : decode cX10_misfits 26 = .ok (.invokestatic 136, 3) := by decide +kernel
theorem dX10_misfits_29 : decode cX10_misfits 29 = .ok (.aload_n 0, 1) := by decide +kernel
theorem dX10_misfits_30 : decode cX10_misfits 30 = .ok (.invokevirtual 395, 3) := by decide +kernel
theorem dX10_misfits_33 : decode cX10_misfits 33 = .ok (.aload_n 0, 1) := by decide +kernel
theorem dX10_misfits_34 : decode cX10_misfits 34 = .ok (.invokevirtual 398, 3) := by decide +kernel
theorem dX10_misfits_37 : decode cX10_misfits 37 = .ok (.ifCond .eq 7, 3) := by decide +kernel
theorem dX10_misfits_40 : decode cX10_misfits 40 = .ok (.iconst 0, 1) := by decide +kernel
theorem dX10_misfits_41 : decode cX10_misfits 41 = .ok (.goto 4, 3) := by decide +kernel
theorem dX10_misfits_44 : decode cX10_misfits 44 = .ok (.iconst (-1), 1) := by decide +kernel
theorem dX10_misfits_45 : decode cX10_misfits 45 = .ok (.istore_n 1, 1) := by decide +kernel
theorem dX10_misfits_46 : decode cX10_misfits 46 = .ok (.iconst 0, 1) := by decide +kernel
theorem dX10_misfits_47 : decode cX10_misfits 47 = .ok (.istore_n 2, 1) := by decide +kernel
theorem dX10_misfits_48 : decode cX10_misfits 48 = .ok (.iload_n 2, 1) := by decide +kernel
theorem dX10_misfits_49 : decode cX10_misfits 49 = .ok (.aload_n 0, 1) := by decide +kernel
theorem dX10_misfits_50 : decode cX10_misfits 50 = .ok (.getfield 7, 3) := by decide +kernel
theorem dX10_misfits_53 : decode cX10_misfits 53 = .ok (.iconst 2, 1) := by decide +kernel
theorem dX10_misfits_54 : decode cX10_misfits 54 = .ok (.iaload, 1) := by decide +kernel
theorem dX10_misfits_55 : decode cX10_misfits 55 = .ok (.if_icmp .ge 81, 3) := by decide +kernel
theorem dX10_misfits_58 : decode cX10_misfits 58 = .ok (.iload_n 1, 1) := by decide +kernel
theorem dX10_misfits_59 : decode cX10_misfits 59 = .ok (.iconst (-1), 1) := by decide +kernel
theorem dX10_misfits_60 : decode cX10_misfits 60 = .ok (.if_icmp .eq 76, 3) := by decide +kernel
theorem dX10_misfits_63 : decode cX10_misfits 63 = .ok (.iconst 1, 1) := by decide +kernel
theorem dX10_misfits_64 : decode cX10_misfits 64 = .ok (.istore_n 3, 1) := by decide +kernel
theorem dX10_misfits_65 : decode cX10_misfits 65 = .ok (.iconst 0, 1) := by decide +kernel
theorem dX10_misfits_66 : decode cX10_misfits 66 = .ok (.istore 4, 2) := by decide +kernel
theorem dX10_misfits_68 : decode cX10_misfits 68 = .ok (.iload 4, 2) := by decide +kernel
theorem dX10_misfits_70 : decode cX10_misfits 70 = .ok (.aload_n 0, 1) := by decide +kernel
theorem dX10_misfits_71 : decode cX10_misfits 71 = .ok (.invokevirtual 105, 3) := by decide +kernel
theorem dX10_misfits_74 : decode cX10_misfits 74 = .ok (.if_icmp .ge 44, 3) := by decide +kernel
theorem dX10_misfits_77 : decode cX10_misfits 77 = .ok (.iload_n 3, 1) := by decide +kernel
theorem dX10_misfits_78 : decode cX10_misfits 78 = .ok (.ifCond .eq 32, 3) := by decide +kernel
theorem dX10_misfits_81 : decode cX10_misfits 81 = .ok (.aload_n 0, 1) := by decide +kernel
theorem dX10_misfits_82 : decode cX10_misfits 82 = .ok (.getfield 7, 3) := by decide +kernel
theorem dX10_misfits_85 : decode cX10_misfits 85 = .ok (.iload_n 2, 1) := by decide +kernel
theorem dX10_misfits_86 : decode cX10_misfits 86 = .ok (.iload 4, 2) := by decide +kernel
theorem dX10_misfits_88 : decode cX10_misfits 88 = .ok (.invokestatic 130, 3) := by decide +kernel
theorem dX10_misfits_91 : decode cX10_misfits 91 = .ok (.iaload, 1) := by decide +kernel
theorem dX10_misfits_92 : decode cX10_misfits 92 = .ok (.aload_n 0, 1) := by decide +kernel
theorem dX10_misfits_93 : decode cX10_misfits 93 = .ok (.getfield 13, 3) := by decide +kernel
theorem dX10_misfits_96 : decode cX10_misfits 96 = .ok (.iload_n 2, 1) := by decide +kernel
theorem dX10_misfits_97 : decode cX10_misfits 97 = .ok (.iload 4, 2) := by decide +kernel
theorem dX10_misfits_99 : decode cX10_misfits 99 = .ok (.invokestatic 130, 3) := by decide +kernel
theorem dX10_misfits_102 : decode cX10_misfits 102 = .ok (.iaload, 1) := by decide +kernel
theorem dX10_misfits_103 : decode cX10_misfits 103 = .ok (.if_icmp .ne 7, 3) := by decide +kernel
theorem dX10_misfits_106 : decode cX10_misfits 106 = .ok (.iconst 1, 1) := by decide +kernel
theorem dX10_misfits_107 : decode cX10_misfits 107 = .ok (.goto 4, 3) := by decide +kernel
theorem dX10_misfits_110 : decode cX10_misfits 110 = .ok (.iconst 0, 1) := by decide +kernel
theorem dX10_misfits_111 : decode cX10_misfits 111 = .ok (.istore_n 3, 1) := by decide +kernel
theorem dX10_misfits_112 : decode cX10_misfits 112 = .ok (.iinc 4 1, 3) := by decide +kernel
theorem dX10_misfits_115 : decode cX10_misfits 115 = .ok (.goto (-47), 3) := by decide +kernel
theorem dX10_misfits_118 : decode cX10_misfits 118 = .ok (.iload_n 1, 1) := by decide +kernel
theorem dX10_misfits_119 : decode cX10_misfits 119 = .ok (.iload_n 3, 1) := by decide +kernel
theorem dX10_misfits_120 : decode cX10_misfits 120 = .ok (.ifCond .eq 7, 3) := by decide +kernel
theorem dX10_misfits_123 : decode cX10_misfits 123 = .ok (.iconst 0, 1) := by decide +kernel
theorem dX10_misfits_124 : decode cX10_misfits 124 = .ok (.goto 4, 3) := by decide +kernel
theorem dX10_misfits_127 : decode cX10_misfits 127 = .ok (.iconst 1, 1) := by decide +kernel
theorem dX10_misfits_128 : decode cX10_misfits 128 = .ok (.iadd, 1) := by decide +kernel
theorem dX10_misfits_129 : decode cX10_misfits 129 = .ok (.istore_n 1, 1) := by decide +kernel
theorem dX10_misfits_130 : decode cX10_misfits 130 = .ok (.iinc 2 1, 3) := by decide +kernel
theorem dX10_misfits_133 : decode cX10_misfits 133 = .ok (.goto (-85), 3) := by decide +kernel
theorem dX10_misfits_136 : decode cX10_misfits 136 = .ok (.aload_n 0, 1) := by decide +kernel
theorem dX10_misfits_137 : decode cX10_misfits 137 = .ok (.getfield 13, 3) := by decide +kernel
theorem dX10_misfits_140 : decode cX10_misfits 140 = .ok (.iconst 0, 1) := by decide +kernel
theorem dX10_misfits_141 : decode cX10_misfits 141 = .ok (.aload_n 0, 1) := by decide +kernel
theorem dX10_misfits_142 : decode cX10_misfits 142 = .ok (.getfield 7, 3) := by decide +kernel
theorem dX10_misfits_145 : decode cX10_misfits 145 = .ok (.iconst 0, 1) := by decide +kernel
theorem dX10_misfits_146 : decode cX10_misfits 146 = .ok (.invokestatic 136, 3) := by decide +kernel
theorem dX10_misfits_149 : decode cX10_misfits 149 = .ok (.iload_n 1, 1) := by decide +kernel
theorem dX10_misfits_150 : decode cX10_misfits 150 = .ok (.ireturn, 1) := by decide +kernel
theorem dX10_undo_0 : decode cX10_undo 0 = .ok (.aload_n 0, 1) := by decide +kernel
theorem dX10_undo_1 : decode cX10_undo 1 = .ok (.iconst 0, 1) := by decide +kernel
theorem dX10_undo_2 : decode cX10_undo 2 = .ok (.putfield 91, 3) := by decide +kernel
theorem dX10_undo_5 : decode cX10_undo 5 = .ok (.aload_n 0, 1) := by decide +kernel
theorem dX10_undo_6 : decode cX10_undo 6 = .ok (.getfield 251, 3) := by decide +kernel
theorem dX10_undo_9 : decode cX10_undo 9 = .ok (.ifCond .ne 5, 3) := by decide +kernel
theorem dX10_undo_12 : decode cX10_undo 12 = .ok (.iconst (-1), 1) := by decide +kernel
theorem dX10_undo_13 : decode cX10_undo 13 = .ok (.ireturn, 1) := by decide +kernel
theorem dX10_undo_14 : decode cX10_undo 14 = .ok (.aload_n 0, 1) := by decide +kernel
theorem dX10_undo_15 : decode cX10_undo 15 = .ok (.dup, 1) := by decide +kernel
theorem dX10_undo_16 : decode cX10_undo 16 = .ok (.getfield 251, 3) := by decide +kernel
theorem dX10_undo_19 : decode cX10_undo 19 = .ok (.iconst 1, 1) := by decide +kernel
theorem dX10_undo_20 : decode cX10_undo 20 = .ok (.isub, 1) := by decide +kernel
theorem dX10_undo_21 : decode cX10_undo 21 = .ok (.putfield 251, 3) := by decide +kernel
theorem dX10_undo_24 : decode cX10_undo 24 = .ok (.aload_n 0, 1) := by decide +kernel
theorem dX10_undo_25 : decode cX10_undo 25 = .ok (.getfield 19, 3) := by decide +kernel
theorem dX10_undo_28 : decode cX10_undo 28 = .ok (.sipush 248, 3) := by decide +kernel
theorem dX10_undo_31 : decode cX10_undo 31 = .ok (.aload_n 0, 1) := by decide +kernel
theorem dX10_undo_32 : decode cX10_undo 32 = .ok (.getfield 251, 3) := by decide +kernel
theorem dX10_undo_35 : decode cX10_undo 35 = .ok (.imul, 1) := by decide +kernel
theorem dX10_undo_36 : decode cX10_undo 36 = .ok (.aload_n 0, 1) := by decide +kernel
theorem dX10_undo_37 : decode cX10_undo 37 = .ok (.getfield 7, 3) := by decide +kernel
theorem dX10_undo_40 : decode cX10_undo 40 = .ok (.iconst 0, 1) := by decide +kernel
theorem dX10_undo_41 : decode cX10_undo 41 = .ok (.invokestatic 136, 3) := by decide +kernel
theorem dX10_undo_44 : decode cX10_undo 44 = .ok (.aload_n 0, 1) := by decide +kernel
theorem dX10_undo_45 : decode cX10_undo 45 = .ok (.getfield 251, 3) := by decide +kernel
theorem dX10_undo_48 : decode cX10_undo 48 = .ok (.ireturn, 1) := by decide +kernel
theorem dX10_save_0 : decode cX10_save 0 = .ok (.aload_n 0, 1) := by decide +kernel
theorem dX10_save_1 : decode cX10_save 1 = .ok (.iload_n 1, 1) := by decide +kernel
theorem dX10_save_2 : decode cX10_save 2 = .ok (.iconst 0, 1) := by decide +kernel
theorem dX10_save_3 : decode cX10_save 3 = .ok (.iconst 1, 1) := by decide +kernel
theorem dX10_save_4 : decode cX10_save 4 = .ok (.invokestatic 101, 3) := by decide +kernel
theorem dX10_save_7 : decode cX10_save 7 = .ok (.ifCond .eq 7, 3) := by decide +kernel
theorem dX10_save_10 : decode cX10_save 10 = .ok (.iconst 0, 1) := by decide +kernel
theorem dX10_save_11 : decode cX10_save 11 = .ok (.goto 4, 3) := by decide +kernel
theorem dX10_save_14 : decode cX10_save 14 = .ok (.iconst 1, 1) := by decide +kernel
theorem dX10_save_15 : decode cX10_save 15 = .ok (.putfield 91, 3) := by decide +kernel
theorem dX10_save_18 : decode cX10_save 18 = .ok (.aload_n 0, 1) := by decide +kernel
theorem dX10_save_19 : decode cX10_save 19 = .ok (.getfield 91, 3) := by decide +kernel
theorem dX10_save_22 : decode cX10_save 22 = .ok (.ifCond .le 4, 3) := by decide +kernel
theorem dX10_save_25 : decode cX10_save 25 = .ok (.return_, 1) := by decide +kernel
theorem dX10_save_26 : decode cX10_save 26 = .ok (.aload_n 0, 1) := by decide +kernel
theorem dX10_save_27 : decode cX10_save 27 = .ok (.getfield 7, 3) := by decide +kernel
theorem dX10_save_30 : decode cX10_save 30 = .ok (.iconst 0, 1) := by decide +kernel
theorem dX10_save_31 : decode cX10_save 31 = .ok (.aload_n 0, 1) := by decide +kernel
theorem dX10_save_32 : decode cX10_save 32 = .ok (.getfield 22, 3) := by decide +kernel
theorem dX10_save_35 : decode cX10_save 35 = .ok (.sipush 248, 3) := by decide +kernel
theorem dX10_save_38 : decode cX10_save 38 = .ok (.iload_n 1, 1) := by decide +kernel
theorem dX10_save_39 : decode cX10_save 39 = .ok (.imul, 1) := by decide +kernel
theorem dX10_save_40 : decode cX10_save 40 = .ok (.invokestatic 136, 3) := by decide +kernel
theorem dX10_save_43 : decode cX10_save 43 = .ok (.aload_n 0, 1) := by decide +kernel
theorem dX10_save_44 : decode cX10_save 44 = .ok (.getfield 25, 3) := by decide +kernel
theorem dX10_save_47 : decode cX10_save 47 = .ok (.iload_n 1, 1) := by decide +kernel
theorem dX10_save_48 : decode cX10_save 48 = .ok (.iconst 1, 1) := by decide +kernel
theorem dX10_save_49 : decode cX10_save 49 = .ok (.bastore, 1) := by decide +kernel
theorem dX10_save_50 : decode cX10_save 50 = .ok (.return_, 1) := by decide +kernel
theorem dX10_restore_0 : decode cX10_restore 0 = .ok (.aload_n 0, 1) := by decide +kernel
theorem dX10_restore_1 : decode cX10_restore 1 = .ok (.iload_n 1, 1) := by decide +kernel
theorem dX10_restore_2 : decode cX10_restore 2 = .ok (.iconst 0, 1) := by decide +kernel
theorem dX10_restore_3 : decode cX10_restore 3 = .ok (.iconst 1, 1) := by decide +kernel
theorem dX10_restore_4 : decode cX10_restore 4 = .ok (.invokestatic 101, 3) := by decide +kernel
theorem dX10_restore_7 : decode cX10_restore 7 = .ok (.ifCond .ne 7, 3) := by decide +kernel
theorem dX10_restore_10 : decode cX10_restore 10 = .ok (.iconst 1, 1) := by decide +kernel
theorem dX10_restore_11 : decode cX10_restore 11 = .ok (.goto 17, 3) := by decide +kernel
theorem dX10_restore_14 : decode cX10_restore 14 = .ok (.aload_n 0, 1) := by decide +kernel
theorem dX10_restore_15 : decode cX10_restore 15 = .ok (.getfield 25, 3) := by decide +kernel
theorem dX10_restore_18 : decode cX10_restore 18 = .ok (.iload_n 1, 1) := by decide +kernel
theorem dX10_restore_19 : decode cX10_restore 19 = .ok (.baload, 1) := by decide +kernel
theorem dX10_restore_20 : decode cX10_restore 20 = .ok (.ifCond .eq 7, 3) := by decide +kernel
theorem dX10_restore_23 : decode cX10_restore 23 = .ok (.iconst 0, 1) := by decide +kernel
theorem dX10_restore_24 : decode cX10_restore 24 = .ok (.goto 4, 3) := by decide +kernel
theorem dX10_restore_27 : decode cX10_restore 27 = .ok (.iconst 2, 1) := by decide +kernel
theorem dX10_restore_28 : decode cX10_restore 28 = .ok (.putfield 91, 3) := by decide +kernel
theorem dX10_restore_31 : decode cX10_restore 31 = .ok (.aload_n 0, 1) := by decide +kernel
theorem dX10_restore_32 : decode cX10_restore 32 = .ok (.getfield 91, 3) := by decide +kernel
theorem dX10_restore_35 : decode cX10_restore 35 = .ok (.ifCond .le 4, 3) := by decide +kernel
theorem dX10_restore_38 : decode cX10_restore 38 = .ok (.return_, 1) := by decide +kernel
theorem dX10_restore_39 : decode cX10_restore 39 = .ok (.aload_n 0, 1) := by decide +kernel
theorem dX10_restore_40 : decode cX10_restore 40 = .ok (.getfield 22, 3) := by decide +kernel
theorem dX10_restore_43 : decode cX10_restore 43 = .ok (.sipush 248, 3) := by decide +kernel
theorem dX10_restore_46 : decode cX10_restore 46 = .ok (.iload_n 1, 1) := by decide +kernel
theorem dX10_restore_47 : decode cX10_restore 47 = .ok (.imul, 1) := by decide +kernel
theorem dX10_restore_48 : decode cX10_restore 48 = .ok (.aload_n 0, 1) := by decide +kernel
theorem dX10_restore_49 : decode cX10_restore 49 = .ok (.getfield 7, 3) := by decide +kernel
theorem dX10_restore_52 : decode cX10_restore 52 = .ok (.iconst 0, 1) := by decide +kernel
theorem dX10_restore_53 : decode cX10_restore 53 = .ok (.invokestatic 136, 3) := by decide +kernel
theorem dX10_restore_56 : decode cX10_restore 56 = .ok (.aload_n 0, 1) := by decide +kernel
theorem dX10_restore_57 : decode cX10_restore 57 = .ok (.iconst 0, 1) := by decide +kernel
theorem dX10_restore_58 : decode cX10_restore 58 = .ok (.putfield 251, 3) := by decide +kernel
theorem dX10_restore_61 : decode cX10_restore 61 = .ok (.return_, 1) := by decide +kernel
theorem dJ0_length_8abf5_0 : decode cJ0_length_8abf5 0 = .ok (.aload_n 0, 1) := by decide +kernel
theorem dJ0_length_8abf5_1 : decode cJ0_length_8abf5 1 = .ok (.getfield 9, 3) := by decide +kernel
theorem dJ0_length_8abf5_4 : decode cJ0_length_8abf5 4 = .ok (.arraylength, 1) := by decide +kernel
theorem dJ0_length_8abf5_5 : decode cJ0_length_8abf5 5 = .ok (.aload_n 0, 1) := by decide +kernel
theorem dJ0_length_8abf5_6 : decode cJ0_length_8abf5 6 = .ok (.invokevirtual 335, 3) := by decide +kernel
theorem dJ0_length_8abf5_9 : decode cJ0_length_8abf5 9 = .ok (.ishr, 1) := by decide +kernel
theorem dJ0_length_8abf5_10 : decode cJ0_length_8abf5 10 = .ok (.ireturn, 1) := by decide +kernel
theorem dJ0_charAt_5068e_0 : decode cJ0_charAt_5068e 0 = .ok (.aload_n 0, 1) := by decide +kernel
theorem dJ0_charAt_5068e_1 : decode cJ0_charAt_5068e 1 = .ok (.invokevirtual 492, 3) := by decide +kernel
theorem dJ0_charAt_5068e_4 : decode cJ0_charAt_5068e 4 = .ok (.ifCond .eq 12, 3) := by decide +kernel
theorem dJ0_charAt_5068e_7 : decode cJ0_charAt_5068e 7 = .ok (.aload_n 0, 1) := by decide +kernel
theorem dJ0_charAt_5068e_8 : decode cJ0_charAt_5068e 8 = .ok (.getfield 9, 3) := by decide +kernel
theorem dJ0_charAt_5068e_11 : decode cJ0_charAt_5068e 11 = .ok (.iload_n 1, 1) := by decide +kernel
theorem dJ0_charAt_5068e_12 : decode cJ0_charAt_5068e 12 = .ok (.invokestatic 495, 3) := by decide +kernel
theorem dJ0_charAt_5068e_15 : decode cJ0_charAt_5068e 15 = .ok (.ireturn, 1) := by decide +kernel
theorem dJ0_charAt_5068e_16 : decode cJ0_charAt_5068e 16 = .ok (.aload_n 0, 1) := by decide +kernel
theorem dJ0_charAt_5068e_17 : decode cJ0_charAt_5068e 17 = .ok (.getfield 9, 3) := by decide +kernel
theorem dJ0_charAt_5068e_20 : decode cJ0_charAt_5068e 20 = .ok (.iload_n 1, 1) := by decide +kernel
theorem dJ0_charAt_5068e_21 : decode cJ0_charAt_5068e 21 = .ok (.invokestatic 498, 3) := by decide +kernel
theorem dJ0_charAt_5068e_24 : decode cJ0_charAt_5068e 24 = .ok (.ireturn, 1) := by decide +kernel
theorem dJ0_coder_7d493_0 : decode cJ0_coder_7d493 0 = .ok (.getstatic 38, 3) := by decide +kernel
theorem dJ0_coder_7d493_3 : decode cJ0_coder_7d493 3 = .ok (.ifCond .eq 10, 3) := by decide +kernel
theorem dJ0_coder_7d493_6 : decode cJ0_coder_7d493 6 = .ok (.aload_n 0, 1) := by decide +kernel
theorem dJ0_coder_7d493_7 : decode cJ0_coder_7d493 7 = .ok (.getfield 15, 3) := by decide +kernel
theorem dJ0_coder_7d493_10 : decode cJ0_coder_7d493 10 = .ok (.goto 4, 3) := by decide +kernel
theorem dJ0_coder_7d493_13 : decode cJ0_coder_7d493 13 = .ok (.iconst 1, 1) := by decide +kernel
theorem dJ0_coder_7d493_14 : decode cJ0_coder_7d493 14 = .ok (.ireturn, 1) := by decide +kernel
theorem dJ0_isLatin1_aae02_0 : decode cJ0_isLatin1_aae02 0 = .ok (.getstatic 38, 3) := by decide +kernel
theorem dJ0_isLatin1_aae02_3 : decode cJ0_isLatin1_aae02 3 = .ok (.ifCond .eq 14, 3) := by decide +kernel
theorem dJ0_isLatin1_aae02_6 : decode cJ0_isLatin1_aae02 6 = .ok (.aload_n 0, 1) := by decide +kernel
theorem dJ0_isLatin1_aae02_7 : decode cJ0_isLatin1_aae02 7 = .ok (.getfield 15, 3) := by decide +kernel
theorem dJ0_isLatin1_aae02_10 : decode cJ0_isLatin1_aae02 10 = .ok (.ifCond .ne 7, 3) := by decide +kernel
theorem dJ0_isLatin1_aae02_13 : decode cJ0_isLatin1_aae02 13 = .ok (.iconst 1, 1) := by decide +kernel
theorem dJ0_isLatin1_aae02_14 : decode cJ0_isLatin1_aae02 14 = .ok (.goto 4, 3) := by decide +kernel
theorem dJ0_isLatin1_aae02_17 : decode cJ0_isLatin1_aae02 17 = .ok (.iconst 0, 1) := by decide +kernel
theorem dJ0_isLatin1_aae02_18 : decode cJ0_isLatin1_aae02 18 = .ok (.ireturn, 1) := by decide +kernel
theorem dJ0_checkIndex_df160_0 : decode cJ0_checkIndex_df160 0 = .ok (.iload_n 0, 1) := by decide +kernel
theorem dJ0_checkIndex_df160_1 : decode cJ0_checkIndex_df160 1 = .ok (.iload_n 1, 1) := by decide +kernel
theorem dJ0_checkIndex_df160_2 : decode cJ0_checkIndex_df160 2 = .ok (.getstatic 1053, 3) := by decide +kernel
theorem dJ0_checkIndex_df160_5 : decode cJ0_checkIndex_df160 5 = .ok (.invokestatic 1059, 3) := by decide +kernel
theorem dJ0_checkIndex_df160_8 : decode cJ0_checkIndex_df160 8 = .ok (.pop, 1) := by decide +kernel
theorem dJ0_checkIndex_df160_9 : decode cJ0_checkIndex_df160 9 = .ok (.return_, 1) := by decide +kernel
theorem dJ1_charAt_3b067_0 : decode cJ1_charAt_3b067 0 = .ok (.iload_n 1, 1) := by decide +kernel
theorem dJ1_charAt_3b067_1 : decode cJ1_charAt_3b067 1 = .ok (.aload_n 0, 1) := by decide +kernel
theorem dJ1_charAt_3b067_2 : decode cJ1_charAt_3b067 2 = .ok (.arraylength, 1) := by decide +kernel
theorem dJ1_charAt_3b067_3 : decode cJ1_charAt_3b067 3 = .ok (.invokestatic 9, 3) := by decide +kernel
theorem dJ1_charAt_3b067_6 : decode cJ1_charAt_3b067 6 = .ok (.aload_n 0, 1) := by decide +kernel
theorem dJ1_charAt_3b067_7 : decode cJ1_charAt_3b067 7 = .ok (.iload_n 1, 1) := by decide +kernel
theorem dJ1_charAt_3b067_8 : decode cJ1_charAt_3b067 8 = .ok (.baload, 1) := by decide +kernel
theorem dJ1_charAt_3b067_9 : decode cJ1_charAt_3b067 9 = .ok (.sipush 255, 3) := by decide +kernel
theorem dJ1_charAt_3b067_12 : decode cJ1_charAt_3b067 12 = .ok (.iand, 1) := by decide +kernel
theorem dJ1_charAt_3b067_13 : decode cJ1_charAt_3b067 13 = .ok (.i2c, 1) := by decide +kernel
theorem dJ1_charAt_3b067_14 : decode cJ1_charAt_3b067 14 = .ok (.ireturn, 1) := by decide +kernel
theorem dJ2_checkIndex_2214a_0 : decode cJ2_checkIndex_2214a 0 = .ok (.iload_n 0, 1) := by decide +kernel
theorem dJ2_checkIndex_2214a_1 : decode cJ2_checkIndex_2214a 1 = .ok (.aload_n 1, 1) := by decide +kernel
theorem dJ2_checkIndex_2214a_2 : decode cJ2_checkIndex_2214a 2 = .ok (.invokestatic 48, 3) := by decide +kernel
theorem dJ2_checkIndex_2214a_5 : decode cJ2_checkIndex_2214a 5 = .ok (.invokestatic 414, 3) := by decide +kernel
theorem dJ2_checkIndex_2214a_8 : decode cJ2_checkIndex_2214a 8 = .ok (.return_, 1) := by decide +kernel
theorem dJ7_fill_53178_0 : decode cJ7_fill_53178 0 = .ok (.iconst 0, 1) := by decide +kernel
theorem dJ7_fill_53178_1 : decode cJ7_fill_53178 1 = .ok (.istore_n 2, 1) := by decide +kernel
theorem dJ7_fill_53178_2 : decode cJ7_fill_53178 2 = .ok (.aload_n 0, 1) := by decide +kernel
theorem dJ7_fill_53178_3 : decode cJ7_fill_53178 3 = .ok (.arraylength, 1) := by decide +kernel
theorem dJ7_fill_53178_4 : decode cJ7_fill_53178 4 = .ok (.istore_n 3, 1) := by decide +kernel
theorem dJ7_fill_53178_5 : decode cJ7_fill_53178 5 = .ok (.iload_n 2, 1) := by decide +kernel
theorem dJ7_fill_53178_6 : decode cJ7_fill_53178 6 = .ok (.iload_n 3, 1) := by decide +kernel
theorem dJ7_fill_53178_7 : decode cJ7_fill_53178 7 = .ok (.if_icmp .ge 13, 3) := by decide +kernel
theorem dJ7_fill_53178_10 : decode cJ7_fill_53178 10 = .ok (.aload_n 0, 1) := by decide +kernel
theorem dJ7_fill_53178_11 : decode cJ7_fill_53178 11 = .ok (.iload_n 2, 1) := by decide +kernel
theorem dJ7_fill_53178_12 : decode cJ7_fill_53178 12 = .ok (.iload_n 1, 1) := by decide +kernel
theorem dJ7_fill_53178_13 : decode cJ7_fill_53178 13 = .ok (.iastore, 1) := by decide +kernel
theorem dJ7_fill_53178_14 : decode cJ7_fill_53178 14 = .ok (.iinc 2 1, 3) := by decide +kernel
theorem dJ7_fill_53178_17 : decode cJ7_fill_53178 17 = .ok (.goto (-12), 3) := by decide +kernel
theorem dJ7_fill_53178_20 : decode cJ7_fill_53178 20 = .ok (.return_, 1) := by decide +kernel
theorem dJ3_checkIndex_8e157_0 : decode cJ3_checkIndex_8e157 0 = .ok (.iload_n 0, 1) := by decide +kernel
theorem dJ3_checkIndex_8e157_1 : decode cJ3_checkIndex_8e157 1 = .ok (.ifCond .lt 8, 3) := by decide +kernel
theorem dJ3_checkIndex_8e157_4 : decode cJ3_checkIndex_8e157 4 = .ok (.iload_n 0, 1) := by decide +kernel
theorem dJ3_checkIndex_8e157_5 : decode cJ3_checkIndex_8e157 5 = .ok (.iload_n 1, 1) := by decide +kernel
theorem dJ3_checkIndex_8e157_6 : decode cJ3_checkIndex_8e157 6 = .ok (.if_icmp .lt 10, 3) := by decide +kernel
theorem dJ3_checkIndex_8e157_9 : decode cJ3_checkIndex_8e157 9 = .ok (.aload_n 2, 1) := by decide +kernel
theorem dJ3_checkIndex_8e157_10 : decode cJ3_checkIndex_8e157 10 = .ok (.iload_n 0, 1) := by decide +kernel
theorem dJ3_checkIndex_8e157_11 : decode cJ3_checkIndex_8e157 11 = .ok (.iload_n 1, 1) := by decide +kernel
theorem dJ3_checkIndex_8e157_12 : decode cJ3_checkIndex_8e157 12 = .ok (.invokestatic 95, 3) := by decide +kernel
theorem dJ3_checkIndex_8e157_15 : decode cJ3_checkIndex_8e157 15 = .ok (.athrow, 1) := by decide +kernel
theorem dJ3_checkIndex_8e157_16 : decode cJ3_checkIndex_8e157 16 = .ok (.iload_n 0, 1) := by decide +kernel
theorem dJ3_checkIndex_8e157_17 : decode cJ3_checkIndex_8e157 17 = .ok (.ireturn, 1) := by decide +kernel
theorem dL_appendText_0 : decode cL_appendText 0 = .ok (.aload_n 2, 1) := by decide +kernel
theorem dL_appendText_1 : decode cL_appendText 1 = .ok (.iconst 0, 1) := by decide +kernel
theorem dL_appendText_2 : decode cL_appendText 2 = .ok (.aload_n 0, 1) := by decide +kernel
theorem dL_appendText_3 : decode cL_appendText 3 = .ok (.iload_n 1, 1) := by decide +kernel
theorem dL_appendText_4 : decode cL_appendText 4 = .ok (.invokevirtual 7, 3) := by decide +kernel
theorem dL_appendText_7 : decode cL_appendText 7 = .ok (.i2l, 1) := by decide +kernel
theorem dL_appendText_8 : decode cL_appendText 8 = .ok (.lastore, 1) := by decide +kernel
theorem dL_appendText_9 : decode cL_appendText 9 = .ok (.goto 6, 3) := by decide +kernel
theorem dL_appendText_12 : decode cL_appendText 12 = .ok (.astore_n 3, 1) := by decide +kernel
theorem dL_appendText_13 : decode cL_appendText 13 = .ok (.iconst 1, 1) := by decide +kernel
theorem dL_appendText_14 : decode cL_appendText 14 = .ok (.ireturn, 1) := by decide +kernel
theorem dL_appendText_15 : decode cL_appendText 15 = .ok (.iconst 0, 1) := by decide +kernel
theorem dL_appendText_16 : decode cL_appendText 16 = .ok (.ireturn, 1) := by decide +kernel
theorem dL_truncateText_0 : decode cL_truncateText 0 = .ok (.aload_n 2, 1) := by decide +kernel
theorem dL_truncateText_1 : decode cL_truncateText 1 = .ok (.iconst 0, 1) := by decide +kernel
theorem dL_truncateText_2 : decode cL_truncateText 2 = .ok (.aload_n 0, 1) := by decide +kernel
theorem dL_truncateText_3 : decode cL_truncateText 3 = .ok (.iload_n 1, 1) := by decide +kernel
theorem dL_truncateText_4 : decode cL_truncateText 4 = .ok (.invokevirtual 15, 3) := by decide +kernel
theorem dL_truncateText_7 : decode cL_truncateText 7 = .ok (.i2l, 1) := by decide +kernel
theorem dL_truncateText_8 : decode cL_truncateText 8 = .ok (.lastore, 1) := by decide +kernel
theorem dL_truncateText_9 : decode cL_truncateText 9 = .ok (.goto 6, 3) := by decide +kernel
theorem dL_truncateText_12 : decode cL_truncateText 12 = .ok (.astore_n 3, 1) := by decide +kernel
theorem dL_truncateText_13 : decode cL_truncateText 13 = .ok (.iconst 1, 1) := by decide +kernel
theorem dL_truncateText_14 : decode cL_truncateText 14 = .ok (.ireturn, 1) := by decide +kernel
theorem dL_truncateText_15 : decode cL_truncateText 15 = .ok (.iconst 0, 1) := by decide +kernel
theorem dL_truncateText_16 : decode cL_truncateText 16 = .ok (.ireturn, 1) := by decide +kernel
theorem dL_result_0 : decode cL_result 0 = .ok (.aload_n 2, 1) := by decide +kernel
theorem dL_result_1 : decode cL_result 1 = .ok (.iconst 0, 1) := by decide +kernel
theorem dL_result_2 : decode cL_result 2 = .ok (.aload_n 0, 1) := by decide +kernel
theorem dL_result_3 : decode cL_result 3 = .ok (.iload_n 1, 1) := by decide +kernel
theorem dL_result_4 : decode cL_result 4 = .ok (.invokevirtual 20, 3) := by decide +kernel
theorem dL_result_7 : decode cL_result 7 = .ok (.i2l, 1) := by decide +kernel
theorem dL_result_8 : decode cL_result 8 = .ok (.lastore, 1) := by decide +kernel
theorem dL_result_9 : decode cL_result 9 = .ok (.goto 6, 3) := by decide +kernel
theorem dL_result_12 : decode cL_result 12 = .ok (.astore_n 3, 1) := by decide +kernel
theorem dL_result_13 : decode cL_result 13 = .ok (.iconst 1, 1) := by decide +kernel
theorem dL_result_14 : decode cL_result 14 = .ok (.ireturn, 1) := by decide +kernel
theorem dL_result_15 : decode cL_result 15 = .ok (.iconst 0, 1) := by decide +kernel
theorem dL_result_16 : decode cL_result 16 = .ok (.ireturn, 1) := by decide +kernel
theorem dL_count_0 : decode cL_count 0 = .ok (.aload_n 2, 1) := by decide +kernel
theorem dL_count_1 : decode cL_count 1 = .ok (.iconst 0, 1) := by decide +kernel
theorem dL_count_2 : decode cL_count 2 = .ok (.aload_n 0, 1) := by decide +kernel
theorem dL_count_3 : decode cL_count 3 = .ok (.iload_n 1, 1) := by decide +kernel
theorem dL_count_4 : decode cL_count 4 = .ok (.invokevirtual 25, 3) := by decide +kernel
theorem dL_count_7 : decode cL_count 7 = .ok (.i2l, 1) := by decide +kernel
theorem dL_count_8 : decode cL_count 8 = .ok (.lastore, 1) := by decide +kernel
theorem dL_count_9 : decode cL_count 9 = .ok (.goto 6, 3) := by decide +kernel
theorem dL_count_12 : decode cL_count 12 = .ok (.astore_n 3, 1) := by decide +kernel
theorem dL_count_13 : decode cL_count 13 = .ok (.iconst 1, 1) := by decide +kernel
theorem dL_count_14 : decode cL_count 14 = .ok (.ireturn, 1) := by decide +kernel
theorem dL_count_15 : decode cL_count 15 = .ok (.iconst 0, 1) := by decide +kernel
theorem dL_count_16 : decode cL_count 16 = .ok (.ireturn, 1) := by decide +kernel
theorem dL_changes_0 : decode cL_changes 0 = .ok (.aload_n 2, 1) := by decide +kernel
theorem dL_changes_1 : decode cL_changes 1 = .ok (.iconst 0, 1) := by decide +kernel
theorem dL_changes_2 : decode cL_changes 2 = .ok (.aload_n 0, 1) := by decide +kernel
theorem dL_changes_3 : decode cL_changes 3 = .ok (.iload_n 1, 1) := by decide +kernel
theorem dL_changes_4 : decode cL_changes 4 = .ok (.invokevirtual 28, 3) := by decide +kernel
theorem dL_changes_7 : decode cL_changes 7 = .ok (.i2l, 1) := by decide +kernel
theorem dL_changes_8 : decode cL_changes 8 = .ok (.lastore, 1) := by decide +kernel
theorem dL_changes_9 : decode cL_changes 9 = .ok (.goto 6, 3) := by decide +kernel
theorem dL_changes_12 : decode cL_changes 12 = .ok (.astore_n 3, 1) := by decide +kernel
theorem dL_changes_13 : decode cL_changes 13 = .ok (.iconst 1, 1) := by decide +kernel
theorem dL_changes_14 : decode cL_changes 14 = .ok (.ireturn, 1) := by decide +kernel
theorem dL_changes_15 : decode cL_changes 15 = .ok (.iconst 0, 1) := by decide +kernel
theorem dL_changes_16 : decode cL_changes 16 = .ok (.ireturn, 1) := by decide +kernel
theorem dL_refusal_0 : decode cL_refusal 0 = .ok (.aload_n 3, 1) := by decide +kernel
theorem dL_refusal_1 : decode cL_refusal 1 = .ok (.iconst 0, 1) := by decide +kernel
theorem dL_refusal_2 : decode cL_refusal 2 = .ok (.aload_n 0, 1) := by decide +kernel
theorem dL_refusal_3 : decode cL_refusal 3 = .ok (.iload_n 1, 1) := by decide +kernel
theorem dL_refusal_4 : decode cL_refusal 4 = .ok (.iload_n 2, 1) := by decide +kernel
theorem dL_refusal_5 : decode cL_refusal 5 = .ok (.invokevirtual 31, 3) := by decide +kernel
theorem dL_refusal_8 : decode cL_refusal 8 = .ok (.i2l, 1) := by decide +kernel
theorem dL_refusal_9 : decode cL_refusal 9 = .ok (.lastore, 1) := by decide +kernel
theorem dL_refusal_10 : decode cL_refusal 10 = .ok (.goto 7, 3) := by decide +kernel
theorem dL_refusal_13 : decode cL_refusal 13 = .ok (.astore 4, 2) := by decide +kernel
theorem dL_refusal_15 : decode cL_refusal 15 = .ok (.iconst 1, 1) := by decide +kernel
theorem dL_refusal_16 : decode cL_refusal 16 = .ok (.ireturn, 1) := by decide +kernel
theorem dL_refusal_17 : decode cL_refusal 17 = .ok (.iconst 0, 1) := by decide +kernel
theorem dL_refusal_18 : decode cL_refusal 18 = .ok (.ireturn, 1) := by decide +kernel
theorem dL_join_0 : decode cL_join 0 = .ok (.aload_n 3, 1) := by decide +kernel
theorem dL_join_1 : decode cL_join 1 = .ok (.iconst 0, 1) := by decide +kernel
theorem dL_join_2 : decode cL_join 2 = .ok (.aload_n 0, 1) := by decide +kernel
theorem dL_join_3 : decode cL_join 3 = .ok (.iload_n 1, 1) := by decide +kernel
theorem dL_join_4 : decode cL_join 4 = .ok (.iload_n 2, 1) := by decide +kernel
theorem dL_join_5 : decode cL_join 5 = .ok (.invokevirtual 35, 3) := by decide +kernel
theorem dL_join_8 : decode cL_join 8 = .ok (.i2l, 1) := by decide +kernel
theorem dL_join_9 : decode cL_join 9 = .ok (.lastore, 1) := by decide +kernel
theorem dL_join_10 : decode cL_join 10 = .ok (.goto 11, 3) := by decide +kernel
theorem dL_join_13 : decode cL_join 13 = .ok (.astore 4, 2) := by decide +kernel
theorem dL_join_15 : decode cL_join 15 = .ok (.iconst 1, 1) := by decide +kernel
theorem dL_join_16 : decode cL_join 16 = .ok (.ireturn, 1) := by decide +kernel
theorem dL_join_17 : decode cL_join 17 = .ok (.astore 4, 2) := by decide +kernel
theorem dL_join_19 : decode cL_join 19 = .ok (.iconst 2, 1) := by decide +kernel
theorem dL_join_20 : decode cL_join 20 = .ok (.ireturn, 1) := by decide +kernel
theorem dL_join_21 : decode cL_join 21 = .ok (.iconst 0, 1) := by decide +kernel
theorem dL_join_22 : decode cL_join 22 = .ok (.ireturn, 1) := by decide +kernel
theorem dL_leave_0 : decode cL_leave 0 = .ok (.aload_n 3, 1) := by decide +kernel
theorem dL_leave_1 : decode cL_leave 1 = .ok (.iconst 0, 1) := by decide +kernel
theorem dL_leave_2 : decode cL_leave 2 = .ok (.aload_n 0, 1) := by decide +kernel
theorem dL_leave_3 : decode cL_leave 3 = .ok (.iload_n 1, 1) := by decide +kernel
theorem dL_leave_4 : decode cL_leave 4 = .ok (.iload_n 2, 1) := by decide +kernel
theorem dL_leave_5 : decode cL_leave 5 = .ok (.invokevirtual 38, 3) := by decide +kernel
theorem dL_leave_8 : decode cL_leave 8 = .ok (.i2l, 1) := by decide +kernel
theorem dL_leave_9 : decode cL_leave 9 = .ok (.lastore, 1) := by decide +kernel
theorem dL_leave_10 : decode cL_leave 10 = .ok (.goto 11, 3) := by decide +kernel
theorem dL_leave_13 : decode cL_leave 13 = .ok (.astore 4, 2) := by decide +kernel
theorem dL_leave_15 : decode cL_leave 15 = .ok (.iconst 1, 1) := by decide +kernel
theorem dL_leave_16 : decode cL_leave 16 = .ok (.ireturn, 1) := by decide +kernel
theorem dL_leave_17 : decode cL_leave 17 = .ok (.astore 4, 2) := by decide +kernel
theorem dL_leave_19 : decode cL_leave 19 = .ok (.iconst 2, 1) := by decide +kernel
theorem dL_leave_20 : decode cL_leave 20 = .ok (.ireturn, 1) := by decide +kernel
theorem dL_leave_21 : decode cL_leave 21 = .ok (.iconst 0, 1) := by decide +kernel
theorem dL_leave_22 : decode cL_leave 22 = .ok (.ireturn, 1) := by decide +kernel
theorem dL_monomial_0 : decode cL_monomial 0 = .ok (.aload_n 3, 1) := by decide +kernel
theorem dL_monomial_1 : decode cL_monomial 1 = .ok (.iconst 0, 1) := by decide +kernel
theorem dL_monomial_2 : decode cL_monomial 2 = .ok (.aload_n 0, 1) := by decide +kernel
theorem dL_monomial_3 : decode cL_monomial 3 = .ok (.iload_n 1, 1) := by decide +kernel
theorem dL_monomial_4 : decode cL_monomial 4 = .ok (.iload_n 2, 1) := by decide +kernel
theorem dL_monomial_5 : decode cL_monomial 5 = .ok (.invokevirtual 41, 3) := by decide +kernel
theorem dL_monomial_8 : decode cL_monomial 8 = .ok (.i2l, 1) := by decide +kernel
theorem dL_monomial_9 : decode cL_monomial 9 = .ok (.lastore, 1) := by decide +kernel
theorem dL_monomial_10 : decode cL_monomial 10 = .ok (.goto 11, 3) := by decide +kernel
theorem dL_monomial_13 : decode cL_monomial 13 = .ok (.astore 4, 2) := by decide +kernel
theorem dL_monomial_15 : decode cL_monomial 15 = .ok (.iconst 1, 1) := by decide +kernel
theorem dL_monomial_16 : decode cL_monomial 16 = .ok (.ireturn, 1) := by decide +kernel
theorem dL_monomial_17 : decode cL_monomial 17 = .ok (.astore 4, 2) := by decide +kernel
theorem dL_monomial_19 : decode cL_monomial 19 = .ok (.iconst 2, 1) := by decide +kernel
theorem dL_monomial_20 : decode cL_monomial 20 = .ok (.ireturn, 1) := by decide +kernel
theorem dL_monomial_21 : decode cL_monomial 21 = .ok (.iconst 0, 1) := by decide +kernel
theorem dL_monomial_22 : decode cL_monomial 22 = .ok (.ireturn, 1) := by decide +kernel
theorem dL_border_0 : decode cL_border 0 = .ok (.aload_n 3, 1) := by decide +kernel
theorem dL_border_1 : decode cL_border 1 = .ok (.iconst 0, 1) := by decide +kernel
theorem dL_border_2 : decode cL_border 2 = .ok (.aload_n 0, 1) := by decide +kernel
theorem dL_border_3 : decode cL_border 3 = .ok (.iload_n 1, 1) := by decide +kernel
theorem dL_border_4 : decode cL_border 4 = .ok (.iload_n 2, 1) := by decide +kernel
theorem dL_border_5 : decode cL_border 5 = .ok (.invokevirtual 44, 3) := by decide +kernel
theorem dL_border_8 : decode cL_border 8 = .ok (.i2l, 1) := by decide +kernel
theorem dL_border_9 : decode cL_border 9 = .ok (.lastore, 1) := by decide +kernel
theorem dL_border_10 : decode cL_border 10 = .ok (.goto 11, 3) := by decide +kernel
theorem dL_border_13 : decode cL_border 13 = .ok (.astore 4, 2) := by decide +kernel
theorem dL_border_15 : decode cL_border 15 = .ok (.iconst 1, 1) := by decide +kernel
theorem dL_border_16 : decode cL_border 16 = .ok (.ireturn, 1) := by decide +kernel
theorem dL_border_17 : decode cL_border 17 = .ok (.astore 4, 2) := by decide +kernel
theorem dL_border_19 : decode cL_border 19 = .ok (.iconst 2, 1) := by decide +kernel
theorem dL_border_20 : decode cL_border 20 = .ok (.ireturn, 1) := by decide +kernel
theorem dL_border_21 : decode cL_border 21 = .ok (.iconst 0, 1) := by decide +kernel
theorem dL_border_22 : decode cL_border 22 = .ok (.ireturn, 1) := by decide +kernel
theorem dL_setRule_0 : decode cL_setRule 0 = .ok (.aload 4, 2) := by decide +kernel
theorem dL_setRule_2 : decode cL_setRule 2 = .ok (.iconst 0, 1) := by decide +kernel
theorem dL_setRule_3 : decode cL_setRule 3 = .ok (.aload_n 0, 1) := by decide +kernel
theorem dL_setRule_4 : decode cL_setRule 4 = .ok (.iload_n 1, 1) := by decide +kernel
theorem dL_setRule_5 : decode cL_setRule 5 = .ok (.iload_n 2, 1) := by decide +kernel
theorem dL_setRule_6 : decode cL_setRule 6 = .ok (.iload_n 3, 1) := by decide +kernel
theorem dL_setRule_7 : decode cL_setRule 7 = .ok (.invokevirtual 47, 3) := by decide +kernel
theorem dL_setRule_10 : decode cL_setRule 10 = .ok (.i2l, 1) := by decide +kernel
theorem dL_setRule_11 : decode cL_setRule 11 = .ok (.lastore, 1) := by decide +kernel
theorem dL_setRule_12 : decode cL_setRule 12 = .ok (.goto 11, 3) := by decide +kernel
theorem dL_setRule_15 : decode cL_setRule 15 = .ok (.astore 5, 2) := by decide +kernel
theorem dL_setRule_17 : decode cL_setRule 17 = .ok (.iconst 1, 1) := by decide +kernel
theorem dL_setRule_18 : decode cL_setRule 18 = .ok (.ireturn, 1) := by decide +kernel
theorem dL_setRule_19 : decode cL_setRule 19 = .ok (.astore 5, 2) := by decide +kernel
theorem dL_setRule_21 : decode cL_setRule 21 = .ok (.iconst 2, 1) := by decide +kernel
theorem dL_setRule_22 : decode cL_setRule 22 = .ok (.ireturn, 1) := by decide +kernel
theorem dL_setRule_23 : decode cL_setRule 23 = .ok (.iconst 0, 1) := by decide +kernel
theorem dL_setRule_24 : decode cL_setRule 24 = .ok (.ireturn, 1) := by decide +kernel
theorem dL_rule_0 : decode cL_rule 0 = .ok (.aload_n 3, 1) := by decide +kernel
theorem dL_rule_1 : decode cL_rule 1 = .ok (.iconst 0, 1) := by decide +kernel
theorem dL_rule_2 : decode cL_rule 2 = .ok (.aload_n 0, 1) := by decide +kernel
theorem dL_rule_3 : decode cL_rule 3 = .ok (.iload_n 1, 1) := by decide +kernel
theorem dL_rule_4 : decode cL_rule 4 = .ok (.iload_n 2, 1) := by decide +kernel
theorem dL_rule_5 : decode cL_rule 5 = .ok (.invokevirtual 51, 3) := by decide +kernel
theorem dL_rule_8 : decode cL_rule 8 = .ok (.i2l, 1) := by decide +kernel
theorem dL_rule_9 : decode cL_rule 9 = .ok (.lastore, 1) := by decide +kernel
theorem dL_rule_10 : decode cL_rule 10 = .ok (.goto 7, 3) := by decide +kernel
theorem dL_rule_13 : decode cL_rule 13 = .ok (.astore 4, 2) := by decide +kernel
theorem dL_rule_15 : decode cL_rule 15 = .ok (.iconst 1, 1) := by decide +kernel
theorem dL_rule_16 : decode cL_rule 16 = .ok (.ireturn, 1) := by decide +kernel
theorem dL_rule_17 : decode cL_rule 17 = .ok (.iconst 0, 1) := by decide +kernel
theorem dL_rule_18 : decode cL_rule 18 = .ok (.ireturn, 1) := by decide +kernel
theorem dL_value_0 : decode cL_value 0 = .ok (.aload 4, 2) := by decide +kernel
theorem dL_value_2 : decode cL_value 2 = .ok (.iconst 0, 1) := by decide +kernel
theorem dL_value_3 : decode cL_value 3 = .ok (.aload_n 0, 1) := by decide +kernel
theorem dL_value_4 : decode cL_value 4 = .ok (.iload_n 1, 1) := by decide +kernel
theorem dL_value_5 : decode cL_value 5 = .ok (.iload_n 2, 1) := by decide +kernel
theorem dL_value_6 : decode cL_value 6 = .ok (.iload_n 3, 1) := by decide +kernel
theorem dL_value_7 : decode cL_value 7 = .ok (.invokevirtual 54, 3) := by decide +kernel
theorem dL_value_10 : decode cL_value 10 = .ok (.i2l, 1) := by decide +kernel
theorem dL_value_11 : decode cL_value 11 = .ok (.lastore, 1) := by decide +kernel
theorem dL_value_12 : decode cL_value 12 = .ok (.goto 11, 3) := by decide +kernel
theorem dL_value_15 : decode cL_value 15 = .ok (.astore 5, 2) := by decide +kernel
theorem dL_value_17 : decode cL_value 17 = .ok (.iconst 1, 1) := by decide +kernel
theorem dL_value_18 : decode cL_value 18 = .ok (.ireturn, 1) := by decide +kernel
theorem dL_value_19 : decode cL_value 19 = .ok (.astore 5, 2) := by decide +kernel
theorem dL_value_21 : decode cL_value 21 = .ok (.iconst 2, 1) := by decide +kernel
theorem dL_value_22 : decode cL_value 22 = .ok (.ireturn, 1) := by decide +kernel
theorem dL_value_23 : decode cL_value 23 = .ok (.iconst 0, 1) := by decide +kernel
theorem dL_value_24 : decode cL_value 24 = .ok (.ireturn, 1) := by decide +kernel
theorem dL_table_0 : decode cL_table 0 = .ok (.aload 4, 2) := by decide +kernel
theorem dL_table_2 : decode cL_table 2 = .ok (.iconst 0, 1) := by decide +kernel
theorem dL_table_3 : decode cL_table 3 = .ok (.aload_n 0, 1) := by decide +kernel
theorem dL_table_4 : decode cL_table 4 = .ok (.iload_n 1, 1) := by decide +kernel
theorem dL_table_5 : decode cL_table 5 = .ok (.iload_n 2, 1) := by decide +kernel
theorem dL_table_6 : decode cL_table 6 = .ok (.iload_n 3, 1) := by decide +kernel
theorem dL_table_7 : decode cL_table 7 = .ok (.invokevirtual 57, 3) := by decide +kernel
theorem dL_table_10 : decode cL_table 10 = .ok (.i2l, 1) := by decide +kernel
theorem dL_table_11 : decode cL_table 11 = .ok (.lastore, 1) := by decide +kernel
theorem dL_table_12 : decode cL_table 12 = .ok (.goto 11, 3) := by decide +kernel
theorem dL_table_15 : decode cL_table 15 = .ok (.astore 5, 2) := by decide +kernel
theorem dL_table_17 : decode cL_table 17 = .ok (.iconst 1, 1) := by decide +kernel
theorem dL_table_18 : decode cL_table 18 = .ok (.ireturn, 1) := by decide +kernel
theorem dL_table_19 : decode cL_table 19 = .ok (.astore 5, 2) := by decide +kernel
theorem dL_table_21 : decode cL_table 21 = .ok (.iconst 2, 1) := by decide +kernel
theorem dL_table_22 : decode cL_table 22 = .ok (.ireturn, 1) := by decide +kernel
theorem dL_table_23 : decode cL_table 23 = .ok (.iconst 0, 1) := by decide +kernel
theorem dL_table_24 : decode cL_table 24 = .ok (.ireturn, 1) := by decide +kernel
theorem dL_clash_0 : decode cL_clash 0 = .ok (.aload_n 2, 1) := by decide +kernel
theorem dL_clash_1 : decode cL_clash 1 = .ok (.iconst 0, 1) := by decide +kernel
theorem dL_clash_2 : decode cL_clash 2 = .ok (.aload_n 0, 1) := by decide +kernel
theorem dL_clash_3 : decode cL_clash 3 = .ok (.iload_n 1, 1) := by decide +kernel
theorem dL_clash_4 : decode cL_clash 4 = .ok (.invokevirtual 60, 3) := by decide +kernel
theorem dL_clash_7 : decode cL_clash 7 = .ok (.i2l, 1) := by decide +kernel
theorem dL_clash_8 : decode cL_clash 8 = .ok (.lastore, 1) := by decide +kernel
theorem dL_clash_9 : decode cL_clash 9 = .ok (.goto 6, 3) := by decide +kernel
theorem dL_clash_12 : decode cL_clash 12 = .ok (.astore_n 3, 1) := by decide +kernel
theorem dL_clash_13 : decode cL_clash 13 = .ok (.iconst 1, 1) := by decide +kernel
theorem dL_clash_14 : decode cL_clash 14 = .ok (.ireturn, 1) := by decide +kernel
theorem dL_clash_15 : decode cL_clash 15 = .ok (.iconst 0, 1) := by decide +kernel
theorem dL_clash_16 : decode cL_clash 16 = .ok (.ireturn, 1) := by decide +kernel
theorem dL_trace_0 : decode cL_trace 0 = .ok (.aload_n 3, 1) := by decide +kernel
theorem dL_trace_1 : decode cL_trace 1 = .ok (.iconst 0, 1) := by decide +kernel
theorem dL_trace_2 : decode cL_trace 2 = .ok (.aload_n 0, 1) := by decide +kernel
theorem dL_trace_3 : decode cL_trace 3 = .ok (.iload_n 1, 1) := by decide +kernel
theorem dL_trace_4 : decode cL_trace 4 = .ok (.iload_n 2, 1) := by decide +kernel
theorem dL_trace_5 : decode cL_trace 5 = .ok (.invokevirtual 63, 3) := by decide +kernel
theorem dL_trace_8 : decode cL_trace 8 = .ok (.i2l, 1) := by decide +kernel
theorem dL_trace_9 : decode cL_trace 9 = .ok (.lastore, 1) := by decide +kernel
theorem dL_trace_10 : decode cL_trace 10 = .ok (.goto 7, 3) := by decide +kernel
theorem dL_trace_13 : decode cL_trace 13 = .ok (.astore 4, 2) := by decide +kernel
theorem dL_trace_15 : decode cL_trace 15 = .ok (.iconst 1, 1) := by decide +kernel
theorem dL_trace_16 : decode cL_trace 16 = .ok (.ireturn, 1) := by decide +kernel
theorem dL_trace_17 : decode cL_trace 17 = .ok (.iconst 0, 1) := by decide +kernel
theorem dL_trace_18 : decode cL_trace 18 = .ok (.ireturn, 1) := by decide +kernel
theorem dL_normal_0 : decode cL_normal 0 = .ok (.aload 4, 2) := by decide +kernel
theorem dL_normal_2 : decode cL_normal 2 = .ok (.iconst 0, 1) := by decide +kernel
theorem dL_normal_3 : decode cL_normal 3 = .ok (.aload_n 0, 1) := by decide +kernel
theorem dL_normal_4 : decode cL_normal 4 = .ok (.iload_n 1, 1) := by decide +kernel
theorem dL_normal_5 : decode cL_normal 5 = .ok (.iload_n 2, 1) := by decide +kernel
theorem dL_normal_6 : decode cL_normal 6 = .ok (.iload_n 3, 1) := by decide +kernel
theorem dL_normal_7 : decode cL_normal 7 = .ok (.invokevirtual 66, 3) := by decide +kernel
theorem dL_normal_10 : decode cL_normal 10 = .ok (.i2l, 1) := by decide +kernel
theorem dL_normal_11 : decode cL_normal 11 = .ok (.lastore, 1) := by decide +kernel
theorem dL_normal_12 : decode cL_normal 12 = .ok (.goto 11, 3) := by decide +kernel
theorem dL_normal_15 : decode cL_normal 15 = .ok (.astore 5, 2) := by decide +kernel
theorem dL_normal_17 : decode cL_normal 17 = .ok (.iconst 1, 1) := by decide +kernel
theorem dL_normal_18 : decode cL_normal 18 = .ok (.ireturn, 1) := by decide +kernel
theorem dL_normal_19 : decode cL_normal 19 = .ok (.astore 5, 2) := by decide +kernel
theorem dL_normal_21 : decode cL_normal 21 = .ok (.iconst 2, 1) := by decide +kernel
theorem dL_normal_22 : decode cL_normal 22 = .ok (.ireturn, 1) := by decide +kernel
theorem dL_normal_23 : decode cL_normal 23 = .ok (.iconst 0, 1) := by decide +kernel
theorem dL_normal_24 : decode cL_normal 24 = .ok (.ireturn, 1) := by decide +kernel
theorem dL_determinant_0 : decode cL_determinant 0 = .ok (.aload_n 2, 1) := by decide +kernel
theorem dL_determinant_1 : decode cL_determinant 1 = .ok (.iconst 0, 1) := by decide +kernel
theorem dL_determinant_2 : decode cL_determinant 2 = .ok (.aload_n 0, 1) := by decide +kernel
theorem dL_determinant_3 : decode cL_determinant 3 = .ok (.iload_n 1, 1) := by decide +kernel
theorem dL_determinant_4 : decode cL_determinant 4 = .ok (.invokevirtual 69, 3) := by decide +kernel
theorem dL_determinant_7 : decode cL_determinant 7 = .ok (.i2l, 1) := by decide +kernel
theorem dL_determinant_8 : decode cL_determinant 8 = .ok (.lastore, 1) := by decide +kernel
theorem dL_determinant_9 : decode cL_determinant 9 = .ok (.goto 6, 3) := by decide +kernel
theorem dL_determinant_12 : decode cL_determinant 12 = .ok (.astore_n 3, 1) := by decide +kernel
theorem dL_determinant_13 : decode cL_determinant 13 = .ok (.iconst 1, 1) := by decide +kernel
theorem dL_determinant_14 : decode cL_determinant 14 = .ok (.ireturn, 1) := by decide +kernel
theorem dL_determinant_15 : decode cL_determinant 15 = .ok (.iconst 0, 1) := by decide +kernel
theorem dL_determinant_16 : decode cL_determinant 16 = .ok (.ireturn, 1) := by decide +kernel
theorem dL_kernel_0 : decode cL_kernel 0 = .ok (.aload_n 3, 1) := by decide +kernel
theorem dL_kernel_1 : decode cL_kernel 1 = .ok (.iconst 0, 1) := by decide +kernel
theorem dL_kernel_2 : decode cL_kernel 2 = .ok (.aload_n 0, 1) := by decide +kernel
theorem dL_kernel_3 : decode cL_kernel 3 = .ok (.iload_n 1, 1) := by decide +kernel
theorem dL_kernel_4 : decode cL_kernel 4 = .ok (.iload_n 2, 1) := by decide +kernel
theorem dL_kernel_5 : decode cL_kernel 5 = .ok (.invokevirtual 72, 3) := by decide +kernel
theorem dL_kernel_8 : decode cL_kernel 8 = .ok (.i2l, 1) := by decide +kernel
theorem dL_kernel_9 : decode cL_kernel 9 = .ok (.lastore, 1) := by decide +kernel
theorem dL_kernel_10 : decode cL_kernel 10 = .ok (.goto 7, 3) := by decide +kernel
theorem dL_kernel_13 : decode cL_kernel 13 = .ok (.astore 4, 2) := by decide +kernel
theorem dL_kernel_15 : decode cL_kernel 15 = .ok (.iconst 1, 1) := by decide +kernel
theorem dL_kernel_16 : decode cL_kernel 16 = .ok (.ireturn, 1) := by decide +kernel
theorem dL_kernel_17 : decode cL_kernel 17 = .ok (.iconst 0, 1) := by decide +kernel
theorem dL_kernel_18 : decode cL_kernel 18 = .ok (.ireturn, 1) := by decide +kernel
theorem dL_zeros_0 : decode cL_zeros 0 = .ok (.aload_n 2, 1) := by decide +kernel
theorem dL_zeros_1 : decode cL_zeros 1 = .ok (.iconst 0, 1) := by decide +kernel
theorem dL_zeros_2 : decode cL_zeros 2 = .ok (.aload_n 0, 1) := by decide +kernel
theorem dL_zeros_3 : decode cL_zeros 3 = .ok (.iload_n 1, 1) := by decide +kernel
theorem dL_zeros_4 : decode cL_zeros 4 = .ok (.invokevirtual 75, 3) := by decide +kernel
theorem dL_zeros_7 : decode cL_zeros 7 = .ok (.i2l, 1) := by decide +kernel
theorem dL_zeros_8 : decode cL_zeros 8 = .ok (.lastore, 1) := by decide +kernel
theorem dL_zeros_9 : decode cL_zeros 9 = .ok (.goto 6, 3) := by decide +kernel
theorem dL_zeros_12 : decode cL_zeros 12 = .ok (.astore_n 3, 1) := by decide +kernel
theorem dL_zeros_13 : decode cL_zeros 13 = .ok (.iconst 1, 1) := by decide +kernel
theorem dL_zeros_14 : decode cL_zeros 14 = .ok (.ireturn, 1) := by decide +kernel
theorem dL_zeros_15 : decode cL_zeros 15 = .ok (.iconst 0, 1) := by decide +kernel
theorem dL_zeros_16 : decode cL_zeros 16 = .ok (.ireturn, 1) := by decide +kernel
theorem dL_zero_0 : decode cL_zero 0 = .ok (.aload_n 3, 1) := by decide +kernel
theorem dL_zero_1 : decode cL_zero 1 = .ok (.iconst 0, 1) := by decide +kernel
theorem dL_zero_2 : decode cL_zero 2 = .ok (.aload_n 0, 1) := by decide +kernel
theorem dL_zero_3 : decode cL_zero 3 = .ok (.iload_n 1, 1) := by decide +kernel
theorem dL_zero_4 : decode cL_zero 4 = .ok (.iload_n 2, 1) := by decide +kernel
theorem dL_zero_5 : decode cL_zero 5 = .ok (.invokevirtual 78, 3) := by decide +kernel
theorem dL_zero_8 : decode cL_zero 8 = .ok (.i2l, 1) := by decide +kernel
theorem dL_zero_9 : decode cL_zero 9 = .ok (.lastore, 1) := by decide +kernel
theorem dL_zero_10 : decode cL_zero 10 = .ok (.goto 11, 3) := by decide +kernel
theorem dL_zero_13 : decode cL_zero 13 = .ok (.astore 4, 2) := by decide +kernel
theorem dL_zero_15 : decode cL_zero 15 = .ok (.iconst 1, 1) := by decide +kernel
theorem dL_zero_16 : decode cL_zero 16 = .ok (.ireturn, 1) := by decide +kernel
theorem dL_zero_17 : decode cL_zero 17 = .ok (.astore 4, 2) := by decide +kernel
theorem dL_zero_19 : decode cL_zero 19 = .ok (.iconst 2, 1) := by decide +kernel
theorem dL_zero_20 : decode cL_zero 20 = .ok (.ireturn, 1) := by decide +kernel
theorem dL_zero_21 : decode cL_zero 21 = .ok (.iconst 0, 1) := by decide +kernel
theorem dL_zero_22 : decode cL_zero 22 = .ok (.ireturn, 1) := by decide +kernel
theorem dL_multiplicity_0 : decode cL_multiplicity 0 = .ok (.aload_n 3, 1) := by decide +kernel
theorem dL_multiplicity_1 : decode cL_multiplicity 1 = .ok (.iconst 0, 1) := by decide +kernel
theorem dL_multiplicity_2 : decode cL_multiplicity 2 = .ok (.aload_n 0, 1) := by decide +kernel
theorem dL_multiplicity_3 : decode cL_multiplicity 3 = .ok (.iload_n 1, 1) := by decide +kernel
theorem dL_multiplicity_4 : decode cL_multiplicity 4 = .ok (.iload_n 2, 1) := by decide +kernel
theorem dL_multiplicity_5 : decode cL_multiplicity 5 = .ok (.invokevirtual 81, 3) := by decide +kernel
theorem dL_multiplicity_8 : decode cL_multiplicity 8 = .ok (.i2l, 1) := by decide +kernel
theorem dL_multiplicity_9 : decode cL_multiplicity 9 = .ok (.lastore, 1) := by decide +kernel
theorem dL_multiplicity_10 : decode cL_multiplicity 10 = .ok (.goto 7, 3) := by decide +kernel
theorem dL_multiplicity_13 : decode cL_multiplicity 13 = .ok (.astore 4, 2) := by decide +kernel
theorem dL_multiplicity_15 : decode cL_multiplicity 15 = .ok (.iconst 1, 1) := by decide +kernel
theorem dL_multiplicity_16 : decode cL_multiplicity 16 = .ok (.ireturn, 1) := by decide +kernel
theorem dL_multiplicity_17 : decode cL_multiplicity 17 = .ok (.iconst 0, 1) := by decide +kernel
theorem dL_multiplicity_18 : decode cL_multiplicity 18 = .ok (.ireturn, 1) := by decide +kernel
theorem dL_addPoint_0 : decode cL_addPoint 0 = .ok (.aload_n 3, 1) := by decide +kernel
theorem dL_addPoint_1 : decode cL_addPoint 1 = .ok (.iconst 0, 1) := by decide +kernel
theorem dL_addPoint_2 : decode cL_addPoint 2 = .ok (.aload_n 0, 1) := by decide +kernel
theorem dL_addPoint_3 : decode cL_addPoint 3 = .ok (.iload_n 1, 1) := by decide +kernel
theorem dL_addPoint_4 : decode cL_addPoint 4 = .ok (.iload_n 2, 1) := by decide +kernel
theorem dL_addPoint_5 : decode cL_addPoint 5 = .ok (.invokevirtual 84, 3) := by decide +kernel
theorem dL_addPoint_8 : decode cL_addPoint 8 = .ok (.i2l, 1) := by decide +kernel
theorem dL_addPoint_9 : decode cL_addPoint 9 = .ok (.lastore, 1) := by decide +kernel
theorem dL_addPoint_10 : decode cL_addPoint 10 = .ok (.goto 11, 3) := by decide +kernel
theorem dL_addPoint_13 : decode cL_addPoint 13 = .ok (.astore 4, 2) := by decide +kernel
theorem dL_addPoint_15 : decode cL_addPoint 15 = .ok (.iconst 1, 1) := by decide +kernel
theorem dL_addPoint_16 : decode cL_addPoint 16 = .ok (.ireturn, 1) := by decide +kernel
theorem dL_addPoint_17 : decode cL_addPoint 17 = .ok (.astore 4, 2) := by decide +kernel
theorem dL_addPoint_19 : decode cL_addPoint 19 = .ok (.iconst 2, 1) := by decide +kernel
theorem dL_addPoint_20 : decode cL_addPoint 20 = .ok (.ireturn, 1) := by decide +kernel
theorem dL_addPoint_21 : decode cL_addPoint 21 = .ok (.iconst 0, 1) := by decide +kernel
theorem dL_addPoint_22 : decode cL_addPoint 22 = .ok (.ireturn, 1) := by decide +kernel
theorem dL_removePoint_0 : decode cL_removePoint 0 = .ok (.aload_n 2, 1) := by decide +kernel
theorem dL_removePoint_1 : decode cL_removePoint 1 = .ok (.iconst 0, 1) := by decide +kernel
theorem dL_removePoint_2 : decode cL_removePoint 2 = .ok (.aload_n 0, 1) := by decide +kernel
theorem dL_removePoint_3 : decode cL_removePoint 3 = .ok (.iload_n 1, 1) := by decide +kernel
theorem dL_removePoint_4 : decode cL_removePoint 4 = .ok (.invokevirtual 87, 3) := by decide +kernel
theorem dL_removePoint_7 : decode cL_removePoint 7 = .ok (.i2l, 1) := by decide +kernel
theorem dL_removePoint_8 : decode cL_removePoint 8 = .ok (.lastore, 1) := by decide +kernel
theorem dL_removePoint_9 : decode cL_removePoint 9 = .ok (.goto 6, 3) := by decide +kernel
theorem dL_removePoint_12 : decode cL_removePoint 12 = .ok (.astore_n 3, 1) := by decide +kernel
theorem dL_removePoint_13 : decode cL_removePoint 13 = .ok (.iconst 1, 1) := by decide +kernel
theorem dL_removePoint_14 : decode cL_removePoint 14 = .ok (.ireturn, 1) := by decide +kernel
theorem dL_removePoint_15 : decode cL_removePoint 15 = .ok (.iconst 0, 1) := by decide +kernel
theorem dL_removePoint_16 : decode cL_removePoint 16 = .ok (.ireturn, 1) := by decide +kernel
theorem dL_point_0 : decode cL_point 0 = .ok (.aload_n 3, 1) := by decide +kernel
theorem dL_point_1 : decode cL_point 1 = .ok (.iconst 0, 1) := by decide +kernel
theorem dL_point_2 : decode cL_point 2 = .ok (.aload_n 0, 1) := by decide +kernel
theorem dL_point_3 : decode cL_point 3 = .ok (.iload_n 1, 1) := by decide +kernel
theorem dL_point_4 : decode cL_point 4 = .ok (.iload_n 2, 1) := by decide +kernel
theorem dL_point_5 : decode cL_point 5 = .ok (.invokevirtual 90, 3) := by decide +kernel
theorem dL_point_8 : decode cL_point 8 = .ok (.i2l, 1) := by decide +kernel
theorem dL_point_9 : decode cL_point 9 = .ok (.lastore, 1) := by decide +kernel
theorem dL_point_10 : decode cL_point 10 = .ok (.goto 11, 3) := by decide +kernel
theorem dL_point_13 : decode cL_point 13 = .ok (.astore 4, 2) := by decide +kernel
theorem dL_point_15 : decode cL_point 15 = .ok (.iconst 1, 1) := by decide +kernel
theorem dL_point_16 : decode cL_point 16 = .ok (.ireturn, 1) := by decide +kernel
theorem dL_point_17 : decode cL_point 17 = .ok (.astore 4, 2) := by decide +kernel
theorem dL_point_19 : decode cL_point 19 = .ok (.iconst 2, 1) := by decide +kernel
theorem dL_point_20 : decode cL_point 20 = .ok (.ireturn, 1) := by decide +kernel
theorem dL_point_21 : decode cL_point 21 = .ok (.iconst 0, 1) := by decide +kernel
theorem dL_point_22 : decode cL_point 22 = .ok (.ireturn, 1) := by decide +kernel
theorem dL_fit_0 : decode cL_fit 0 = .ok (.aload_n 1, 1) := by decide +kernel
theorem dL_fit_1 : decode cL_fit 1 = .ok (.iconst 0, 1) := by decide +kernel
theorem dL_fit_2 : decode cL_fit 2 = .ok (.aload_n 0, 1) := by decide +kernel
theorem dL_fit_3 : decode cL_fit 3 = .ok (.invokevirtual 93, 3) := by decide +kernel
theorem dL_fit_6 : decode cL_fit 6 = .ok (.i2l, 1) := by decide +kernel
theorem dL_fit_7 : decode cL_fit 7 = .ok (.lastore, 1) := by decide +kernel
theorem dL_fit_8 : decode cL_fit 8 = .ok (.goto 6, 3) := by decide +kernel
theorem dL_fit_11 : decode cL_fit 11 = .ok (.astore_n 2, 1) := by decide +kernel
theorem dL_fit_12 : decode cL_fit 12 = .ok (.iconst 1, 1) := by decide +kernel
theorem dL_fit_13 : decode cL_fit 13 = .ok (.ireturn, 1) := by decide +kernel
theorem dL_fit_14 : decode cL_fit 14 = .ok (.iconst 0, 1) := by decide +kernel
theorem dL_fit_15 : decode cL_fit 15 = .ok (.ireturn, 1) := by decide +kernel
theorem dL_save_0 : decode cL_save 0 = .ok (.aload_n 0, 1) := by decide +kernel
theorem dL_save_1 : decode cL_save 1 = .ok (.iload_n 1, 1) := by decide +kernel
theorem dL_save_2 : decode cL_save 2 = .ok (.invokevirtual 97, 3) := by decide +kernel
theorem dL_save_5 : decode cL_save 5 = .ok (.goto 6, 3) := by decide +kernel
theorem dL_save_8 : decode cL_save 8 = .ok (.astore_n 2, 1) := by decide +kernel
theorem dL_save_9 : decode cL_save 9 = .ok (.iconst 1, 1) := by decide +kernel
theorem dL_save_10 : decode cL_save 10 = .ok (.ireturn, 1) := by decide +kernel
theorem dL_save_11 : decode cL_save 11 = .ok (.iconst 0, 1) := by decide +kernel
theorem dL_save_12 : decode cL_save 12 = .ok (.ireturn, 1) := by decide +kernel
theorem dL_restore_0 : decode cL_restore 0 = .ok (.aload_n 0, 1) := by decide +kernel
theorem dL_restore_1 : decode cL_restore 1 = .ok (.iload_n 1, 1) := by decide +kernel
theorem dL_restore_2 : decode cL_restore 2 = .ok (.invokevirtual 101, 3) := by decide +kernel
theorem dL_restore_5 : decode cL_restore 5 = .ok (.goto 9, 3) := by decide +kernel
theorem dL_restore_8 : decode cL_restore 8 = .ok (.astore_n 2, 1) := by decide +kernel
theorem dL_restore_9 : decode cL_restore 9 = .ok (.iconst 1, 1) := by decide +kernel
theorem dL_restore_10 : decode cL_restore 10 = .ok (.ireturn, 1) := by decide +kernel
theorem dL_restore_11 : decode cL_restore 11 = .ok (.astore_n 2, 1) := by decide +kernel
theorem dL_restore_12 : decode cL_restore 12 = .ok (.iconst 2, 1) := by decide +kernel
theorem dL_restore_13 : decode cL_restore 13 = .ok (.ireturn, 1) := by decide +kernel
theorem dL_restore_14 : decode cL_restore 14 = .ok (.iconst 0, 1) := by decide +kernel
theorem dL_restore_15 : decode cL_restore 15 = .ok (.ireturn, 1) := by decide +kernel
