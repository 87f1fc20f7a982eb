theorem dX7_year_37 : decode cX7_year 37 = .ok (.aload_n 0, 1) := by decide +kernel
theorem dX7_year_38 : decode cX7_year 38 = .ok (.iload 4, 2) := by decide +kernel
theorem dX7_year_40 : decode cX7_year 40 = .ok (.invokevirtual 166, 3) := by decide +kernel
theorem dX7_year_43 : decode cX7_year 43 = .ok (.iload_n 2, 1) := by decide +kernel
theorem dX7_year_44 : decode cX7_year 44 = .ok (.if_icmp .ge 7, 3) := by decide +kernel
theorem dX7_year_47 : decode cX7_year 47 = .ok (.iconst 0, 1) := by decide +kernel
theorem dX7_year_48 : decode cX7_year 48 = .ok (.goto 4, 3) := by decide +kernel
theorem dX7_year_51 : decode cX7_year 51 = .ok (.iconst 1, 1) := by decide +kernel
theorem dX7_year_52 : decode cX7_year 52 = .ok (.ireturn, 1) := by decide +kernel
theorem dX7_year_53 : decode cX7_year 53 = .ok (.iconst 0, 1) := by decide +kernel
theorem dX7_year_54 : decode cX7_year 54 = .ok (.istore 5, 2) := by decide +kernel
theorem dX7_year_56 : decode cX7_year 56 = .ok (.iconst 0, 1) := by decide +kernel
theorem dX7_year_57 : decode cX7_year 57 = .ok (.istore 6, 2) := by decide +kernel
theorem dX7_year_59 : decode cX7_year 59 = .ok (.iload 6, 2) := by decide +kernel
theorem dX7_year_61 : decode cX7_year 61 = .ok (.aload_n 0, 1) := by decide +kernel
theorem dX7_year_62 : decode cX7_year 62 = .ok (.getfield 146, 3) := by decide +kernel
theorem dX7_year_65 : decode cX7_year 65 = .ok (.if_icmp .ge 46, 3) := by decide +kernel
theorem dX7_year_68 : decode cX7_year 68 = .ok (.iload 5, 2) := by decide +kernel
theorem dX7_year_70 : decode cX7_year 70 = .ok (.iload 4, 2) := by decide +kernel
theorem dX7_year_72 : decode cX7_year 72 = .ok (.iload 6, 2) := by decide +kernel
theorem dX7_year_74 : decode cX7_year 74 = .ok (.invokestatic 157, 3) := by decide +kernel
theorem dX7_year_77 : decode cX7_year 77 = .ok (.ifCond .eq 24, 3) := by decide +kernel
theorem dX7_year_80 : decode cX7_year 80 = .ok (.aload_n 0, 1) := by decide +kernel
theorem dX7_year_81 : decode cX7_year 81 = .ok (.getfield 20, 3) := by decide +kernel
theorem dX7_year_84 : decode cX7_year 84 = .ok (.iload 6, 2) := by decide +kernel
theorem dX7_year_86 : decode cX7_year 86 = .ok (.iaload, 1) := by decide +kernel
theorem dX7_year_87 : decode cX7_year 87 = .ok (.iload_n 2, 1) := by decide +kernel
theorem dX7_year_88 : decode cX7_year 88 = .ok (.if_icmp .ge 13, 3) := by decide +kernel
theorem dX7_year_91 : decode cX7_year 91 = .ok (.aload_n 0, 1) := by decide +kernel
theorem dX7_year_92 : decode cX7_year 92 = .ok (.getfield 17, 3) := by decide +kernel
theorem dX7_year_95 : decode cX7_year 95 = .ok (.iload 6, 2) := by decide +kernel
theorem dX7_year_97 : decode cX7_year 97 = .ok (.iaload, 1) := by decide +kernel
theorem dX7_year_98 : decode cX7_year 98 = .ok (.goto 4, 3) := by decide +kernel
theorem dX7_year_101 : decode cX7_year 101 = .ok (.iconst 0, 1) := by decide +kernel
theorem dX7_year_102 : decode cX7_year 102 = .ok (.iadd, 1) := by decide +kernel
theorem dX7_year_103 : decode cX7_year 103 = .ok (.istore 5, 2) := by decide +kernel
theorem dX7_year_105 : decode cX7_year 105 = .ok (.iinc 6 1, 3) := by decide +kernel
theorem dX7_year_108 : decode cX7_year 108 = .ok (.goto (-49), 3) := by decide +kernel
theorem dX7_year_111 : decode cX7_year 111 = .ok (.iconst 2, 1) := by decide +kernel
theorem dX7_year_112 : decode cX7_year 112 = .ok (.iload 5, 2) := by decide +kernel
theorem dX7_year_114 : decode cX7_year 114 = .ok (.imul, 1) := by decide +kernel
theorem dX7_year_115 : decode cX7_year 115 = .ok (.aload_n 0, 1) := by decide +kernel
theorem dX7_year_116 : decode cX7_year 116 = .ok (.iload 4, 2) := by decide +kernel
theorem dX7_year_118 : decode cX7_year 118 = .ok (.invokevirtual 178, 3) := by decide +kernel
theorem dX7_year_121 : decode cX7_year 121 = .ok (.if_icmp .lt 7, 3) := by decide +kernel
theorem dX7_year_124 : decode cX7_year 124 = .ok (.iconst 0, 1) := by decide +kernel
theorem dX7_year_125 : decode cX7_year 125 = .ok (.goto 4, 3) := by decide +kernel
theorem dX7_year_128 : decode cX7_year 128 = .ok (.iconst 1, 1) := by decide +kernel
theorem dX7_year_129 : decode cX7_year 129 = .ok (.ireturn, 1) := by decide +kernel
theorem dX7_isTold_0 : decode cX7_isTold 0 = .ok (.iload_n 2, 1) := by decide +kernel
theorem dX7_isTold_1 : decode cX7_isTold 1 = .ok (.invokestatic 223, 3) := by decide +kernel
theorem dX7_isTold_4 : decode cX7_isTold 4 = .ok (.bipush 8, 2) := by decide +kernel
theorem dX7_isTold_6 : decode cX7_isTold 6 = .ok (.if_icmp .le 12, 3) := by decide +kernel
theorem dX7_isTold_9 : decode cX7_isTold 9 = .ok (.aload_n 0, 1) := by decide +kernel
theorem dX7_isTold_10 : decode cX7_isTold 10 = .ok (.iload_n 1, 1) := by decide +kernel
theorem dX7_isTold_11 : decode cX7_isTold 11 = .ok (.iconst 3, 1) := by decide +kernel
theorem dX7_isTold_12 : decode cX7_isTold 12 = .ok (.invokevirtual 142, 3) := by decide +kernel
theorem dX7_isTold_15 : decode cX7_isTold 15 = .ok (.ifCond .ne 7, 3) := by decide +kernel
theorem dX7_isTold_18 : decode cX7_isTold 18 = .ok (.iconst 1, 1) := by decide +kernel
theorem dX7_isTold_19 : decode cX7_isTold 19 = .ok (.goto 4, 3) := by decide +kernel
theorem dX7_isTold_22 : decode cX7_isTold 22 = .ok (.iconst 0, 1) := by decide +kernel
theorem dX7_isTold_23 : decode cX7_isTold 23 = .ok (.ireturn, 1) := by decide +kernel
theorem dX7_isAsked_0 : decode cX7_isAsked 0 = .ok (.aload_n 0, 1) := by decide +kernel
theorem dX7_isAsked_1 : decode cX7_isAsked 1 = .ok (.getfield 226, 3) := by decide +kernel
theorem dX7_isAsked_4 : decode cX7_isAsked 4 = .ok (.ifCond .eq 14, 3) := by decide +kernel
theorem dX7_isAsked_7 : decode cX7_isAsked 7 = .ok (.aload_n 0, 1) := by decide +kernel
theorem dX7_isAsked_8 : decode cX7_isAsked 8 = .ok (.getfield 230, 3) := by decide +kernel
theorem dX7_isAsked_11 : decode cX7_isAsked 11 = .ok (.iload_n 1, 1) := by decide +kernel
theorem dX7_isAsked_12 : decode cX7_isAsked 12 = .ok (.invokestatic 157, 3) := by decide +kernel
theorem dX7_isAsked_15 : decode cX7_isAsked 15 = .ok (.goto 16, 3) := by decide +kernel
theorem dX7_isAsked_18 : decode cX7_isAsked 18 = .ok (.iload_n 1, 1) := by decide +kernel
theorem dX7_isAsked_19 : decode cX7_isAsked 19 = .ok (.aload_n 0, 1) := by decide +kernel
theorem dX7_isAsked_20 : decode cX7_isAsked 20 = .ok (.getfield 230, 3) := by decide +kernel
theorem dX7_isAsked_23 : decode cX7_isAsked 23 = .ok (.if_icmp .ne 7, 3) := by decide +kernel
theorem dX7_isAsked_26 : decode cX7_isAsked 26 = .ok (.iconst 1, 1) := by decide +kernel
theorem dX7_isAsked_27 : decode cX7_isAsked 27 = .ok (.goto 4, 3) := by decide +kernel
theorem dX7_isAsked_30 : decode cX7_isAsked 30 = .ok (.iconst 0, 1) := by decide +kernel
theorem dX7_isAsked_31 : decode cX7_isAsked 31 = .ok (.ireturn, 1) := by decide +kernel
theorem dX7_layPairs_0 : decode cX7_layPairs 0 = .ok (.aload_n 0, 1) := by decide +kernel
theorem dX7_layPairs_1 : decode cX7_layPairs 1 = .ok (.iconst 0, 1) := by decide +kernel
theorem dX7_layPairs_2 : decode cX7_layPairs 2 = .ok (.putfield 233, 3) := by decide +kernel
theorem dX7_layPairs_5 : decode cX7_layPairs 5 = .ok (.iconst 0, 1) := by decide +kernel
theorem dX7_layPairs_6 : decode cX7_layPairs 6 = .ok (.istore_n 1, 1) := by decide +kernel
theorem dX7_layPairs_7 : decode cX7_layPairs 7 = .ok (.iload_n 1, 1) := by decide +kernel
theorem dX7_layPairs_8 : decode cX7_layPairs 8 = .ok (.aload_n 0, 1) := by decide +kernel
theorem dX7_layPairs_9 : decode cX7_layPairs 9 = .ok (.getfield 146, 3) := by decide +kernel
theorem dX7_layPairs_12 : decode cX7_layPairs 12 = .ok (.if_icmp .ge 19, 3) := by decide +kernel
theorem dX7_layPairs_15 : decode cX7_layPairs 15 = .ok (.aload_n 0, 1) := by decide +kernel
theorem dX7_layPairs_16 : decode cX7_layPairs 16 = .ok (.getfield 56, 3) := by decide +kernel
theorem dX7_layPairs_19 : decode cX7_layPairs 19 = .ok (.iload_n 1, 1) := by decide +kernel
theorem dX7_layPairs_20 : decode cX7_layPairs 20 = .ok (.aload_n 0, 1) := by decide +kernel
theorem dX7_layPairs_21 : decode cX7_layPairs 21 = .ok (.invokevirtual 236, 3) := by decide +kernel
theorem dX7_layPairs_24 : decode cX7_layPairs 24 = .ok (.iastore, 1) := by decide +kernel
theorem dX7_layPairs_25 : decode cX7_layPairs 25 = .ok (.iinc 1 1, 3) := by decide +kernel
theorem dX7_layPairs_28 : decode cX7_layPairs 28 = .ok (.goto (-21), 3) := by decide +kernel
theorem dX7_layPairs_31 : decode cX7_layPairs 31 = .ok (.iconst 0, 1) := by decide +kernel
theorem dX7_layPairs_32 : decode cX7_layPairs 32 = .ok (.istore_n 1, 1) := by decide +kernel
theorem dX7_layPairs_33 : decode cX7_layPairs 33 = .ok (.iload_n 1, 1) := by decide +kernel
theorem dX7_layPairs_34 : decode cX7_layPairs 34 = .ok (.aload_n 0, 1) := by decide +kernel
theorem dX7_layPairs_35 : decode cX7_layPairs 35 = .ok (.getfield 120, 3) := by decide +kernel
theorem dX7_layPairs_38 : decode cX7_layPairs 38 = .ok (.if_icmp .ge 112, 3) := by decide +kernel
theorem dX7_layPairs_41 : decode cX7_layPairs 41 = .ok (.aload_n 0, 1) := by decide +kernel
theorem dX7_layPairs_42 : decode cX7_layPairs 42 = .ok (.iload_n 1, 1) := by decide +kernel
theorem dX7_layPairs_43 : decode cX7_layPairs 43 = .ok (.invokevirtual 239, 3) := by decide +kernel
theorem dX7_layPairs_46 : decode cX7_layPairs 46 = .ok (.ifCond .ne 6, 3) := by decide +kernel
theorem dX7_layPairs_49 : decode cX7_layPairs 49 = .ok (.goto 95, 3) := by decide +kernel
theorem dX7_layPairs_52 : decode cX7_layPairs 52 = .ok (.aload_n 0, 1) := by decide +kernel
theorem dX7_layPairs_53 : decode cX7_layPairs 53 = .ok (.aload_n 0, 1) := by decide +kernel
theorem dX7_layPairs_54 : decode cX7_layPairs 54 = .ok (.getfield 233, 3) := by decide +kernel
theorem dX7_layPairs_57 : decode cX7_layPairs 57 = .ok (.ifCond .ne 13, 3) := by decide +kernel
theorem dX7_layPairs_60 : decode cX7_layPairs 60 = .ok (.aload_n 0, 1) := by decide +kernel
theorem dX7_layPairs_61 : decode cX7_layPairs 61 = .ok (.iload_n 1, 1) := by decide +kernel
theorem dX7_layPairs_62 : decode cX7_layPairs 62 = .ok (.iconst 2, 1) := by decide +kernel
theorem dX7_layPairs_63 : decode cX7_layPairs 63 = .ok (.invokevirtual 142, 3) := by decide +kernel
theorem dX7_layPairs_66 : decode cX7_layPairs 66 = .ok (.iconst 1, 1) := by decide +kernel
theorem dX7_layPairs_67 : decode cX7_layPairs 67 = .ok (.if_icmp .ne 7, 3) := by decide +kernel
theorem dX7_layPairs_70 : decode cX7_layPairs 70 = .ok (.iconst 1, 1) := by decide +kernel
theorem dX7_layPairs_71 : decode cX7_layPairs 71 = .ok (.goto 4, 3) := by decide +kernel
theorem dX7_layPairs_74 : decode cX7_layPairs 74 = .ok (.iconst 0, 1) := by decide +kernel
theorem dX7_layPairs_75 : decode cX7_layPairs 75 = .ok (.putfield 233, 3) := by decide +kernel
theorem dX7_layPairs_78 : decode cX7_layPairs 78 = .ok (.iconst 0, 1) := by decide +kernel
theorem dX7_layPairs_79 : decode cX7_layPairs 79 = .ok (.istore_n 2, 1) := by decide +kernel
theorem dX7_layPairs_80 : decode cX7_layPairs 80 = .ok (.iload_n 2, 1) := by decide +kernel
theorem dX7_layPairs_81 : decode cX7_layPairs 81 = .ok (.aload_n 0, 1) := by decide +kernel
theorem dX7_layPairs_82 : decode cX7_layPairs 82 = .ok (.getfield 146, 3) := by decide +kernel
theorem dX7_layPairs_85 : decode cX7_layPairs 85 = .ok (.if_icmp .ge 59, 3) := by decide +kernel
theorem dX7_layPairs_88 : decode cX7_layPairs 88 = .ok (.iconst 0, 1) := by decide +kernel
theorem dX7_layPairs_89 : decode cX7_layPairs 89 = .ok (.istore_n 3, 1) := by decide +kernel
theorem dX7_layPairs_90 : decode cX7_layPairs 90 = .ok (.iload_n 3, 1) := by decide +kernel
theorem dX7_layPairs_91 : decode cX7_layPairs 91 = .ok (.aload_n 0, 1) := by decide +kernel
theorem dX7_layPairs_92 : decode cX7_layPairs 92 = .ok (.getfield 146, 3) := by decide +kernel
theorem dX7_layPairs_95 : decode cX7_layPairs 95 = .ok (.if_icmp .ge 43, 3) := by decide +kernel
theorem dX7_layPairs_98 : decode cX7_layPairs 98 = .ok (.iload_n 2, 1) := by decide +kernel
theorem dX7_layPairs_99 : decode cX7_layPairs 99 = .ok (.iload_n 3, 1) := by decide +kernel
theorem dX7_layPairs_100 : decode cX7_layPairs 100 = .ok (.if_icmp .eq 32, 3) := by decide +kernel
theorem dX7_layPairs_103 : decode cX7_layPairs 103 = .ok (.aload_n 0, 1) := by decide +kernel
theorem dX7_layPairs_104 : decode cX7_layPairs 104 = .ok (.iload_n 1, 1) := by decide +kernel
theorem dX7_layPairs_105 : decode cX7_layPairs 105 = .ok (.iconst 1, 1) := by decide +kernel
theorem dX7_layPairs_106 : decode cX7_layPairs 106 = .ok (.iload_n 2, 1) := by decide +kernel
theorem dX7_layPairs_107 : decode cX7_layPairs 107 = .ok (.ishl, 1) := by decide +kernel
theorem dX7_layPairs_108 : decode cX7_layPairs 108 = .ok (.iconst 1, 1) := by decide +kernel
theorem dX7_layPairs_109 : decode cX7_layPairs 109 = .ok (.iload_n 3, 1) := by decide +kernel
theorem dX7_layPairs_110 : decode cX7_layPairs 110 = .ok (.ishl, 1) := by decide +kernel
theorem dX7_layPairs_111 : decode cX7_layPairs 111 = .ok (.ior, 1) := by decide +kernel
theorem dX7_layPairs_112 : decode cX7_layPairs 112 = .ok (.invokevirtual 175, 3) := by decide +kernel
theorem dX7_layPairs_115 : decode cX7_layPairs 115 = .ok (.ifCond .ne 17, 3) := by decide +kernel
theorem dX7_layPairs_118 : decode cX7_layPairs 118 = .ok (.aload_n 0, 1) := by decide +kernel
theorem dX7_layPairs_119 : decode cX7_layPairs 119 = .ok (.getfield 56, 3) := by decide +kernel
theorem dX7_layPairs_122 : decode cX7_layPairs 122 = .ok (.iload_n 2, 1) := by decide +kernel
theorem dX7_layPairs_123 : decode cX7_layPairs 123 = .ok (.dup2, 1) := by decide +kernel
theorem dX7_layPairs_124 : decode cX7_layPairs 124 = .ok (.iaload, 1) := by decide +kernel
theorem dX7_layPairs_125 : decode cX7_layPairs 125 = .ok (.iconst 1, 1) := by decide +kernel
theorem dX7_layPairs_126 : decode cX7_layPairs 126 = .ok (.iload_n 3, 1) := by decide +kernel
theorem dX7_layPairs_127 : decode cX7_layPairs 127 = .ok (.ishl, 1) := by decide +kernel
theorem dX7_layPairs_128 : decode cX7_layPairs 128 = .ok (.iconst (-1), 1) := by decide +kernel
theorem dX7_layPairs_129 : decode cX7_layPairs 129 = .ok (.ixor, 1) := by decide +kernel
theorem dX7_layPairs_130 : decode cX7_layPairs 130 = .ok (.iand, 1) := by decide +kernel
theorem dX7_layPairs_131 : decode cX7_layPairs 131 = .ok (.iastore, 1) := by decide +kernel
theorem dX7_layPairs_132 : decode cX7_layPairs 132 = .ok (.iinc 3 1, 3) := by decide +kernel
theorem dX7_layPairs_135 : decode cX7_layPairs 135 = .ok (.goto (-45), 3) := by decide +kernel
theorem dX7_layPairs_138 : decode cX7_layPairs 138 = .ok (.iinc 2 1, 3) := by decide +kernel
theorem dX7_layPairs_141 : decode cX7_layPairs 141 = .ok (.goto (-61), 3) := by decide +kernel
theorem dX7_layPairs_144 : decode cX7_layPairs 144 = .ok (.iinc 1 1, 3) := by decide +kernel
theorem dX7_layPairs_147 : decode cX7_layPairs 147 = .ok (.goto (-114), 3) := by decide +kernel
theorem dX7_layPairs_150 : decode cX7_layPairs 150 = .ok (.return_, 1) := by decide +kernel
theorem dX7_counts_0 : decode cX7_counts 0 = .ok (.aload_n 0, 1) := by decide +kernel
theorem dX7_counts_1 : decode cX7_counts 1 = .ok (.invokevirtual 217, 3) := by decide +kernel
theorem dX7_counts_4 : decode cX7_counts 4 = .ok (.iconst 0, 1) := by decide +kernel
theorem dX7_counts_5 : decode cX7_counts 5 = .ok (.istore_n 1, 1) := by decide +kernel
theorem dX7_counts_6 : decode cX7_counts 6 = .ok (.iconst 0, 1) := by decide +kernel
theorem dX7_counts_7 : decode cX7_counts 7 = .ok (.istore_n 2, 1) := by decide +kernel
theorem dX7_counts_8 : decode cX7_counts 8 = .ok (.iload_n 2, 1) := by decide +kernel
theorem dX7_counts_9 : decode cX7_counts 9 = .ok (.aload_n 0, 1) := by decide +kernel
theorem dX7_counts_10 : decode cX7_counts 10 = .ok (.getfield 120, 3) := by decide +kernel
theorem dX7_counts_13 : decode cX7_counts 13 = .ok (.if_icmp .ge 37, 3) := by decide +kernel
theorem dX7_counts_16 : decode cX7_counts 16 = .ok (.aload_n 0, 1) := by decide +kernel
theorem dX7_counts_17 : decode cX7_counts 17 = .ok (.iload_n 2, 1) := by decide +kernel
theorem dX7_counts_18 : decode cX7_counts 18 = .ok (.invokevirtual 239, 3) := by decide +kernel
theorem dX7_counts_21 : decode cX7_counts 21 = .ok (.ifCond .ne 6, 3) := by decide +kernel
theorem dX7_counts_24 : decode cX7_counts 24 = .ok (.goto 20, 3) := by decide +kernel
theorem dX7_counts_27 : decode cX7_counts 27 = .ok (.aload_n 0, 1) := by decide +kernel
theorem dX7_counts_28 : decode cX7_counts 28 = .ok (.iload_n 2, 1) := by decide +kernel
theorem dX7_counts_29 : decode cX7_counts 29 = .ok (.invokevirtual 242, 3) := by decide +kernel
theorem dX7_counts_32 : decode cX7_counts 32 = .ok (.ifCond .ne 4, 3) := by decide +kernel
theorem dX7_counts_35 : decode cX7_counts 35 = .ok (.return_, 1) := by decide +kernel
theorem dX7_counts_36 : decode cX7_counts 36 = .ok (.iload_n 1, 1) := by decide +kernel
theorem dX7_counts_37 : decode cX7_counts 37 = .ok (.aload_n 0, 1) := by decide +kernel
theorem dX7_counts_38 : decode cX7_counts 38 = .ok (.iload_n 2, 1) := by decide +kernel
theorem dX7_counts_39 : decode cX7_counts 39 = .ok (.invokevirtual 201, 3) := by decide +kernel
theorem dX7_counts_42 : decode cX7_counts 42 = .ok (.iadd, 1) := by decide +kernel
theorem dX7_counts_43 : decode cX7_counts 43 = .ok (.istore_n 1, 1) := by decide +kernel
theorem dX7_counts_44 : decode cX7_counts 44 = .ok (.iinc 2 1, 3) := by decide +kernel
theorem dX7_counts_47 : decode cX7_counts 47 = .ok (.goto (-39), 3) := by decide +kernel
theorem dX7_counts_50 : decode cX7_counts 50 = .ok (.aload_n 0, 1) := by decide +kernel
theorem dX7_counts_51 : decode cX7_counts 51 = .ok (.getfield 226, 3) := by decide +kernel
theorem dX7_counts_54 : decode cX7_counts 54 = .ok (.ifCond .eq 7, 3) := by decide +kernel
theorem dX7_counts_57 : decode cX7_counts 57 = .ok (.iconst 0, 1) := by decide +kernel
theorem dX7_counts_58 : decode cX7_counts 58 = .ok (.goto 11, 3) := by decide +kernel
theorem dX7_counts_61 : decode cX7_counts 61 = .ok (.aload_n 0, 1) := by decide +kernel
theorem dX7_counts_62 : decode cX7_counts 62 = .ok (.aload_n 0, 1) := by decide +kernel
theorem dX7_counts_63 : decode cX7_counts 63 = .ok (.getfield 230, 3) := by decide +kernel
theorem dX7_counts_66 : decode cX7_counts 66 = .ok (.invokevirtual 220, 3) := by decide +kernel
theorem dX7_counts_69 : decode cX7_counts 69 = .ok (.istore_n 2, 1) := by decide +kernel
theorem dX7_counts_70 : decode cX7_counts 70 = .ok (.aload_n 0, 1) := by decide +kernel
theorem dX7_counts_71 : decode cX7_counts 71 = .ok (.getfield 245, 3) := by decide +kernel
theorem dX7_counts_74 : decode cX7_counts 74 = .ok (.ifCond .eq 30, 3) := by decide +kernel
theorem dX7_counts_77 : decode cX7_counts 77 = .ok (.iload_n 1, 1) := by decide +kernel
theorem dX7_counts_78 : decode cX7_counts 78 = .ok (.aload_n 0, 1) := by decide +kernel
theorem dX7_counts_79 : decode cX7_counts 79 = .ok (.getfield 248, 3) := by decide +kernel
theorem dX7_counts_82 : decode cX7_counts 82 = .ok (.if_icmp .gt 22, 3) := by decide +kernel
theorem dX7_counts_85 : decode cX7_counts 85 = .ok (.iload_n 1, 1) := by decide +kernel
theorem dX7_counts_86 : decode cX7_counts 86 = .ok (.aload_n 0, 1) := by decide +kernel
theorem dX7_counts_87 : decode cX7_counts 87 = .ok (.getfield 248, 3) := by decide +kernel
theorem dX7_counts_90 : decode cX7_counts 90 = .ok (.if_icmp .ne 22, 3) := by decide +kernel
theorem dX7_counts_93 : decode cX7_counts 93 = .ok (.aload_n 0, 1) := by decide +kernel
theorem dX7_counts_94 : decode cX7_counts 94 = .ok (.getfield 184, 3) := by decide +kernel
theorem dX7_counts_97 : decode cX7_counts 97 = .ok (.aload_n 0, 1) := by decide +kernel
theorem dX7_counts_98 : decode cX7_counts 98 = .ok (.getfield 251, 3) := by decide +kernel
theorem dX7_counts_101 : decode cX7_counts 101 = .ok (.if_icmp .ge 11, 3) := by decide +kernel
theorem dX7_counts_104 : decode cX7_counts 104 = .ok (.aload_n 0, 1) := by decide +kernel
theorem dX7_counts_105 : decode cX7_counts 105 = .ok (.aload_n 0, 1) := by decide +kernel
theorem dX7_counts_106 : decode cX7_counts 106 = .ok (.getfield 184, 3) := by decide +kernel
theorem dX7_counts_109 : decode cX7_counts 109 = .ok (.putfield 251, 3) := by decide +kernel
theorem dX7_counts_112 : decode cX7_counts 112 = .ok (.aload_n 0, 1) := by decide +kernel
theorem dX7_counts_113 : decode cX7_counts 113 = .ok (.getfield 245, 3) := by decide +kernel
theorem dX7_counts_116 : decode cX7_counts 116 = .ok (.ifCond .eq 30, 3) := by decide +kernel
theorem dX7_counts_119 : decode cX7_counts 119 = .ok (.iload_n 1, 1) := by decide +kernel
theorem dX7_counts_120 : decode cX7_counts 120 = .ok (.aload_n 0, 1) := by decide +kernel
theorem dX7_counts_121 : decode cX7_counts 121 = .ok (.getfield 254, 3) := by decide +kernel
theorem dX7_counts_124 : decode cX7_counts 124 = .ok (.if_icmp .lt 22, 3) := by decide +kernel
theorem dX7_counts_127 : decode cX7_counts 127 = .ok (.iload_n 1, 1) := by decide +kernel
theorem dX7_counts_128 : decode cX7_counts 128 = .ok (.aload_n 0, 1) := by decide +kernel
theorem dX7_counts_129 : decode cX7_counts 129 = .ok (.getfield 254, 3) := by decide +kernel
theorem dX7_counts_132 : decode cX7_counts 132 = .ok (.if_icmp .ne 22, 3) := by decide +kernel
theorem dX7_counts_135 : decode cX7_counts 135 = .ok (.aload_n 0, 1) := by decide +kernel
theorem dX7_counts_136 : decode cX7_counts 136 = .ok (.getfield 184, 3) := by decide +kernel
theorem dX7_counts_139 : decode cX7_counts 139 = .ok (.aload_n 0, 1) := by decide +kernel
theorem dX7_counts_140 : decode cX7_counts 140 = .ok (.getfield 257, 3) := by decide +kernel
theorem dX7_counts_143 : decode cX7_counts 143 = .ok (.if_icmp .ge 11, 3) := by decide +kernel
theorem dX7_counts_146 : decode cX7_counts 146 = .ok (.aload_n 0, 1) := by decide +kernel
theorem dX7_counts_147 : decode cX7_counts 147 = .ok (.aload_n 0, 1) := by decide +kernel
theorem dX7_counts_148 : decode cX7_counts 148 = .ok (.getfield 184, 3) := by decide +kernel
theorem dX7_counts_151 : decode cX7_counts 151 = .ok (.putfield 257, 3) := by decide +kernel
theorem dX7_counts_154 : decode cX7_counts 154 = .ok (.aload_n 0, 1) := by decide +kernel
theorem dX7_counts_155 : decode cX7_counts 155 = .ok (.getfield 245, 3) := by decide +kernel
theorem dX7_counts_158 : decode cX7_counts 158 = .ok (.ifCond .eq 27, 3) := by decide +kernel
theorem dX7_counts_161 : decode cX7_counts 161 = .ok (.iload_n 2, 1) := by decide +kernel
theorem dX7_counts_162 : decode cX7_counts 162 = .ok (.aload_n 0, 1) := by decide +kernel
theorem dX7_counts_163 : decode cX7_counts 163 = .ok (.getfield 260, 3) := by decide +kernel
theorem dX7_counts_166 : decode cX7_counts 166 = .ok (.if_icmp .gt 19, 3) := by decide +kernel
theorem dX7_counts_169 : decode cX7_counts 169 = .ok (.iload_n 2, 1) := by decide +kernel
theorem dX7_counts_170 : decode cX7_counts 170 = .ok (.aload_n 0, 1) := by decide +kernel
theorem dX7_counts_171 : decode cX7_counts 171 = .ok (.getfield 260, 3) := by decide +kernel
theorem dX7_counts_174 : decode cX7_counts 174 = .ok (.if_icmp .ne 16, 3) := by decide +kernel
theorem dX7_counts_177 : decode cX7_counts 177 = .ok (.iload_n 1, 1) := by decide +kernel
theorem dX7_counts_178 : decode cX7_counts 178 = .ok (.aload_n 0, 1) := by decide +kernel
theorem dX7_counts_179 : decode cX7_counts 179 = .ok (.getfield 263, 3) := by decide +kernel
theorem dX7_counts_182 : decode cX7_counts 182 = .ok (.if_icmp .le 8, 3) := by decide +kernel
theorem dX7_counts_185 : decode cX7_counts 185 = .ok (.aload_n 0, 1) := by decide +kernel
theorem dX7_counts_186 : decode cX7_counts 186 = .ok (.iload_n 1, 1) := by decide +kernel
theorem dX7_counts_187 : decode cX7_counts 187 = .ok (.putfield 263, 3) := by decide +kernel
theorem dX7_counts_190 : decode cX7_counts 190 = .ok (.aload_n 0, 1) := by decide +kernel
theorem dX7_counts_191 : decode cX7_counts 191 = .ok (.aload_n 0, 1) := by decide +kernel
theorem dX7_counts_192 : decode cX7_counts 192 = .ok (.getfield 245, 3) := by decide +kernel
theorem dX7_counts_195 : decode cX7_counts 195 = .ok (.ifCond .eq 14, 3) := by decide +kernel
theorem dX7_counts_198 : decode cX7_counts 198 = .ok (.aload_n 0, 1) := by decide +kernel
theorem dX7_counts_199 : decode cX7_counts 199 = .ok (.getfield 260, 3) := by decide +kernel
theorem dX7_counts_202 : decode cX7_counts 202 = .ok (.iload_n 2, 1) := by decide +kernel
theorem dX7_counts_203 : decode cX7_counts 203 = .ok (.invokestatic 152, 3) := by decide +kernel
theorem dX7_counts_206 : decode cX7_counts 206 = .ok (.goto 4, 3) := by decide +kernel
theorem dX7_counts_209 : decode cX7_counts 209 = .ok (.iload_n 2, 1) := by decide +kernel
theorem dX7_counts_210 : decode cX7_counts 210 = .ok (.putfield 260, 3) := by decide +kernel
theorem dX7_counts_213 : decode cX7_counts 213 = .ok (.aload_n 0, 1) := by decide +kernel
theorem dX7_counts_214 : decode cX7_counts 214 = .ok (.aload_n 0, 1) := by decide +kernel
theorem dX7_counts_215 : decode cX7_counts 215 = .ok (.getfield 245, 3) := by decide +kernel
theorem dX7_counts_218 : decode cX7_counts 218 = .ok (.ifCond .eq 14, 3) := by decide +kernel
theorem dX7_counts_221 : decode cX7_counts 221 = .ok (.aload_n 0, 1) := by decide +kernel
theorem dX7_counts_222 : decode cX7_counts 222 = .ok (.getfield 248, 3) := by decide +kernel
theorem dX7_counts_225 : decode cX7_counts 225 = .ok (.iload_n 1, 1) := by decide +kernel
theorem dX7_counts_226 : decode cX7_counts 226 = .ok (.invokestatic 152, 3) := by decide +kernel
theorem dX7_counts_229 : decode cX7_counts 229 = .ok (.goto 4, 3) := by decide +kernel
theorem dX7_counts_232 : decode cX7_counts 232 = .ok (.iload_n 1, 1) := by decide +kernel
theorem dX7_counts_233 : decode cX7_counts 233 = .ok (.putfield 248, 3) := by decide +kernel
theorem dX7_counts_236 : decode cX7_counts 236 = .ok (.aload_n 0, 1) := by decide +kernel
theorem dX7_counts_237 : decode cX7_counts 237 = .ok (.aload_n 0, 1) := by decide +kernel
theorem dX7_counts_238 : decode cX7_counts 238 = .ok (.getfield 245, 3) := by decide +kernel
theorem dX7_counts_241 : decode cX7_counts 241 = .ok (.ifCond .eq 14, 3) := by decide +kernel
theorem dX7_counts_244 : decode cX7_counts 244 = .ok (.aload_n 0, 1) := by decide +kernel
theorem dX7_counts_245 : decode cX7_counts 245 = .ok (.getfield 254, 3) := by decide +kernel
theorem dX7_counts_248 : decode cX7_counts 248 = .ok (.iload_n 1, 1) := by decide +kernel
theorem dX7_counts_249 : decode cX7_counts 249 = .ok (.invokestatic 160, 3) := by decide +kernel
theorem dX7_counts_252 : decode cX7_counts 252 = .ok (.goto 4, 3) := by decide +kernel
theorem dX7_counts_255 : decode cX7_counts 255 = .ok (.iload_n 1, 1) := by decide +kernel
theorem dX7_counts_256 : decode cX7_counts 256 = .ok (.putfield 254, 3) := by decide +kernel
theorem dX7_counts_259 : decode cX7_counts 259 = .ok (.aload_n 0, 1) := by decide +kernel
theorem dX7_counts_260 : decode cX7_counts 260 = .ok (.iconst 1, 1) := by decide +kernel
theorem dX7_counts_261 : decode cX7_counts 261 = .ok (.putfield 245, 3) := by decide +kernel
theorem dX7_counts_264 : decode cX7_counts 264 = .ok (.return_, 1) := by decide +kernel
theorem dX7_part_0 : decode cX7_part 0 = .ok (.iload_n 1, 1) := by decide +kernel
theorem dX7_part_1 : decode cX7_part 1 = .ok (.aload_n 0, 1) := by decide +kernel
theorem dX7_part_2 : decode cX7_part 2 = .ok (.getfield 146, 3) := by decide +kernel
theorem dX7_part_5 : decode cX7_part 5 = .ok (.if_icmp .ne 8, 3) := by decide +kernel
theorem dX7_part_8 : decode cX7_part 8 = .ok (.aload_n 0, 1) := by decide +kernel
theorem dX7_part_9 : decode cX7_part 9 = .ok (.invokevirtual 266, 3) := by decide +kernel
theorem dX7_part_12 : decode cX7_part 12 = .ok (.return_, 1) := by decide +kernel
theorem dX7_part_13 : decode cX7_part 13 = .ok (.aload_n 0, 1) := by decide +kernel
theorem dX7_part_14 : decode cX7_part 14 = .ok (.getfield 269, 3) := by decide +kernel
theorem dX7_part_17 : decode cX7_part 17 = .ok (.iload_n 1, 1) := by decide +kernel
theorem dX7_part_18 : decode cX7_part 18 = .ok (.invokestatic 157, 3) := by decide +kernel
theorem dX7_part_21 : decode cX7_part 21 = .ok (.ifCond .ne 11, 3) := by decide +kernel
theorem dX7_part_24 : decode cX7_part 24 = .ok (.aload_n 0, 1) := by decide +kernel
theorem dX7_part_25 : decode cX7_part 25 = .ok (.iload_n 1, 1) := by decide +kernel
theorem dX7_part_26 : decode cX7_part 26 = .ok (.iconst 1, 1) := by decide +kernel
theorem dX7_part_27 : decode cX7_part 27 = .ok (.iadd, 1) := by decide +kernel
theorem dX7_part_28 : decode cX7_part 28 = .ok (.invokevirtual 272, 3) := by decide +kernel
theorem dX7_part_31 : decode cX7_part 31 = .ok (.return_, 1) := by decide +kernel
theorem dX7_part_32 : decode cX7_part 32 = .ok (.iconst 0, 1) := by decide +kernel
theorem dX7_part_33 : decode cX7_part 33 = .ok (.istore_n 2, 1) := by decide +kernel
theorem dX7_part_34 : decode cX7_part 34 = .ok (.iload_n 2, 1) := by decide +kernel
theorem dX7_part_35 : decode cX7_part 35 = .ok (.aload_n 0, 1) := by decide +kernel
theorem dX7_part_36 : decode cX7_part 36 = .ok (.getfield 184, 3) := by decide +kernel
theorem dX7_part_39 : decode cX7_part 39 = .ok (.if_icmp .ge 115, 3) := by decide +kernel
theorem dX7_part_42 : decode cX7_part 42 = .ok (.aload_n 0, 1) := by decide +kernel
theorem dX7_part_43 : decode cX7_part 43 = .ok (.getfield 38, 3) := by decide +kernel
theorem dX7_part_46 : decode cX7_part 46 = .ok (.iload_n 2, 1) := by decide +kernel
theorem dX7_part_47 : decode cX7_part 47 = .ok (.iaload, 1) := by decide +kernel
theorem dX7_part_48 : decode cX7_part 48 = .ok (.aload_n 0, 1) := by decide +kernel
theorem dX7_part_49 : decode cX7_part 49 = .ok (.getfield 56, 3) := by decide +kernel
theorem dX7_part_52 : decode cX7_part 52 = .ok (.iload_n 1, 1) := by decide +kernel
theorem dX7_part_53 : decode cX7_part 53 = .ok (.iaload, 1) := by decide +kernel
theorem dX7_part_54 : decode cX7_part 54 = .ok (.iconst (-1), 1) := by decide +kernel
theorem dX7_part_55 : decode cX7_part 55 = .ok (.ixor, 1) := by decide +kernel
theorem dX7_part_56 : decode cX7_part 56 = .ok (.iand, 1) := by decide +kernel
theorem dX7_part_57 : decode cX7_part 57 = .ok (.ifCond .ne 91, 3) := by decide +kernel
theorem dX7_part_60 : decode cX7_part 60 = .ok (.aload_n 0, 1) := by decide +kernel
theorem dX7_part_61 : decode cX7_part 61 = .ok (.getfield 233, 3) := by decide +kernel
theorem dX7_part_64 : decode cX7_part 64 = .ok (.ifCond .eq 22, 3) := by decide +kernel
theorem dX7_part_67 : decode cX7_part 67 = .ok (.aload_n 0, 1) := by decide +kernel
theorem dX7_part_68 : decode cX7_part 68 = .ok (.getfield 59, 3) := by decide +kernel
theorem dX7_part_71 : decode cX7_part 71 = .ok (.iload_n 2, 1) := by decide +kernel
theorem dX7_part_72 : decode cX7_part 72 = .ok (.iaload, 1) := by decide +kernel
theorem dX7_part_73 : decode cX7_part 73 = .ok (.aload_n 0, 1) := by decide +kernel
theorem dX7_part_74 : decode cX7_part 74 = .ok (.getfield 32, 3) := by decide +kernel
theorem dX7_part_77 : decode cX7_part 77 = .ok (.iload_n 1, 1) := by decide +kernel
theorem dX7_part_78 : decode cX7_part 78 = .ok (.iaload, 1) := by decide +kernel
theorem dX7_part_79 : decode cX7_part 79 = .ok (.iand, 1) := by decide +kernel
theorem dX7_part_80 : decode cX7_part 80 = .ok (.ifCond .ne 6, 3) := by decide +kernel
theorem dX7_part_83 : decode cX7_part 83 = .ok (.goto 65, 3) := by decide +kernel
theorem dX7_part_86 : decode cX7_part 86 = .ok (.aload_n 0, 1) := by decide +kernel
theorem dX7_part_87 : decode cX7_part 87 = .ok (.getfield 59, 3) := by decide +kernel
theorem dX7_part_90 : decode cX7_part 90 = .ok (.iload_n 2, 1) := by decide +kernel
theorem dX7_part_91 : decode cX7_part 91 = .ok (.iaload, 1) := by decide +kernel
theorem dX7_part_92 : decode cX7_part 92 = .ok (.istore_n 3, 1) := by decide +kernel
theorem dX7_part_93 : decode cX7_part 93 = .ok (.aload_n 0, 1) := by decide +kernel
theorem dX7_part_94 : decode cX7_part 94 = .ok (.getfield 59, 3) := by decide +kernel
theorem dX7_part_97 : decode cX7_part 97 = .ok (.iload_n 2, 1) := by decide +kernel
theorem dX7_part_98 : decode cX7_part 98 = .ok (.dup2, 1) := by decide +kernel
theorem dX7_part_99 : decode cX7_part 99 = .ok (.iaload, 1) := by decide +kernel
theorem dX7_part_100 : decode cX7_part 100 = .ok (.aload_n 0, 1) := by decide +kernel
theorem dX7_part_101 : decode cX7_part 101 = .ok (.getfield 32, 3) := by decide +kernel
theorem dX7_part_104 : decode cX7_part 104 = .ok (.iload_n 1, 1) := by decide +kernel
theorem dX7_part_105 : decode cX7_part 105 = .ok (.iaload, 1) := by decide +kernel
theorem dX7_part_106 : decode cX7_part 106 = .ok (.iand, 1) := by decide +kernel
theorem dX7_part_107 : decode cX7_part 107 = .ok (.iastore, 1) := by decide +kernel
theorem dX7_part_108 : decode cX7_part 108 = .ok (.aload_n 0, 1) := by decide +kernel
theorem dX7_part_109 : decode cX7_part 109 = .ok (.getfield 38, 3) := by decide +kernel
theorem dX7_part_112 : decode cX7_part 112 = .ok (.iload_n 2, 1) := by decide +kernel
theorem dX7_part_113 : decode cX7_part 113 = .ok (.dup2, 1) := by decide +kernel
theorem dX7_part_114 : decode cX7_part 114 = .ok (.iaload, 1) := by decide +kernel
theorem dX7_part_115 : decode cX7_part 115 = .ok (.iconst 1, 1) := by decide +kernel
theorem dX7_part_116 : decode cX7_part 116 = .ok (.iload_n 1, 1) := by decide +kernel
theorem dX7_part_117 : decode cX7_part 117 = .ok (.ishl, 1) := by decide +kernel
theorem dX7_part_118 : decode cX7_part 118 = .ok (.ior, 1) := by decide +kernel
theorem dX7_part_119 : decode cX7_part 119 = .ok (.iastore, 1) := by decide +kernel
theorem dX7_part_120 : decode cX7_part 120 = .ok (.aload_n 0, 1) := by decide +kernel
theorem dX7_part_121 : decode cX7_part 121 = .ok (.iload_n 1, 1) := by decide +kernel
theorem dX7_part_122 : decode cX7_part 122 = .ok (.iconst 1, 1) := by decide +kernel
theorem dX7_part_123 : decode cX7_part 123 = .ok (.iadd, 1) := by decide +kernel
theorem dX7_part_124 : decode cX7_part 124 = .ok (.invokevirtual 272, 3) := by decide +kernel
theorem dX7_part_127 : decode cX7_part 127 = .ok (.aload_n 0, 1) := by decide +kernel
theorem dX7_part_128 : decode cX7_part 128 = .ok (.getfield 38, 3) := by decide +kernel
theorem dX7_part_131 : decode cX7_part 131 = .ok (.iload_n 2, 1) := by decide +kernel
theorem dX7_part_132 : decode cX7_part 132 = .ok (.dup2, 1) := by decide +kernel
theorem dX7_part_133 : decode cX7_part 133 = .ok (.iaload, 1) := by decide +kernel
theorem dX7_part_134 : decode cX7_part 134 = .ok (.iconst 1, 1) := by decide +kernel
theorem dX7_part_135 : decode cX7_part 135 = .ok (.iload_n 1, 1) := by decide +kernel
theorem dX7_part_136 : decode cX7_part 136 = .ok (.ishl, 1) := by decide +kernel
theorem dX7_part_137 : decode cX7_part 137 = .ok (.iconst (-1), 1) := by decide +kernel
theorem dX7_part_138 : decode cX7_part 138 = .ok (.ixor, 1) := by decide +kernel
theorem dX7_part_139 : decode cX7_part 139 = .ok (.iand, 1) := by decide +kernel
theorem dX7_part_140 : decode cX7_part 140 = .ok (.iastore, 1) := by decide +kernel
theorem dX7_part_141 : decode cX7_part 141 = .ok (.aload_n 0, 1) := by decide +kernel
theorem dX7_part_142 : decode cX7_part 142 = .ok (.getfield 59, 3) := by decide +kernel
theorem dX7_part_145 : decode cX7_part 145 = .ok (.iload_n 2, 1) := by decide +kernel
theorem dX7_part_146 : decode cX7_part 146 = .ok (.iload_n 3, 1) := by decide +kernel
theorem dX7_part_147 : decode cX7_part 147 = .ok (.iastore, 1) := by decide +kernel
theorem dX7_part_148 : decode cX7_part 148 = .ok (.iinc 2 1, 3) := by decide +kernel
theorem dX7_part_151 : decode cX7_part 151 = .ok (.goto (-117), 3) := by decide +kernel
theorem dX7_part_154 : decode cX7_part 154 = .ok (.aload_n 0, 1) := by decide +kernel
theorem dX7_part_155 : decode cX7_part 155 = .ok (.getfield 38, 3) := by decide +kernel
theorem dX7_part_158 : decode cX7_part 158 = .ok (.aload_n 0, 1) := by decide +kernel
theorem dX7_part_159 : decode cX7_part 159 = .ok (.getfield 184, 3) := by decide +kernel
theorem dX7_part_162 : decode cX7_part 162 = .ok (.iconst 1, 1) := by decide +kernel
theorem dX7_part_163 : decode cX7_part 163 = .ok (.iload_n 1, 1) := by decide +kernel
theorem dX7_part_164 : decode cX7_part 164 = .ok (.ishl, 1) := by decide +kernel
theorem dX7_part_165 : decode cX7_part 165 = .ok (.iastore, 1) := by decide +kernel
theorem dX7_part_166 : decode cX7_part 166 = .ok (.aload_n 0, 1) := by decide +kernel
theorem dX7_part_167 : decode cX7_part 167 = .ok (.getfield 59, 3) := by decide +kernel
theorem dX7_part_170 : decode cX7_part 170 = .ok (.aload_n 0, 1) := by decide +kernel
theorem dX7_part_171 : decode cX7_part 171 = .ok (.getfield 184, 3) := by decide +kernel
theorem dX7_part_174 : decode cX7_part 174 = .ok (.aload_n 0, 1) := by decide +kernel
theorem dX7_part_175 : decode cX7_part 175 = .ok (.getfield 32, 3) := by decide +kernel
theorem dX7_part_178 : decode cX7_part 178 = .ok (.iload_n 1, 1) := by decide +kernel
theorem dX7_part_179 : decode cX7_part 179 = .ok (.iaload, 1) := by decide +kernel
theorem dX7_part_180 : decode cX7_part 180 = .ok (.iastore, 1) := by decide +kernel
theorem dX7_part_181 : decode cX7_part 181 = .ok (.aload_n 0, 1) := by decide +kernel
theorem dX7_part_182 : decode cX7_part 182 = .ok (.dup, 1) := by decide +kernel
theorem dX7_part_183 : decode cX7_part 183 = .ok (.getfield 184, 3) := by decide +kernel
theorem dX7_part_186 : decode cX7_part 186 = .ok (.iconst 1, 1) := by decide +kernel
theorem dX7_part_187 : decode cX7_part 187 = .ok (.iadd, 1) := by decide +kernel
theorem dX7_part_188 : decode cX7_part 188 = .ok (.putfield 184, 3) := by decide +kernel
theorem dX7_part_191 : decode cX7_part 191 = .ok (.aload_n 0, 1) := by decide +kernel
theorem dX7_part_192 : decode cX7_part 192 = .ok (.iload_n 1, 1) := by decide +kernel
theorem dX7_part_193 : decode cX7_part 193 = .ok (.iconst 1, 1) := by decide +kernel
theorem dX7_part_194 : decode cX7_part 194 = .ok (.iadd, 1) := by decide +kernel
theorem dX7_part_195 : decode cX7_part 195 = .ok (.invokevirtual 272, 3) := by decide +kernel
theorem dX7_part_198 : decode cX7_part 198 = .ok (.aload_n 0, 1) := by decide +kernel
theorem dX7_part_199 : decode cX7_part 199 = .ok (.dup, 1) := by decide +kernel
theorem dX7_part_200 : decode cX7_part 200 = .ok (.getfield 184, 3) := by decide +kernel
theorem dX7_part_203 : decode cX7_part 203 = .ok (.iconst 1, 1) := by decide +kernel
theorem dX7_part_204 : decode cX7_part 204 = .ok (.isub, 1) := by decide +kernel
theorem dX7_part_205 : decode cX7_part 205 = .ok (.putfield 184, 3) := by decide +kernel
theorem dX7_part_208 : decode cX7_part 208 = .ok (.return_, 1) := by decide +kernel
theorem dX7_mayNow_0 : decode cX7_mayNow 0 = .ok (.iconst 0, 1) := by decide +kernel
theorem dX7_mayNow_1 : decode cX7_mayNow 1 = .ok (.istore_n 2, 1) := by decide +kernel
theorem dX7_mayNow_2 : decode cX7_mayNow 2 = .ok (.iload_n 2, 1) := by decide +kernel
theorem dX7_mayNow_3 : decode cX7_mayNow 3 = .ok (.aload_n 0, 1) := by decide +kernel
theorem dX7_mayNow_4 : decode cX7_mayNow 4 = .ok (.getfield 120, 3) := by decide +kernel
theorem dX7_mayNow_7 : decode cX7_mayNow 7 = .ok (.if_icmp .ge 28, 3) := by decide +kernel
theorem dX7_mayNow_10 : decode cX7_mayNow 10 = .ok (.aload_n 0, 1) := by decide +kernel
theorem dX7_mayNow_11 : decode cX7_mayNow 11 = .ok (.iload_n 2, 1) := by decide +kernel
theorem dX7_mayNow_12 : decode cX7_mayNow 12 = .ok (.invokevirtual 239, 3) := by decide +kernel
theorem dX7_mayNow_15 : decode cX7_mayNow 15 = .ok (.ifCond .eq 14, 3) := by decide +kernel
theorem dX7_mayNow_18 : decode cX7_mayNow 18 = .ok (.aload_n 0, 1) := by decide +kernel
theorem dX7_mayNow_19 : decode cX7_mayNow 19 = .ok (.iload_n 2, 1) := by decide +kernel
theorem dX7_mayNow_20 : decode cX7_mayNow 20 = .ok (.iload_n 1, 1) := by decide +kernel
theorem dX7_mayNow_21 : decode cX7_mayNow 21 = .ok (.invokevirtual 175, 3) := by decide +kernel
theorem dX7_mayNow_24 : decode cX7_mayNow 24 = .ok (.ifCond .ne 5, 3) := by decide +kernel
theorem dX7_mayNow_27 : decode cX7_mayNow 27 = .ok (.iconst 0, 1) := by decide +kernel
theorem dX7_mayNow_28 : decode cX7_mayNow 28 = .ok (.ireturn, 1) := by decide +kernel
theorem dX7_mayNow_29 : decode cX7_mayNow 29 = .ok (.iinc 2 1, 3) := by decide +kernel
theorem dX7_mayNow_32 : decode cX7_mayNow 32 = .ok (.goto (-30), 3) := by decide +kernel
theorem dX7_mayNow_35 : decode cX7_mayNow 35 = .ok (.iconst 1, 1) := by decide +kernel
theorem dX7_mayNow_36 : decode cX7_mayNow 36 = .ok (.ireturn, 1) := by decide +kernel
theorem dX7_partByHours_0 : decode cX7_partByHours 0 = .ok (.iload_n 1, 1) := by decide +kernel
theorem dX7_partByHours_1 : decode cX7_partByHours 1 = .ok (.ifCond .ne 8, 3) := by decide +kernel
theorem dX7_partByHours_4 : decode cX7_partByHours 4 = .ok (.aload_n 0, 1) := by decide +kernel
theorem dX7_partByHours_5 : decode cX7_partByHours 5 = .ok (.invokevirtual 266, 3) := by decide +kernel
theorem dX7_partByHours_8 : decode cX7_partByHours 8 = .ok (.return_, 1) := by decide +kernel
theorem dX7_partByHours_9 : decode cX7_partByHours 9 = .ok (.iconst 0, 1) := by decide +kernel
theorem dX7_partByHours_10 : decode cX7_partByHours 10 = .ok (.istore_n 2, 1) := by decide +kernel
theorem dX7_partByHours_11 : decode cX7_partByHours 11 = .ok (.iload_n 2, 1) := by decide +kernel
theorem dX7_partByHours_12 : decode cX7_partByHours 12 = .ok (.iload_n 1, 1) := by decide +kernel
theorem dX7_partByHours_13 : decode cX7_partByHours 13 = .ok (.if_icmp .eq 115, 3) := by decide +kernel
theorem dX7_partByHours_16 : decode cX7_partByHours 16 = .ok (.aload_n 0, 1) := by decide +kernel
theorem dX7_partByHours_17 : decode cX7_partByHours 17 = .ok (.iload_n 1, 1) := by decide +kernel
theorem dX7_partByHours_18 : decode cX7_partByHours 18 = .ok (.iload_n 2, 1) := by decide +kernel
theorem dX7_partByHours_19 : decode cX7_partByHours 19 = .ok (.iconst (-1), 1) := by decide +kernel
theorem dX7_partByHours_20 : decode cX7_partByHours 20 = .ok (.ixor, 1) := by decide +kernel
theorem dX7_partByHours_21 : decode cX7_partByHours 21 = .ok (.iand, 1) := by decide +kernel
theorem dX7_partByHours_22 : decode cX7_partByHours 22 = .ok (.invokevirtual 166, 3) := by decide +kernel
theorem dX7_partByHours_25 : decode cX7_partByHours 25 = .ok (.istore_n 3, 1) := by decide +kernel
theorem dX7_partByHours_26 : decode cX7_partByHours 26 = .ok (.iconst 0, 1) := by decide +kernel
theorem dX7_partByHours_27 : decode cX7_partByHours 27 = .ok (.istore 4, 2) := by decide +kernel
theorem dX7_partByHours_29 : decode cX7_partByHours 29 = .ok (.iload 4, 2) := by decide +kernel
theorem dX7_partByHours_31 : decode cX7_partByHours 31 = .ok (.aload_n 0, 1) := by decide +kernel
theorem dX7_partByHours_32 : decode cX7_partByHours 32 = .ok (.getfield 146, 3) := by decide +kernel
theorem dX7_partByHours_35 : decode cX7_partByHours 35 = .ok (.if_icmp .ge 40, 3) := by decide +kernel
theorem dX7_partByHours_38 : decode cX7_partByHours 38 = .ok (.iload_n 2, 1) := by decide +kernel
theorem dX7_partByHours_39 : decode cX7_partByHours 39 = .ok (.iload_n 1, 1) := by decide +kernel
theorem dX7_partByHours_40 : decode cX7_partByHours 40 = .ok (.iload 4, 2) := by decide +kernel
theorem dX7_partByHours_42 : decode cX7_partByHours 42 = .ok (.invokestatic 157, 3) := by decide +kernel
theorem dX7_partByHours_45 : decode cX7_partByHours 45 = .ok (.ifCond .eq 21, 3) := by decide +kernel
theorem dX7_partByHours_48 : decode cX7_partByHours 48 = .ok (.aload_n 0, 1) := by decide +kernel
theorem dX7_partByHours_49 : decode cX7_partByHours 49 = .ok (.getfield 20, 3) := by decide +kernel
theorem dX7_partByHours_52 : decode cX7_partByHours 52 = .ok (.iload 4, 2) := by decide +kernel
theorem dX7_partByHours_54 : decode cX7_partByHours 54 = .ok (.iaload, 1) := by decide +kernel
theorem dX7_partByHours_55 : decode cX7_partByHours 55 = .ok (.iload_n 3, 1) := by decide +kernel
theorem dX7_partByHours_56 : decode cX7_partByHours 56 = .ok (.if_icmp .ne 10, 3) := by decide +kernel
theorem dX7_partByHours_59 : decode cX7_partByHours 59 = .ok (.iconst 1, 1) := by decide +kernel
theorem dX7_partByHours_60 : decode cX7_partByHours 60 = .ok (.iload 4, 2) := by decide +kernel
theorem dX7_partByHours_62 : decode cX7_partByHours 62 = .ok (.ishl, 1) := by decide +kernel
theorem dX7_partByHours_63 : decode cX7_partByHours 63 = .ok (.goto 4, 3) := by decide +kernel
theorem dX7_partByHours_66 : decode cX7_partByHours 66 = .ok (.iconst 0, 1) := by decide +kernel
theorem dX7_partByHours_67 : decode cX7_partByHours 67 = .ok (.ior, 1) := by decide +kernel
theorem dX7_partByHours_68 : decode cX7_partByHours 68 = .ok (.istore_n 2, 1) := by decide +kernel
theorem dX7_partByHours_69 : decode cX7_partByHours 69 = .ok (.iinc 4 1, 3) := by decide +kernel
theorem dX7_partByHours_72 : decode cX7_partByHours 72 = .ok (.goto (-43), 3) := by decide +kernel
theorem dX7_partByHours_75 : decode cX7_partByHours 75 = .ok (.aload_n 0, 1) := by decide +kernel
theorem dX7_partByHours_76 : decode cX7_partByHours 76 = .ok (.iload_n 2, 1) := by decide +kernel
theorem dX7_partByHours_77 : decode cX7_partByHours 77 = .ok (.invokevirtual 275, 3) := by decide +kernel
theorem dX7_partByHours_80 : decode cX7_partByHours 80 = .ok (.ifCond .ne 6, 3) := by decide +kernel
theorem dX7_partByHours_83 : decode cX7_partByHours 83 = .ok (.goto (-72), 3) := by decide +kernel
theorem dX7_partByHours_86 : decode cX7_partByHours 86 = .ok (.aload_n 0, 1) := by decide +kernel
theorem dX7_partByHours_87 : decode cX7_partByHours 87 = .ok (.getfield 38, 3) := by decide +kernel
theorem dX7_partByHours_90 : decode cX7_partByHours 90 = .ok (.aload_n 0, 1) := by decide +kernel
theorem dX7_partByHours_91 : decode cX7_partByHours 91 = .ok (.getfield 184, 3) := by decide +kernel
theorem dX7_partByHours_94 : decode cX7_partByHours 94 = .ok (.iload_n 2, 1) := by decide +kernel
theorem dX7_partByHours_95 : decode cX7_partByHours 95 = .ok (.iastore, 1) := by decide +kernel
theorem dX7_partByHours_96 : decode cX7_partByHours 96 = .ok (.aload_n 0, 1) := by decide +kernel
theorem dX7_partByHours_97 : decode cX7_partByHours 97 = .ok (.dup, 1) := by decide +kernel
theorem dX7_partByHours_98 : decode cX7_partByHours 98 = .ok (.getfield 184, 3) := by decide +kernel
theorem dX7_partByHours_101 : decode cX7_partByHours 101 = .ok (.iconst 1, 1) := by decide +kernel
theorem dX7_partByHours_102 : decode cX7_partByHours 102 = .ok (.iadd, 1) := by decide +kernel
theorem dX7_partByHours_103 : decode cX7_partByHours 103 = .ok (.putfield 184, 3) := by decide +kernel
theorem dX7_partByHours_106 : decode cX7_partByHours 106 = .ok (.aload_n 0, 1) := by decide +kernel
theorem dX7_partByHours_107 : decode cX7_partByHours 107 = .ok (.iload_n 1, 1) := by decide +kernel
theorem dX7_partByHours_108 : decode cX7_partByHours 108 = .ok (.iload_n 2, 1) := by decide +kernel
theorem dX7_partByHours_109 : decode cX7_partByHours 109 = .ok (.iconst (-1), 1) := by decide +kernel
theorem dX7_partByHours_110 : decode cX7_partByHours 110 = .ok (.ixor, 1) := by decide +kernel
theorem dX7_partByHours_111 : decode cX7_partByHours 111 = .ok (.iand, 1) := by decide +kernel
theorem dX7_partByHours_112 : decode cX7_partByHours 112 = .ok (.invokevirtual 278, 3) := by decide +kernel
theorem dX7_partByHours_115 : decode cX7_partByHours 115 = .ok (.aload_n 0, 1) := by decide +kernel
theorem dX7_partByHours_116 : decode cX7_partByHours 116 = .ok (.dup, 1) := by decide +kernel
theorem dX7_partByHours_117 : decode cX7_partByHours 117 = .ok (.getfield 184, 3) := by decide +kernel
theorem dX7_partByHours_120 : decode cX7_partByHours 120 = .ok (.iconst 1, 1) := by decide +kernel
theorem dX7_partByHours_121 : decode cX7_partByHours 121 = .ok (.isub, 1) := by decide +kernel
theorem dX7_partByHours_122 : decode cX7_partByHours 122 = .ok (.putfield 184, 3) := by decide +kernel
theorem dX7_partByHours_125 : decode cX7_partByHours 125 = .ok (.goto (-114), 3) := by decide +kernel
theorem dX7_partByHours_128 : decode cX7_partByHours 128 = .ok (.return_, 1) := by decide +kernel
theorem dX7_layAll_0 : decode cX7_layAll 0 = .ok (.aload_n 0, 1) := by decide +kernel
theorem dX7_layAll_1 : decode cX7_layAll 1 = .ok (.iload_n 1, 1) := by decide +kernel
theorem dX7_layAll_2 : decode cX7_layAll 2 = .ok (.iload_n 2, 1) := by decide +kernel
theorem dX7_layAll_3 : decode cX7_layAll 3 = .ok (.invokevirtual 281, 3) := by decide +kernel
theorem dX7_layAll_6 : decode cX7_layAll 6 = .ok (.ifCond .ne 5, 3) := by decide +kernel
theorem dX7_layAll_9 : decode cX7_layAll 9 = .ok (.iconst 0, 1) := by decide +kernel
theorem dX7_layAll_10 : decode cX7_layAll 10 = .ok (.ireturn, 1) := by decide +kernel
theorem dX7_layAll_11 : decode cX7_layAll 11 = .ok (.aload_n 0, 1) := by decide +kernel
theorem dX7_layAll_12 : decode cX7_layAll 12 = .ok (.iload_n 1, 1) := by decide +kernel
theorem dX7_layAll_13 : decode cX7_layAll 13 = .ok (.putfield 230, 3) := by decide +kernel
theorem dX7_layAll_16 : decode cX7_layAll 16 = .ok (.aload_n 0, 1) := by decide +kernel
theorem dX7_layAll_17 : decode cX7_layAll 17 = .ok (.iconst 0, 1) := by decide +kernel
theorem dX7_layAll_18 : decode cX7_layAll 18 = .ok (.putfield 226, 3) := by decide +kernel
theorem dX7_layAll_21 : decode cX7_layAll 21 = .ok (.aload_n 0, 1) := by decide +kernel
theorem dX7_layAll_22 : decode cX7_layAll 22 = .ok (.iload_n 2, 1) := by decide +kernel
theorem dX7_layAll_23 : decode cX7_layAll 23 = .ok (.putfield 269, 3) := by decide +kernel
theorem dX7_layAll_26 : decode cX7_layAll 26 = .ok (.aload_n 0, 1) := by decide +kernel
theorem dX7_layAll_27 : decode cX7_layAll 27 = .ok (.iconst 0, 1) := by decide +kernel
theorem dX7_layAll_28 : decode cX7_layAll 28 = .ok (.putfield 245, 3) := by decide +kernel
theorem dX7_layAll_31 : decode cX7_layAll 31 = .ok (.aload_n 0, 1) := by decide +kernel
theorem dX7_layAll_32 : decode cX7_layAll 32 = .ok (.iconst 0, 1) := by decide +kernel
theorem dX7_layAll_33 : decode cX7_layAll 33 = .ok (.putfield 184, 3) := by decide +kernel
theorem dX7_layAll_36 : decode cX7_layAll 36 = .ok (.aload_n 0, 1) := by decide +kernel
theorem dX7_layAll_37 : decode cX7_layAll 37 = .ok (.invokevirtual 284, 3) := by decide +kernel
theorem dX7_layAll_40 : decode cX7_layAll 40 = .ok (.aload_n 0, 1) := by decide +kernel
theorem dX7_layAll_41 : decode cX7_layAll 41 = .ok (.iload_n 1, 1) := by decide +kernel
theorem dX7_layAll_42 : decode cX7_layAll 42 = .ok (.iconst 3, 1) := by decide +kernel
theorem dX7_layAll_43 : decode cX7_layAll 43 = .ok (.invokevirtual 142, 3) := by decide +kernel
theorem dX7_layAll_46 : decode cX7_layAll 46 = .ok (.ifCond .ne 11, 3) := by decide +kernel
theorem dX7_layAll_49 : decode cX7_layAll 49 = .ok (.aload_n 0, 1) := by decide +kernel
theorem dX7_layAll_50 : decode cX7_layAll 50 = .ok (.iload_n 2, 1) := by decide +kernel
theorem dX7_layAll_51 : decode cX7_layAll 51 = .ok (.invokevirtual 278, 3) := by decide +kernel
theorem dX7_layAll_54 : decode cX7_layAll 54 = .ok (.goto 8, 3) := by decide +kernel
theorem dX7_layAll_57 : decode cX7_layAll 57 = .ok (.aload_n 0, 1) := by decide +kernel
theorem dX7_layAll_58 : decode cX7_layAll 58 = .ok (.iconst 0, 1) := by decide +kernel
theorem dX7_layAll_59 : decode cX7_layAll 59 = .ok (.invokevirtual 272, 3) := by decide +kernel
theorem dX7_layAll_62 : decode cX7_layAll 62 = .ok (.aload_n 0, 1) := by decide +kernel
theorem dX7_layAll_63 : decode cX7_layAll 63 = .ok (.getfield 245, 3) := by decide +kernel
theorem dX7_layAll_66 : decode cX7_layAll 66 = .ok (.ireturn, 1) := by decide +kernel
theorem dX7_most_0 : decode cX7_most 0 = .ok (.aload_n 0, 1) := by decide +kernel
theorem dX7_most_1 : decode cX7_most 1 = .ok (.iconst 0, 1) := by decide +kernel
theorem dX7_most_2 : decode cX7_most 2 = .ok (.putfield 68, 3) := by decide +kernel
theorem dX7_most_5 : decode cX7_most 5 = .ok (.aload_n 0, 1) := by decide +kernel
theorem dX7_most_6 : decode cX7_most 6 = .ok (.iload_n 1, 1) := by decide +kernel
theorem dX7_most_7 : decode cX7_most 7 = .ok (.invokevirtual 139, 3) := by decide +kernel
theorem dX7_most_10 : decode cX7_most 10 = .ok (.ifCond .eq 29, 3) := by decide +kernel
theorem dX7_most_13 : decode cX7_most 13 = .ok (.aload_n 0, 1) := by decide +kernel
theorem dX7_most_14 : decode cX7_most 14 = .ok (.iload_n 2, 1) := by decide +kernel
theorem dX7_most_15 : decode cX7_most 15 = .ok (.invokevirtual 172, 3) := by decide +kernel
theorem dX7_most_18 : decode cX7_most 18 = .ok (.ifCond .eq 21, 3) := by decide +kernel
theorem dX7_most_21 : decode cX7_most 21 = .ok (.iload_n 3, 1) := by decide +kernel
theorem dX7_most_22 : decode cX7_most 22 = .ok (.iconst 0, 1) := by decide +kernel
theorem dX7_most_23 : decode cX7_most 23 = .ok (.iconst 3, 1) := by decide +kernel
theorem dX7_most_24 : decode cX7_most 24 = .ok (.invokestatic 107, 3) := by decide +kernel
theorem dX7_most_27 : decode cX7_most 27 = .ok (.ifCond .eq 12, 3) := by decide +kernel
theorem dX7_most_30 : decode cX7_most 30 = .ok (.aload_n 0, 1) := by decide +kernel
theorem dX7_most_31 : decode cX7_most 31 = .ok (.iload_n 1, 1) := by decide +kernel
theorem dX7_most_32 : decode cX7_most 32 = .ok (.iload_n 2, 1) := by decide +kernel
theorem dX7_most_33 : decode cX7_most 33 = .ok (.invokevirtual 287, 3) := by decide +kernel
theorem dX7_most_36 : decode cX7_most 36 = .ok (.ifCond .ne 6, 3) := by decide +kernel
theorem dX7_most_39 : decode cX7_most 39 = .ok (.ldc 216, 2) := by decide +kernel
theorem dX7_most_41 : decode cX7_most 41 = .ok (.ireturn, 1) := by decide +kernel
theorem dX7_most_42 : decode cX7_most 42 = .ok (.iload_n 3, 1) := by decide +kernel
theorem dX7_most_43 : decode cX7_most 43 = .ok (.ifCond .ne 10, 3) := by decide +kernel
theorem dX7_most_46 : decode cX7_most 46 = .ok (.aload_n 0, 1) := by decide +kernel
theorem dX7_most_47 : decode cX7_most 47 = .ok (.getfield 248, 3) := by decide +kernel
theorem dX7_most_50 : decode cX7_most 50 = .ok (.goto 31, 3) := by decide +kernel
theorem dX7_most_53 : decode cX7_most 53 = .ok (.iload_n 3, 1) := by decide +kernel
theorem dX7_most_54 : decode cX7_most 54 = .ok (.iconst 1, 1) := by decide +kernel
theorem dX7_most_55 : decode cX7_most 55 = .ok (.if_icmp .ne 10, 3) := by decide +kernel
theorem dX7_most_58 : decode cX7_most 58 = .ok (.aload_n 0, 1) := by decide +kernel
theorem dX7_most_59 : decode cX7_most 59 = .ok (.getfield 254, 3) := by decide +kernel
theorem dX7_most_62 : decode cX7_most 62 = .ok (.goto 19, 3) := by decide +kernel
theorem dX7_most_65 : decode cX7_most 65 = .ok (.iload_n 3, 1) := by decide +kernel
theorem dX7_most_66 : decode cX7_most 66 = .ok (.iconst 2, 1) := by decide +kernel
theorem dX7_most_67 : decode cX7_most 67 = .ok (.if_icmp .ne 10, 3) := by decide +kernel
theorem dX7_most_70 : decode cX7_most 70 = .ok (.aload_n 0, 1) := by decide +kernel
theorem dX7_most_71 : decode cX7_most 71 = .ok (.getfield 251, 3) := by decide +kernel
theorem dX7_most_74 : decode cX7_most 74 = .ok (.goto 7, 3) := by decide +kernel
theorem dX7_most_77 : decode cX7_most 77 = .ok (.aload_n 0, 1) := by decide +kernel
theorem dX7_most_78 : decode cX7_most 78 = .ok (.getfield 257, 3) := by decide +kernel
theorem dX7_most_81 : decode cX7_most 81 = .ok (.ireturn, 1) := by decide +kernel
theorem dX7_net_0 : decode cX7_net 0 = .ok (.aload_n 0, 1) := by decide +kernel
theorem dX7_net_1 : decode cX7_net 1 = .ok (.iconst 0, 1) := by decide +kernel
theorem dX7_net_2 : decode cX7_net 2 = .ok (.putfield 68, 3) := by decide +kernel
theorem dX7_net_5 : decode cX7_net 5 = .ok (.aload_n 0, 1) := by decide +kernel
theorem dX7_net_6 : decode cX7_net 6 = .ok (.iload_n 1, 1) := by decide +kernel
theorem dX7_net_7 : decode cX7_net 7 = .ok (.invokevirtual 139, 3) := by decide +kernel
theorem dX7_net_10 : decode cX7_net 10 = .ok (.ifCond .eq 29, 3) := by decide +kernel
theorem dX7_net_13 : decode cX7_net 13 = .ok (.aload_n 0, 1) := by decide +kernel
theorem dX7_net_14 : decode cX7_net 14 = .ok (.iload_n 2, 1) := by decide +kernel
theorem dX7_net_15 : decode cX7_net 15 = .ok (.invokevirtual 172, 3) := by decide +kernel
theorem dX7_net_18 : decode cX7_net 18 = .ok (.ifCond .eq 21, 3) := by decide +kernel
theorem dX7_net_21 : decode cX7_net 21 = .ok (.iload_n 3, 1) := by decide +kernel
theorem dX7_net_22 : decode cX7_net 22 = .ok (.iconst 0, 1) := by decide +kernel
theorem dX7_net_23 : decode cX7_net 23 = .ok (.iconst 1, 1) := by decide +kernel
theorem dX7_net_24 : decode cX7_net 24 = .ok (.invokestatic 107, 3) := by decide +kernel
theorem dX7_net_27 : decode cX7_net 27 = .ok (.ifCond .eq 12, 3) := by decide +kernel
theorem dX7_net_30 : decode cX7_net 30 = .ok (.aload_n 0, 1) := by decide +kernel
theorem dX7_net_31 : decode cX7_net 31 = .ok (.iload_n 1, 1) := by decide +kernel
theorem dX7_net_32 : decode cX7_net 32 = .ok (.iload_n 2, 1) := by decide +kernel
theorem dX7_net_33 : decode cX7_net 33 = .ok (.invokevirtual 287, 3) := by decide +kernel
theorem dX7_net_36 : decode cX7_net 36 = .ok (.ifCond .ne 6, 3) := by decide +kernel
theorem dX7_net_39 : decode cX7_net 39 = .ok (.ldc 216, 2) := by decide +kernel
theorem dX7_net_41 : decode cX7_net 41 = .ok (.ireturn, 1) := by decide +kernel
theorem dX7_net_42 : decode cX7_net 42 = .ok (.iload_n 3, 1) := by decide +kernel
theorem dX7_net_43 : decode cX7_net 43 = .ok (.ifCond .ne 10, 3) := by decide +kernel
theorem dX7_net_46 : decode cX7_net 46 = .ok (.aload_n 0, 1) := by decide +kernel
theorem dX7_net_47 : decode cX7_net 47 = .ok (.getfield 260, 3) := by decide +kernel
theorem dX7_net_50 : decode cX7_net 50 = .ok (.goto 7, 3) := by decide +kernel
theorem dX7_net_53 : decode cX7_net 53 = .ok (.aload_n 0, 1) := by decide +kernel
theorem dX7_net_54 : decode cX7_net 54 = .ok (.getfield 263, 3) := by decide +kernel
theorem dX7_net_57 : decode cX7_net 57 = .ok (.ireturn, 1) := by decide +kernel
theorem dX7_ends_0 : decode cX7_ends 0 = .ok (.aload_n 0, 1) := by decide +kernel
theorem dX7_ends_1 : decode cX7_ends 1 = .ok (.iconst 0, 1) := by decide +kernel
theorem dX7_ends_2 : decode cX7_ends 2 = .ok (.putfield 68, 3) := by decide +kernel
theorem dX7_ends_5 : decode cX7_ends 5 = .ok (.aload_n 0, 1) := by decide +kernel
theorem dX7_ends_6 : decode cX7_ends 6 = .ok (.iload_n 1, 1) := by decide +kernel
theorem dX7_ends_7 : decode cX7_ends 7 = .ok (.invokevirtual 139, 3) := by decide +kernel
theorem dX7_ends_10 : decode cX7_ends 10 = .ok (.ifCond .eq 20, 3) := by decide +kernel
theorem dX7_ends_13 : decode cX7_ends 13 = .ok (.aload_n 0, 1) := by decide +kernel
theorem dX7_ends_14 : decode cX7_ends 14 = .ok (.iload_n 2, 1) := by decide +kernel
theorem dX7_ends_15 : decode cX7_ends 15 = .ok (.invokevirtual 149, 3) := by decide +kernel
theorem dX7_ends_18 : decode cX7_ends 18 = .ok (.ifCond .eq 12, 3) := by decide +kernel
theorem dX7_ends_21 : decode cX7_ends 21 = .ok (.iload_n 3, 1) := by decide +kernel
theorem dX7_ends_22 : decode cX7_ends 22 = .ok (.iconst 0, 1) := by decide +kernel
theorem dX7_ends_23 : decode cX7_ends 23 = .ok (.iconst 1, 1) := by decide +kernel
theorem dX7_ends_24 : decode cX7_ends 24 = .ok (.invokestatic 107, 3) := by decide +kernel
theorem dX7_ends_27 : decode cX7_ends 27 = .ok (.ifCond .ne 6, 3) := by decide +kernel
theorem dX7_ends_30 : decode cX7_ends 30 = .ok (.ldc 216, 2) := by decide +kernel
theorem dX7_ends_32 : decode cX7_ends 32 = .ok (.ireturn, 1) := by decide +kernel
theorem dX7_ends_33 : decode cX7_ends 33 = .ok (.aload_n 0, 1) := by decide +kernel
theorem dX7_ends_34 : decode cX7_ends 34 = .ok (.getfield 20, 3) := by decide +kernel
theorem dX7_ends_37 : decode cX7_ends 37 = .ok (.iload_n 2, 1) := by decide +kernel
theorem dX7_ends_38 : decode cX7_ends 38 = .ok (.iaload, 1) := by decide +kernel
theorem dX7_ends_39 : decode cX7_ends 39 = .ok (.istore 4, 2) := by decide +kernel
theorem dX7_ends_41 : decode cX7_ends 41 = .ok (.ldc 216, 2) := by decide +kernel
theorem dX7_ends_43 : decode cX7_ends 43 = .ok (.istore 5, 2) := by decide +kernel
theorem dX7_ends_45 : decode cX7_ends 45 = .ok (.ldc 216, 2) := by decide +kernel
theorem dX7_ends_47 : decode cX7_ends 47 = .ok (.istore 6, 2) := by decide +kernel
theorem dX7_ends_49 : decode cX7_ends 49 = .ok (.iload 4, 2) := by decide +kernel
theorem dX7_ends_51 : decode cX7_ends 51 = .ok (.istore 7, 2) := by decide +kernel
theorem dX7_ends_53 : decode cX7_ends 53 = .ok (.iload 7, 2) := by decide +kernel
theorem dX7_ends_55 : decode cX7_ends 55 = .ok (.aload_n 0, 1) := by decide +kernel
theorem dX7_ends_56 : decode cX7_ends 56 = .ok (.getfield 23, 3) := by decide +kernel
theorem dX7_ends_59 : decode cX7_ends 59 = .ok (.iload_n 2, 1) := by decide +kernel
theorem dX7_ends_60 : decode cX7_ends 60 = .ok (.iaload, 1) := by decide +kernel
theorem dX7_ends_61 : decode cX7_ends 61 = .ok (.if_icmp .gt 68, 3) := by decide +kernel
theorem dX7_ends_64 : decode cX7_ends 64 = .ok (.aload_n 0, 1) := by decide +kernel
theorem dX7_ends_65 : decode cX7_ends 65 = .ok (.getfield 20, 3) := by decide +kernel
theorem dX7_ends_68 : decode cX7_ends 68 = .ok (.iload_n 2, 1) := by decide +kernel
theorem dX7_ends_69 : decode cX7_ends 69 = .ok (.iload 7, 2) := by decide +kernel
theorem dX7_ends_71 : decode cX7_ends 71 = .ok (.iastore, 1) := by decide +kernel
theorem dX7_ends_72 : decode cX7_ends 72 = .ok (.aload_n 0, 1) := by decide +kernel
theorem dX7_ends_73 : decode cX7_ends 73 = .ok (.iload_n 1, 1) := by decide +kernel
theorem dX7_ends_74 : decode cX7_ends 74 = .ok (.aload_n 0, 1) := by decide +kernel
theorem dX7_ends_75 : decode cX7_ends 75 = .ok (.invokevirtual 236, 3) := by decide +kernel
theorem dX7_ends_78 : decode cX7_ends 78 = .ok (.invokevirtual 287, 3) := by decide +kernel
theorem dX7_ends_81 : decode cX7_ends 81 = .ok (.ifCond .ne 6, 3) := by decide +kernel
theorem dX7_ends_84 : decode cX7_ends 84 = .ok (.goto 39, 3) := by decide +kernel
theorem dX7_ends_87 : decode cX7_ends 87 = .ok (.iload 5, 2) := by decide +kernel
theorem dX7_ends_89 : decode cX7_ends 89 = .ok (.ldc 216, 2) := by decide +kernel
theorem dX7_ends_91 : decode cX7_ends 91 = .ok (.if_icmp .ne 10, 3) := by decide +kernel
theorem dX7_ends_94 : decode cX7_ends 94 = .ok (.aload_n 0, 1) := by decide +kernel
theorem dX7_ends_95 : decode cX7_ends 95 = .ok (.getfield 248, 3) := by decide +kernel
theorem dX7_ends_98 : decode cX7_ends 98 = .ok (.goto 12, 3) := by decide +kernel
theorem dX7_ends_101 : decode cX7_ends 101 = .ok (.iload 5, 2) := by decide +kernel
theorem dX7_ends_103 : decode cX7_ends 103 = .ok (.aload_n 0, 1) := by decide +kernel
theorem dX7_ends_104 : decode cX7_ends 104 = .ok (.getfield 248, 3) := by decide +kernel
theorem dX7_ends_107 : decode cX7_ends 107 = .ok (.invokestatic 160, 3) := by decide +kernel
theorem dX7_ends_110 : decode cX7_ends 110 = .ok (.istore 5, 2) := by decide +kernel
theorem dX7_ends_112 : decode cX7_ends 112 = .ok (.iload 6, 2) := by decide +kernel
theorem dX7_ends_114 : decode cX7_ends 114 = .ok (.aload_n 0, 1) := by decide +kernel
theorem dX7_ends_115 : decode cX7_ends 115 = .ok (.getfield 248, 3) := by decide +kernel
theorem dX7_ends_118 : decode cX7_ends 118 = .ok (.invokestatic 152, 3) := by decide +kernel
theorem dX7_ends_121 : decode cX7_ends 121 = .ok (.istore 6, 2) := by decide +kernel
theorem dX7_ends_123 : decode cX7_ends 123 = .ok (.iinc 7 1, 3) := by decide +kernel
theorem dX7_ends_126 : decode cX7_ends 126 = .ok (.goto (-73), 3) := by decide +kernel
theorem dX7_ends_129 : decode cX7_ends 129 = .ok (.aload_n 0, 1) := by decide +kernel
theorem dX7_ends_130 : decode cX7_ends 130 = .ok (.getfield 20, 3) := by decide +kernel
theorem dX7_ends_133 : decode cX7_ends 133 = .ok (.iload_n 2, 1) := by decide +kernel
theorem dX7_ends_134 : decode cX7_ends 134 = .ok (.iload 4, 2) := by decide +kernel
theorem dX7_ends_136 : decode cX7_ends 136 = .ok (.iastore, 1) := by decide +kernel
theorem dX7_ends_137 : decode cX7_ends 137 = .ok (.iload_n 3, 1) := by decide +kernel
theorem dX7_ends_138 : decode cX7_ends 138 = .ok (.ifCond .ne 8, 3) := by decide +kernel
theorem dX7_ends_141 : decode cX7_ends 141 = .ok (.iload 5, 2) := by decide +kernel
theorem dX7_ends_143 : decode cX7_ends 143 = .ok (.goto 5, 3) := by decide +kernel
theorem dX7_ends_146 : decode cX7_ends 146 = .ok (.iload 6, 2) := by decide +kernel
theorem dX7_ends_148 : decode cX7_ends 148 = .ok (.ireturn, 1) := by decide +kernel
theorem dX7_hangs_0 : decode cX7_hangs 0 = .ok (.aload_n 0, 1) := by decide +kernel
theorem dX7_hangs_1 : decode cX7_hangs 1 = .ok (.iconst 0, 1) := by decide +kernel
theorem dX7_hangs_2 : decode cX7_hangs 2 = .ok (.putfield 68, 3) := by decide +kernel
theorem dX7_hangs_5 : decode cX7_hangs 5 = .ok (.aload_n 0, 1) := by decide +kernel
theorem dX7_hangs_6 : decode cX7_hangs 6 = .ok (.iload_n 1, 1) := by decide +kernel
theorem dX7_hangs_7 : decode cX7_hangs 7 = .ok (.invokevirtual 139, 3) := by decide +kernel
theorem dX7_hangs_10 : decode cX7_hangs 10 = .ok (.ifCond .ne 5, 3) := by decide +kernel
theorem dX7_hangs_13 : decode cX7_hangs 13 = .ok (.iconst (-1), 1) := by decide +kernel
theorem dX7_hangs_14 : decode cX7_hangs 14 = .ok (.ireturn, 1) := by decide +kernel
theorem dX7_hangs_15 : decode cX7_hangs 15 = .ok (.iconst (-1), 1) := by decide +kernel
theorem dX7_hangs_16 : decode cX7_hangs 16 = .ok (.istore_n 2, 1) := by decide +kernel
theorem dX7_hangs_17 : decode cX7_hangs 17 = .ok (.iconst 0, 1) := by decide +kernel
theorem dX7_hangs_18 : decode cX7_hangs 18 = .ok (.istore_n 3, 1) := by decide +kernel
theorem dX7_hangs_19 : decode cX7_hangs 19 = .ok (.iconst 0, 1) := by decide +kernel
theorem dX7_hangs_20 : decode cX7_hangs 20 = .ok (.istore 4, 2) := by decide +kernel
theorem dX7_hangs_22 : decode cX7_hangs 22 = .ok (.iload 4, 2) := by decide +kernel
theorem dX7_hangs_24 : decode cX7_hangs 24 = .ok (.aload_n 0, 1) := by decide +kernel
theorem dX7_hangs_25 : decode cX7_hangs 25 = .ok (.getfield 146, 3) := by decide +kernel
theorem dX7_hangs_28 : decode cX7_hangs 28 = .ok (.if_icmp .ge 52, 3) := by decide +kernel
theorem dX7_hangs_31 : decode cX7_hangs 31 = .ok (.aload_n 0, 1) := by decide +kernel
theorem dX7_hangs_32 : decode cX7_hangs 32 = .ok (.iload_n 1, 1) := by decide +kernel
theorem dX7_hangs_33 : decode cX7_hangs 33 = .ok (.aload_n 0, 1) := by decide +kernel
theorem dX7_hangs_34 : decode cX7_hangs 34 = .ok (.invokevirtual 236, 3) := by decide +kernel
theorem dX7_hangs_37 : decode cX7_hangs 37 = .ok (.iconst 1, 1) := by decide +kernel
theorem dX7_hangs_38 : decode cX7_hangs 38 = .ok (.iload 4, 2) := by decide +kernel
theorem dX7_hangs_40 : decode cX7_hangs 40 = .ok (.ishl, 1) := by decide +kernel
theorem dX7_hangs_41 : decode cX7_hangs 41 = .ok (.iconst (-1), 1) := by decide +kernel
theorem dX7_hangs_42 : decode cX7_hangs 42 = .ok (.ixor, 1) := by decide +kernel
theorem dX7_hangs_43 : decode cX7_hangs 43 = .ok (.iand, 1) := by decide +kernel
theorem dX7_hangs_44 : decode cX7_hangs 44 = .ok (.invokevirtual 287, 3) := by decide +kernel
theorem dX7_hangs_47 : decode cX7_hangs 47 = .ok (.ifCond .eq 27, 3) := by decide +kernel
theorem dX7_hangs_50 : decode cX7_hangs 50 = .ok (.iload_n 2, 1) := by decide +kernel
theorem dX7_hangs_51 : decode cX7_hangs 51 = .ok (.iconst (-1), 1) := by decide +kernel
theorem dX7_hangs_52 : decode cX7_hangs 52 = .ok (.if_icmp .eq 14, 3) := by decide +kernel
theorem dX7_hangs_55 : decode cX7_hangs 55 = .ok (.aload_n 0, 1) := by decide +kernel
theorem dX7_hangs_56 : decode cX7_hangs 56 = .ok (.getfield 248, 3) := by decide +kernel
theorem dX7_hangs_59 : decode cX7_hangs 59 = .ok (.iload_n 3, 1) := by decide +kernel
theorem dX7_hangs_60 : decode cX7_hangs 60 = .ok (.if_icmp .lt 6, 3) := by decide +kernel
theorem dX7_hangs_63 : decode cX7_hangs 63 = .ok (.goto 11, 3) := by decide +kernel
theorem dX7_hangs_66 : decode cX7_hangs 66 = .ok (.iload 4, 2) := by decide +kernel
theorem dX7_hangs_68 : decode cX7_hangs 68 = .ok (.istore_n 2, 1) := by decide +kernel
theorem dX7_hangs_69 : decode cX7_hangs 69 = .ok (.aload_n 0, 1) := by decide +kernel
theorem dX7_hangs_70 : decode cX7_hangs 70 = .ok (.getfield 248, 3) := by decide +kernel
theorem dX7_hangs_73 : decode cX7_hangs 73 = .ok (.istore_n 3, 1) := by decide +kernel
theorem dX7_hangs_74 : decode cX7_hangs 74 = .ok (.iinc 4 1, 3) := by decide +kernel
theorem dX7_hangs_77 : decode cX7_hangs 77 = .ok (.goto (-55), 3) := by decide +kernel
theorem dX7_hangs_80 : decode cX7_hangs 80 = .ok (.iload_n 2, 1) := by decide +kernel
theorem dX7_hangs_81 : decode cX7_hangs 81 = .ok (.ireturn, 1) := by decide +kernel
theorem dX7_told_0 : decode cX7_told 0 = .ok (.aload_n 0, 1) := by decide +kernel
theorem dX7_told_1 : decode cX7_told 1 = .ok (.iconst 0, 1) := by decide +kernel
theorem dX7_told_2 : decode cX7_told 2 = .ok (.putfield 68, 3) := by decide +kernel
theorem dX7_told_5 : decode cX7_told 5 = .ok (.aload_n 0, 1) := by decide +kernel
theorem dX7_told_6 : decode cX7_told 6 = .ok (.iload_n 1, 1) := by decide +kernel
theorem dX7_told_7 : decode cX7_told 7 = .ok (.invokevirtual 139, 3) := by decide +kernel
theorem dX7_told_10 : decode cX7_told 10 = .ok (.ifCond .eq 33, 3) := by decide +kernel
theorem dX7_told_13 : decode cX7_told 13 = .ok (.aload_n 0, 1) := by decide +kernel
theorem dX7_told_14 : decode cX7_told 14 = .ok (.iload_n 2, 1) := by decide +kernel
theorem dX7_told_15 : decode cX7_told 15 = .ok (.invokevirtual 149, 3) := by decide +kernel
theorem dX7_told_18 : decode cX7_told 18 = .ok (.ifCond .eq 25, 3) := by decide +kernel
theorem dX7_told_21 : decode cX7_told 21 = .ok (.iload_n 3, 1) := by decide +kernel
theorem dX7_told_22 : decode cX7_told 22 = .ok (.iconst 0, 1) := by decide +kernel
theorem dX7_told_23 : decode cX7_told 23 = .ok (.iconst 5, 1) := by decide +kernel
theorem dX7_told_24 : decode cX7_told 24 = .ok (.invokestatic 107, 3) := by decide +kernel
theorem dX7_told_27 : decode cX7_told 27 = .ok (.ifCond .eq 16, 3) := by decide +kernel
theorem dX7_told_30 : decode cX7_told 30 = .ok (.aload_n 0, 1) := by decide +kernel
theorem dX7_told_31 : decode cX7_told 31 = .ok (.getfield 32, 3) := by decide +kernel
theorem dX7_told_34 : decode cX7_told 34 = .ok (.iload_n 2, 1) := by decide +kernel
theorem dX7_told_35 : decode cX7_told 35 = .ok (.iaload, 1) := by decide +kernel
theorem dX7_told_36 : decode cX7_told 36 = .ok (.iload_n 3, 1) := by decide +kernel
theorem dX7_told_37 : decode cX7_told 37 = .ok (.invokestatic 157, 3) := by decide +kernel
theorem dX7_told_40 : decode cX7_told 40 = .ok (.ifCond .ne 6, 3) := by decide +kernel
theorem dX7_told_43 : decode cX7_told 43 = .ok (.ldc 216, 2) := by decide +kernel
theorem dX7_told_45 : decode cX7_told 45 = .ok (.ireturn, 1) := by decide +kernel
theorem dX7_told_46 : decode cX7_told 46 = .ok (.aload_n 0, 1) := by decide +kernel
theorem dX7_told_47 : decode cX7_told 47 = .ok (.getfield 32, 3) := by decide +kernel
theorem dX7_told_50 : decode cX7_told 50 = .ok (.iload_n 2, 1) := by decide +kernel
theorem dX7_told_51 : decode cX7_told 51 = .ok (.iaload, 1) := by decide +kernel
theorem dX7_told_52 : decode cX7_told 52 = .ok (.istore 4, 2) := by decide +kernel
theorem dX7_told_54 : decode cX7_told 54 = .ok (.aload_n 0, 1) := by decide +kernel
theorem dX7_told_55 : decode cX7_told 55 = .ok (.getfield 32, 3) := by decide +kernel
theorem dX7_told_58 : decode cX7_told 58 = .ok (.iload_n 2, 1) := by decide +kernel
theorem dX7_told_59 : decode cX7_told 59 = .ok (.iconst 1, 1) := by decide +kernel
theorem dX7_told_60 : decode cX7_told 60 = .ok (.iload_n 3, 1) := by decide +kernel
theorem dX7_told_61 : decode cX7_told 61 = .ok (.ishl, 1) := by decide +kernel
theorem dX7_told_62 : decode cX7_told 62 = .ok (.iastore, 1) := by decide +kernel
theorem dX7_told_63 : decode cX7_told 63 = .ok (.aload_n 0, 1) := by decide +kernel
theorem dX7_told_64 : decode cX7_told 64 = .ok (.iload_n 1, 1) := by decide +kernel
theorem dX7_told_65 : decode cX7_told 65 = .ok (.aload_n 0, 1) := by decide +kernel
theorem dX7_told_66 : decode cX7_told 66 = .ok (.invokevirtual 236, 3) := by decide +kernel
theorem dX7_told_69 : decode cX7_told 69 = .ok (.invokevirtual 287, 3) := by decide +kernel
theorem dX7_told_72 : decode cX7_told 72 = .ok (.istore 5, 2) := by decide +kernel
theorem dX7_told_74 : decode cX7_told 74 = .ok (.aload_n 0, 1) := by decide +kernel
theorem dX7_told_75 : decode cX7_told 75 = .ok (.getfield 32, 3) := by decide +kernel
theorem dX7_told_78 : decode cX7_told 78 = .ok (.iload_n 2, 1) := by decide +kernel
theorem dX7_told_79 : decode cX7_told 79 = .ok (.iload 4, 2) := by decide +kernel
theorem dX7_told_81 : decode cX7_told 81 = .ok (.iastore, 1) := by decide +kernel
theorem dX7_told_82 : decode cX7_told 82 = .ok (.iload 5, 2) := by decide +kernel
theorem dX7_told_84 : decode cX7_told 84 = .ok (.ifCond .eq 10, 3) := by decide +kernel
theorem dX7_told_87 : decode cX7_told 87 = .ok (.aload_n 0, 1) := by decide +kernel
theorem dX7_told_88 : decode cX7_told 88 = .ok (.getfield 248, 3) := by decide +kernel
theorem dX7_told_91 : decode cX7_told 91 = .ok (.goto 5, 3) := by decide +kernel
theorem dX7_told_94 : decode cX7_told 94 = .ok (.ldc 216, 2) := by decide +kernel
theorem dX7_told_96 : decode cX7_told 96 = .ok (.ireturn, 1) := by decide +kernel
theorem dX7_layers_0 : decode cX7_layers 0 = .ok (.aload_n 0, 1) := by decide +kernel
theorem dX7_layers_1 : decode cX7_layers 1 = .ok (.iconst 0, 1) := by decide +kernel
theorem dX7_layers_2 : decode cX7_layers 2 = .ok (.putfield 68, 3) := by decide +kernel
theorem dX7_layers_5 : decode cX7_layers 5 = .ok (.iload_n 1, 1) := by decide +kernel
theorem dX7_layers_6 : decode cX7_layers 6 = .ok (.iconst 1, 1) := by decide +kernel
theorem dX7_layers_7 : decode cX7_layers 7 = .ok (.if_icmp .lt 13, 3) := by decide +kernel
theorem dX7_layers_10 : decode cX7_layers 10 = .ok (.iload_n 1, 1) := by decide +kernel
theorem dX7_layers_11 : decode cX7_layers 11 = .ok (.iconst 1, 1) := by decide +kernel
theorem dX7_layers_12 : decode cX7_layers 12 = .ok (.aload_n 0, 1) := by decide +kernel
theorem dX7_layers_13 : decode cX7_layers 13 = .ok (.getfield 120, 3) := by decide +kernel
theorem dX7_layers_16 : decode cX7_layers 16 = .ok (.ishl, 1) := by decide +kernel
theorem dX7_layers_17 : decode cX7_layers 17 = .ok (.if_icmp .lt 6, 3) := by decide +kernel
theorem dX7_layers_20 : decode cX7_layers 20 = .ok (.ldc 216, 2) := by decide +kernel
theorem dX7_layers_22 : decode cX7_layers 22 = .ok (.ireturn, 1) := by decide +kernel
theorem dX7_layers_23 : decode cX7_layers 23 = .ok (.iload_n 2, 1) := by decide +kernel
theorem dX7_layers_24 : decode cX7_layers 24 = .ok (.ifCond .eq 137, 3) := by decide +kernel
theorem dX7_layers_27 : decode cX7_layers 27 = .ok (.iconst 0, 1) := by decide +kernel
theorem dX7_layers_28 : decode cX7_layers 28 = .ok (.istore_n 3, 1) := by decide +kernel
theorem dX7_layers_29 : decode cX7_layers 29 = .ok (.iconst 0, 1) := by decide +kernel
theorem dX7_layers_30 : decode cX7_layers 30 = .ok (.istore 4, 2) := by decide +kernel
theorem dX7_layers_32 : decode cX7_layers 32 = .ok (.iload 4, 2) := by decide +kernel
theorem dX7_layers_34 : decode cX7_layers 34 = .ok (.aload_n 0, 1) := by decide +kernel
theorem dX7_layers_35 : decode cX7_layers 35 = .ok (.getfield 120, 3) := by decide +kernel
theorem dX7_layers_38 : decode cX7_layers 38 = .ok (.if_icmp .ge 38, 3) := by decide +kernel
theorem dX7_layers_41 : decode cX7_layers 41 = .ok (.iload_n 3, 1) := by decide +kernel
theorem dX7_layers_42 : decode cX7_layers 42 = .ok (.ifCond .ne 22, 3) := by decide +kernel
theorem dX7_layers_45 : decode cX7_layers 45 = .ok (.iload_n 1, 1) := by decide +kernel
theorem dX7_layers_46 : decode cX7_layers 46 = .ok (.iload 4, 2) := by decide +kernel
theorem dX7_layers_48 : decode cX7_layers 48 = .ok (.invokestatic 157, 3) := by decide +kernel
theorem dX7_layers_51 : decode cX7_layers 51 = .ok (.ifCond .eq 17, 3) := by decide +kernel
theorem dX7_layers_54 : decode cX7_layers 54 = .ok (.aload_n 0, 1) := by decide +kernel
theorem dX7_layers_55 : decode cX7_layers 55 = .ok (.iload 4, 2) := by decide +kernel
theorem dX7_layers_57 : decode cX7_layers 57 = .ok (.iconst 3, 1) := by decide +kernel
theorem dX7_layers_58 : decode cX7_layers 58 = .ok (.invokevirtual 142, 3) := by decide +kernel
theorem dX7_layers_61 : decode cX7_layers 61 = .ok (.ifCond .ne 7, 3) := by decide +kernel
theorem dX7_layers_64 : decode cX7_layers 64 = .ok (.iconst 1, 1) := by decide +kernel
theorem dX7_layers_65 : decode cX7_layers 65 = .ok (.goto 4, 3) := by decide +kernel
theorem dX7_layers_68 : decode cX7_layers 68 = .ok (.iconst 0, 1) := by decide +kernel
theorem dX7_layers_69 : decode cX7_layers 69 = .ok (.istore_n 3, 1) := by decide +kernel
theorem dX7_layers_70 : decode cX7_layers 70 = .ok (.iinc 4 1, 3) := by decide +kernel
theorem dX7_layers_73 : decode cX7_layers 73 = .ok (.goto (-41), 3) := by decide +kernel
theorem dX7_layers_76 : decode cX7_layers 76 = .ok (.aload_n 0, 1) := by decide +kernel
theorem dX7_layers_77 : decode cX7_layers 77 = .ok (.getfield 146, 3) := by decide +kernel
theorem dX7_layers_80 : decode cX7_layers 80 = .ok (.bipush 8, 2) := by decide +kernel
theorem dX7_layers_82 : decode cX7_layers 82 = .ok (.if_icmp .le 10, 3) := by decide +kernel
theorem dX7_layers_85 : decode cX7_layers 85 = .ok (.iload_n 3, 1) := by decide +kernel
theorem dX7_layers_86 : decode cX7_layers 86 = .ok (.ifCond .ne 6, 3) := by decide +kernel
theorem dX7_layers_89 : decode cX7_layers 89 = .ok (.ldc 216, 2) := by decide +kernel
theorem dX7_layers_91 : decode cX7_layers 91 = .ok (.ireturn, 1) := by decide +kernel
theorem dX7_layers_92 : decode cX7_layers 92 = .ok (.aload_n 0, 1) := by decide +kernel
theorem dX7_layers_93 : decode cX7_layers 93 = .ok (.iload_n 1, 1) := by decide +kernel
theorem dX7_layers_94 : decode cX7_layers 94 = .ok (.putfield 230, 3) := by decide +kernel
theorem dX7_layers_97 : decode cX7_layers 97 = .ok (.aload_n 0, 1) := by decide +kernel
theorem dX7_layers_98 : decode cX7_layers 98 = .ok (.iconst 1, 1) := by decide +kernel
theorem dX7_layers_99 : decode cX7_layers 99 = .ok (.putfield 226, 3) := by decide +kernel
theorem dX7_layers_102 : decode cX7_layers 102 = .ok (.aload_n 0, 1) := by decide +kernel
theorem dX7_layers_103 : decode cX7_layers 103 = .ok (.aload_n 0, 1) := by decide +kernel
theorem dX7_layers_104 : decode cX7_layers 104 = .ok (.invokevirtual 236, 3) := by decide +kernel
theorem dX7_layers_107 : decode cX7_layers 107 = .ok (.putfield 269, 3) := by decide +kernel
theorem dX7_layers_110 : decode cX7_layers 110 = .ok (.aload_n 0, 1) := by decide +kernel
theorem dX7_layers_111 : decode cX7_layers 111 = .ok (.iconst 0, 1) := by decide +kernel
theorem dX7_layers_112 : decode cX7_layers 112 = .ok (.putfield 245, 3) := by decide +kernel
theorem dX7_layers_115 : decode cX7_layers 115 = .ok (.aload_n 0, 1) := by decide +kernel
theorem dX7_layers_116 : decode cX7_layers 116 = .ok (.iconst 0, 1) := by decide +kernel
theorem dX7_layers_117 : decode cX7_layers 117 = .ok (.putfield 184, 3) := by decide +kernel
theorem dX7_layers_120 : decode cX7_layers 120 = .ok (.aload_n 0, 1) := by decide +kernel
theorem dX7_layers_121 : decode cX7_layers 121 = .ok (.invokevirtual 284, 3) := by decide +kernel
theorem dX7_layers_124 : decode cX7_layers 124 = .ok (.iload_n 3, 1) := by decide +kernel
theorem dX7_layers_125 : decode cX7_layers 125 = .ok (.ifCond .eq 14, 3) := by decide +kernel
theorem dX7_layers_128 : decode cX7_layers 128 = .ok (.aload_n 0, 1) := by decide +kernel
theorem dX7_layers_129 : decode cX7_layers 129 = .ok (.aload_n 0, 1) := by decide +kernel
theorem dX7_layers_130 : decode cX7_layers 130 = .ok (.invokevirtual 236, 3) := by decide +kernel
theorem dX7_layers_133 : decode cX7_layers 133 = .ok (.invokevirtual 278, 3) := by decide +kernel
theorem dX7_layers_136 : decode cX7_layers 136 = .ok (.goto 8, 3) := by decide +kernel
theorem dX7_layers_139 : decode cX7_layers 139 = .ok (.aload_n 0, 1) := by decide +kernel
theorem dX7_layers_140 : decode cX7_layers 140 = .ok (.iconst 0, 1) := by decide +kernel
theorem dX7_layers_141 : decode cX7_layers 141 = .ok (.invokevirtual 272, 3) := by decide +kernel
theorem dX7_layers_144 : decode cX7_layers 144 = .ok (.aload_n 0, 1) := by decide +kernel
theorem dX7_layers_145 : decode cX7_layers 145 = .ok (.getfield 245, 3) := by decide +kernel
theorem dX7_layers_148 : decode cX7_layers 148 = .ok (.ifCond .eq 10, 3) := by decide +kernel
theorem dX7_layers_151 : decode cX7_layers 151 = .ok (.aload_n 0, 1) := by decide +kernel
theorem dX7_layers_152 : decode cX7_layers 152 = .ok (.getfield 248, 3) := by decide +kernel
theorem dX7_layers_155 : decode cX7_layers 155 = .ok (.goto 5, 3) := by decide +kernel
theorem dX7_layers_158 : decode cX7_layers 158 = .ok (.ldc 216, 2) := by decide +kernel
theorem dX7_layers_160 : decode cX7_layers 160 = .ok (.ireturn, 1) := by decide +kernel
theorem dX7_layers_161 : decode cX7_layers 161 = .ok (.iconst 0, 1) := by decide +kernel
theorem dX7_layers_162 : decode cX7_layers 162 = .ok (.istore_n 3, 1) := by decide +kernel
theorem dX7_layers_163 : decode cX7_layers 163 = .ok (.iconst 0, 1) := by decide +kernel
theorem dX7_layers_164 : decode cX7_layers 164 = .ok (.istore 4, 2) := by decide +kernel
theorem dX7_layers_166 : decode cX7_layers 166 = .ok (.iload 4, 2) := by decide +kernel
theorem dX7_layers_168 : decode cX7_layers 168 = .ok (.aload_n 0, 1) := by decide +kernel
theorem dX7_layers_169 : decode cX7_layers 169 = .ok (.getfield 120, 3) := by decide +kernel
theorem dX7_layers_172 : decode cX7_layers 172 = .ok (.if_icmp .ge 44, 3) := by decide +kernel
theorem dX7_layers_175 : decode cX7_layers 175 = .ok (.iload_n 1, 1) := by decide +kernel
theorem dX7_layers_176 : decode cX7_layers 176 = .ok (.iload 4, 2) := by decide +kernel
theorem dX7_layers_178 : decode cX7_layers 178 = .ok (.invokestatic 157, 3) := by decide +kernel
theorem dX7_layers_181 : decode cX7_layers 181 = .ok (.ifCond .ne 6, 3) := by decide +kernel
theorem dX7_layers_184 : decode cX7_layers 184 = .ok (.goto 26, 3) := by decide +kernel
theorem dX7_layers_187 : decode cX7_layers 187 = .ok (.aload_n 0, 1) := by decide +kernel
theorem dX7_layers_188 : decode cX7_layers 188 = .ok (.iload 4, 2) := by decide +kernel
theorem dX7_layers_190 : decode cX7_layers 190 = .ok (.aload_n 0, 1) := by decide +kernel
theorem dX7_layers_191 : decode cX7_layers 191 = .ok (.invokevirtual 236, 3) := by decide +kernel
theorem dX7_layers_194 : decode cX7_layers 194 = .ok (.invokevirtual 287, 3) := by decide +kernel
theorem dX7_layers_197 : decode cX7_layers 197 = .ok (.ifCond .ne 6, 3) := by decide +kernel
theorem dX7_layers_200 : decode cX7_layers 200 = .ok (.ldc 216, 2) := by decide +kernel
theorem dX7_layers_202 : decode cX7_layers 202 = .ok (.ireturn, 1) := by decide +kernel
theorem dX7_layers_203 : decode cX7_layers 203 = .ok (.iload_n 3, 1) := by decide +kernel
theorem dX7_layers_204 : decode cX7_layers 204 = .ok (.aload_n 0, 1) := by decide +kernel
theorem dX7_layers_205 : decode cX7_layers 205 = .ok (.getfield 248, 3) := by decide +kernel
theorem dX7_layers_208 : decode cX7_layers 208 = .ok (.iadd, 1) := by decide +kernel
theorem dX7_layers_209 : decode cX7_layers 209 = .ok (.istore_n 3, 1) := by decide +kernel
theorem dX7_layers_210 : decode cX7_layers 210 = .ok (.iinc 4 1, 3) := by decide +kernel
theorem dX7_layers_213 : decode cX7_layers 213 = .ok (.goto (-47), 3) := by decide +kernel
theorem dX7_layers_216 : decode cX7_layers 216 = .ok (.iload_n 3, 1) := by decide +kernel
theorem dX7_layers_217 : decode cX7_layers 217 = .ok (.ireturn, 1) := by decide +kernel
theorem dX7_isTurn_0 : decode cX7_isTurn 0 = .ok (.iload_n 1, 1) := by decide +kernel
theorem dX7_isTurn_1 : decode cX7_isTurn 1 = .ok (.iconst 1, 1) := by decide +kernel
theorem dX7_isTurn_2 : decode cX7_isTurn 2 = .ok (.if_icmp .ne 5, 3) := by decide +kernel
theorem dX7_isTurn_5 : decode cX7_isTurn 5 = .ok (.iconst 1, 1) := by decide +kernel
theorem dX7_isTurn_6 : decode cX7_isTurn 6 = .ok (.ireturn, 1) := by decide +kernel
theorem dX7_isTurn_7 : decode cX7_isTurn 7 = .ok (.iconst 0, 1) := by decide +kernel
theorem dX7_isTurn_8 : decode cX7_isTurn 8 = .ok (.istore_n 2, 1) := by decide +kernel
theorem dX7_isTurn_9 : decode cX7_isTurn 9 = .ok (.iload_n 2, 1) := by decide +kernel
theorem dX7_isTurn_10 : decode cX7_isTurn 10 = .ok (.aload_n 0, 1) := by decide +kernel
theorem dX7_isTurn_11 : decode cX7_isTurn 11 = .ok (.getfield 146, 3) := by decide +kernel
theorem dX7_isTurn_14 : decode cX7_isTurn 14 = .ok (.if_icmp .ge 46, 3) := by decide +kernel
theorem dX7_isTurn_17 : decode cX7_isTurn 17 = .ok (.iconst 0, 1) := by decide +kernel
theorem dX7_isTurn_18 : decode cX7_isTurn 18 = .ok (.istore_n 3, 1) := by decide +kernel
theorem dX7_isTurn_19 : decode cX7_isTurn 19 = .ok (.iload_n 3, 1) := by decide +kernel
theorem dX7_isTurn_20 : decode cX7_isTurn 20 = .ok (.aload_n 0, 1) := by decide +kernel
theorem dX7_isTurn_21 : decode cX7_isTurn 21 = .ok (.getfield 146, 3) := by decide +kernel
theorem dX7_isTurn_24 : decode cX7_isTurn 24 = .ok (.if_icmp .ge 30, 3) := by decide +kernel
theorem dX7_isTurn_27 : decode cX7_isTurn 27 = .ok (.aload_n 0, 1) := by decide +kernel
theorem dX7_isTurn_28 : decode cX7_isTurn 28 = .ok (.getfield 20, 3) := by decide +kernel
theorem dX7_isTurn_31 : decode cX7_isTurn 31 = .ok (.iload_n 2, 1) := by decide +kernel
theorem dX7_isTurn_32 : decode cX7_isTurn 32 = .ok (.iaload, 1) := by decide +kernel
theorem dX7_isTurn_33 : decode cX7_isTurn 33 = .ok (.aload_n 0, 1) := by decide +kernel
theorem dX7_isTurn_34 : decode cX7_isTurn 34 = .ok (.getfield 20, 3) := by decide +kernel
theorem dX7_isTurn_37 : decode cX7_isTurn 37 = .ok (.iload_n 3, 1) := by decide +kernel
theorem dX7_isTurn_38 : decode cX7_isTurn 38 = .ok (.iaload, 1) := by decide +kernel
theorem dX7_isTurn_39 : decode cX7_isTurn 39 = .ok (.isub, 1) := by decide +kernel
theorem dX7_isTurn_40 : decode cX7_isTurn 40 = .ok (.iload_n 1, 1) := by decide +kernel
theorem dX7_isTurn_41 : decode cX7_isTurn 41 = .ok (.iconst 1, 1) := by decide +kernel
theorem dX7_isTurn_42 : decode cX7_isTurn 42 = .ok (.isub, 1) := by decide +kernel
theorem dX7_isTurn_43 : decode cX7_isTurn 43 = .ok (.if_icmp .ne 5, 3) := by decide +kernel
theorem dX7_isTurn_46 : decode cX7_isTurn 46 = .ok (.iconst 1, 1) := by decide +kernel
theorem dX7_isTurn_47 : decode cX7_isTurn 47 = .ok (.ireturn, 1) := by decide +kernel
theorem dX7_isTurn_48 : decode cX7_isTurn 48 = .ok (.iinc 3 1, 3) := by decide +kernel
theorem dX7_isTurn_51 : decode cX7_isTurn 51 = .ok (.goto (-32), 3) := by decide +kernel
theorem dX7_isTurn_54 : decode cX7_isTurn 54 = .ok (.iinc 2 1, 3) := by decide +kernel
theorem dX7_isTurn_57 : decode cX7_isTurn 57 = .ok (.goto (-48), 3) := by decide +kernel
theorem dX7_isTurn_60 : decode cX7_isTurn 60 = .ok (.iconst 0, 1) := by decide +kernel
theorem dX7_isTurn_61 : decode cX7_isTurn 61 = .ok (.ireturn, 1) := by decide +kernel
theorem dX7_nearest_0 : decode cX7_nearest 0 = .ok (.aload_n 0, 1) := by decide +kernel
theorem dX7_nearest_1 : decode cX7_nearest 1 = .ok (.iconst 0, 1) := by decide +kernel
theorem dX7_nearest_2 : decode cX7_nearest 2 = .ok (.putfield 68, 3) := by decide +kernel
theorem dX7_nearest_5 : decode cX7_nearest 5 = .ok (.aload_n 0, 1) := by decide +kernel
theorem dX7_nearest_6 : decode cX7_nearest 6 = .ok (.iload_n 1, 1) := by decide +kernel
theorem dX7_nearest_7 : decode cX7_nearest 7 = .ok (.invokevirtual 139, 3) := by decide +kernel
theorem dX7_nearest_10 : decode cX7_nearest 10 = .ok (.ifCond .eq 12, 3) := by decide +kernel
theorem dX7_nearest_13 : decode cX7_nearest 13 = .ok (.iload_n 2, 1) := by decide +kernel
theorem dX7_nearest_14 : decode cX7_nearest 14 = .ok (.iconst 0, 1) := by decide +kernel
theorem dX7_nearest_15 : decode cX7_nearest 15 = .ok (.iconst 1, 1) := by decide +kernel
theorem dX7_nearest_16 : decode cX7_nearest 16 = .ok (.invokestatic 107, 3) := by decide +kernel
theorem dX7_nearest_19 : decode cX7_nearest 19 = .ok (.ifCond .ne 6, 3) := by decide +kernel
theorem dX7_nearest_22 : decode cX7_nearest 22 = .ok (.ldc 216, 2) := by decide +kernel
theorem dX7_nearest_24 : decode cX7_nearest 24 = .ok (.ireturn, 1) := by decide +kernel
theorem dX7_nearest_25 : decode cX7_nearest 25 = .ok (.aload_n 0, 1) := by decide +kernel
theorem dX7_nearest_26 : decode cX7_nearest 26 = .ok (.iload_n 1, 1) := by decide +kernel
theorem dX7_nearest_27 : decode cX7_nearest 27 = .ok (.iconst 0, 1) := by decide +kernel
theorem dX7_nearest_28 : decode cX7_nearest 28 = .ok (.invokevirtual 142, 3) := by decide +kernel
theorem dX7_nearest_31 : decode cX7_nearest 31 = .ok (.istore_n 3, 1) := by decide +kernel
theorem dX7_nearest_32 : decode cX7_nearest 32 = .ok (.ldc 216, 2) := by decide +kernel
theorem dX7_nearest_34 : decode cX7_nearest 34 = .ok (.istore 4, 2) := by decide +kernel
theorem dX7_nearest_36 : decode cX7_nearest 36 = .ok (.iconst 0, 1) := by decide +kernel
theorem dX7_nearest_37 : decode cX7_nearest 37 = .ok (.istore 5, 2) := by decide +kernel
theorem dX7_nearest_39 : decode cX7_nearest 39 = .ok (.iconst 1, 1) := by decide +kernel
theorem dX7_nearest_40 : decode cX7_nearest 40 = .ok (.istore 6, 2) := by decide +kernel
theorem dX7_nearest_42 : decode cX7_nearest 42 = .ok (.iload 6, 2) := by decide +kernel
theorem dX7_nearest_44 : decode cX7_nearest 44 = .ok (.bipush 99, 2) := by decide +kernel
theorem dX7_nearest_46 : decode cX7_nearest 46 = .ok (.if_icmp .gt 83, 3) := by decide +kernel
theorem dX7_nearest_49 : decode cX7_nearest 49 = .ok (.aload_n 0, 1) := by decide +kernel
theorem dX7_nearest_50 : decode cX7_nearest 50 = .ok (.iload 6, 2) := by decide +kernel
theorem dX7_nearest_52 : decode cX7_nearest 52 = .ok (.invokevirtual 290, 3) := by decide +kernel
theorem dX7_nearest_55 : decode cX7_nearest 55 = .ok (.ifCond .ne 6, 3) := by decide +kernel
theorem dX7_nearest_58 : decode cX7_nearest 58 = .ok (.goto 65, 3) := by decide +kernel
theorem dX7_nearest_61 : decode cX7_nearest 61 = .ok (.aload_n 0, 1) := by decide +kernel
theorem dX7_nearest_62 : decode cX7_nearest 62 = .ok (.getfield 13, 3) := by decide +kernel
theorem dX7_nearest_65 : decode cX7_nearest 65 = .ok (.bipush 10, 2) := by decide +kernel
theorem dX7_nearest_67 : decode cX7_nearest 67 = .ok (.iload_n 1, 1) := by decide +kernel
theorem dX7_nearest_68 : decode cX7_nearest 68 = .ok (.imul, 1) := by decide +kernel
theorem dX7_nearest_69 : decode cX7_nearest 69 = .ok (.iload 6, 2) := by decide +kernel
theorem dX7_nearest_71 : decode cX7_nearest 71 = .ok (.iastore, 1) := by decide +kernel
theorem dX7_nearest_72 : decode cX7_nearest 72 = .ok (.aload_n 0, 1) := by decide +kernel
theorem dX7_nearest_73 : decode cX7_nearest 73 = .ok (.iload_n 1, 1) := by decide +kernel
theorem dX7_nearest_74 : decode cX7_nearest 74 = .ok (.aload_n 0, 1) := by decide +kernel
theorem dX7_nearest_75 : decode cX7_nearest 75 = .ok (.invokevirtual 236, 3) := by decide +kernel
theorem dX7_nearest_78 : decode cX7_nearest 78 = .ok (.invokevirtual 287, 3) := by decide +kernel
theorem dX7_nearest_81 : decode cX7_nearest 81 = .ok (.ifCond .eq 42, 3) := by decide +kernel
theorem dX7_nearest_84 : decode cX7_nearest 84 = .ok (.iload 4, 2) := by decide +kernel
theorem dX7_nearest_86 : decode cX7_nearest 86 = .ok (.ldc 216, 2) := by decide +kernel
theorem dX7_nearest_88 : decode cX7_nearest 88 = .ok (.if_icmp .eq 20, 3) := by decide +kernel
theorem dX7_nearest_91 : decode cX7_nearest 91 = .ok (.aload_n 0, 1) := by decide +kernel
theorem dX7_nearest_92 : decode cX7_nearest 92 = .ok (.getfield 248, 3) := by decide +kernel
theorem dX7_nearest_95 : decode cX7_nearest 95 = .ok (.aload_n 0, 1) := by decide +kernel
theorem dX7_nearest_96 : decode cX7_nearest 96 = .ok (.getfield 254, 3) := by decide +kernel
theorem dX7_nearest_99 : decode cX7_nearest 99 = .ok (.isub, 1) := by decide +kernel
theorem dX7_nearest_100 : decode cX7_nearest 100 = .ok (.iload 5, 2) := by decide +kernel
theorem dX7_nearest_102 : decode cX7_nearest 102 = .ok (.if_icmp .lt 6, 3) := by decide +kernel
theorem dX7_nearest_105 : decode cX7_nearest 105 = .ok (.goto 18, 3) := by decide +kernel
theorem dX7_nearest_108 : decode cX7_nearest 108 = .ok (.iload 6, 2) := by decide +kernel
theorem dX7_nearest_110 : decode cX7_nearest 110 = .ok (.istore 4, 2) := by decide +kernel
theorem dX7_nearest_112 : decode cX7_nearest 112 = .ok (.aload_n 0, 1) := by decide +kernel
theorem dX7_nearest_113 : decode cX7_nearest 113 = .ok (.getfield 248, 3) := by decide +kernel
theorem dX7_nearest_116 : decode cX7_nearest 116 = .ok (.aload_n 0, 1) := by decide +kernel
theorem dX7_nearest_117 : decode cX7_nearest 117 = .ok (.getfield 254, 3) := by decide +kernel
theorem dX7_nearest_120 : decode cX7_nearest 120 = .ok (.isub, 1) := by decide +kernel
theorem dX7_nearest_121 : decode cX7_nearest 121 = .ok (.istore 5, 2) := by decide +kernel
theorem dX7_nearest_123 : decode cX7_nearest 123 = .ok (.iinc 6 1, 3) := by decide +kernel
theorem dX7_nearest_126 : decode cX7_nearest 126 = .ok (.goto (-84), 3) := by decide +kernel
theorem dX7_nearest_129 : decode cX7_nearest 129 = .ok (.aload_n 0, 1) := by decide +kernel
theorem dX7_nearest_130 : decode cX7_nearest 130 = .ok (.getfield 13, 3) := by decide +kernel
theorem dX7_nearest_133 : decode cX7_nearest 133 = .ok (.bipush 10, 2) := by decide +kernel
theorem dX7_nearest_135 : decode cX7_nearest 135 = .ok (.iload_n 1, 1) := by decide +kernel
theorem dX7_nearest_136 : decode cX7_nearest 136 = .ok (.imul, 1) := by decide +kernel
theorem dX7_nearest_137 : decode cX7_nearest 137 = .ok (.iload_n 3, 1) := by decide +kernel
theorem dX7_nearest_138 : decode cX7_nearest 138 = .ok (.iastore, 1) := by decide +kernel
theorem dX7_nearest_139 : decode cX7_nearest 139 = .ok (.iload 4, 2) := by decide +kernel
theorem dX7_nearest_141 : decode cX7_nearest 141 = .ok (.ldc 216, 2) := by decide +kernel
theorem dX7_nearest_143 : decode cX7_nearest 143 = .ok (.if_icmp .eq 7, 3) := by decide +kernel
theorem dX7_nearest_146 : decode cX7_nearest 146 = .ok (.iload_n 2, 1) := by decide +kernel
theorem dX7_nearest_147 : decode cX7_nearest 147 = .ok (.ifCond .ne 8, 3) := by decide +kernel
theorem dX7_nearest_150 : decode cX7_nearest 150 = .ok (.iload 4, 2) := by decide +kernel
theorem dX7_nearest_152 : decode cX7_nearest 152 = .ok (.goto 5, 3) := by decide +kernel
theorem dX7_nearest_155 : decode cX7_nearest 155 = .ok (.iload 5, 2) := by decide +kernel
theorem dX7_nearest_157 : decode cX7_nearest 157 = .ok (.ireturn, 1) := by decide +kernel
theorem dX7_storm_0 : decode cX7_storm 0 = .ok (.aload_n 0, 1) := by decide +kernel
theorem dX7_storm_1 : decode cX7_storm 1 = .ok (.iconst 0, 1) := by decide +kernel
theorem dX7_storm_2 : decode cX7_storm 2 = .ok (.putfield 68, 3) := by decide +kernel
theorem dX7_storm_5 : decode cX7_storm 5 = .ok (.aload_n 0, 1) := by decide +kernel
theorem dX7_storm_6 : decode cX7_storm 6 = .ok (.getfield 293, 3) := by decide +kernel
theorem dX7_storm_9 : decode cX7_storm 9 = .ok (.bipush 12, 2) := by decide +kernel
theorem dX7_storm_11 : decode cX7_storm 11 = .ok (.if_icmp .eq 21, 3) := by decide +kernel
theorem dX7_storm_14 : decode cX7_storm 14 = .ok (.aload_n 0, 1) := by decide +kernel
theorem dX7_storm_15 : decode cX7_storm 15 = .ok (.iload_n 1, 1) := by decide +kernel
theorem dX7_storm_16 : decode cX7_storm 16 = .ok (.invokevirtual 172, 3) := by decide +kernel
theorem dX7_storm_19 : decode cX7_storm 19 = .ok (.ifCond .eq 13, 3) := by decide +kernel
theorem dX7_storm_22 : decode cX7_storm 22 = .ok (.iload_n 2, 1) := by decide +kernel
theorem dX7_storm_23 : decode cX7_storm 23 = .ok (.iconst 1, 1) := by decide +kernel
theorem dX7_storm_24 : decode cX7_storm 24 = .ok (.bipush 99, 2) := by decide +kernel
theorem dX7_storm_26 : decode cX7_storm 26 = .ok (.invokestatic 107, 3) := by decide +kernel
theorem dX7_storm_29 : decode cX7_storm 29 = .ok (.ifCond .ne 5, 3) := by decide +kernel
theorem dX7_storm_32 : decode cX7_storm 32 = .ok (.iconst (-1), 1) := by decide +kernel
theorem dX7_storm_33 : decode cX7_storm 33 = .ok (.ireturn, 1) := by decide +kernel
theorem dX7_storm_34 : decode cX7_storm 34 = .ok (.aload_n 0, 1) := by decide +kernel
theorem dX7_storm_35 : decode cX7_storm 35 = .ok (.getfield 62, 3) := by decide +kernel
theorem dX7_storm_38 : decode cX7_storm 38 = .ok (.aload_n 0, 1) := by decide +kernel
theorem dX7_storm_39 : decode cX7_storm 39 = .ok (.getfield 293, 3) := by decide +kernel
theorem dX7_storm_42 : decode cX7_storm 42 = .ok (.iload_n 1, 1) := by decide +kernel
theorem dX7_storm_43 : decode cX7_storm 43 = .ok (.iastore, 1) := by decide +kernel
theorem dX7_storm_44 : decode cX7_storm 44 = .ok (.aload_n 0, 1) := by decide +kernel
theorem dX7_storm_45 : decode cX7_storm 45 = .ok (.getfield 65, 3) := by decide +kernel
theorem dX7_storm_48 : decode cX7_storm 48 = .ok (.aload_n 0, 1) := by decide +kernel
theorem dX7_storm_49 : decode cX7_storm 49 = .ok (.getfield 293, 3) := by decide +kernel
theorem dX7_storm_52 : decode cX7_storm 52 = .ok (.iload_n 2, 1) := by decide +kernel
theorem dX7_storm_53 : decode cX7_storm 53 = .ok (.iastore, 1) := by decide +kernel
theorem dX7_storm_54 : decode cX7_storm 54 = .ok (.aload_n 0, 1) := by decide +kernel
theorem dX7_storm_55 : decode cX7_storm 55 = .ok (.dup, 1) := by decide +kernel
theorem dX7_storm_56 : decode cX7_storm 56 = .ok (.getfield 293, 3) := by decide +kernel
theorem dX7_storm_59 : decode cX7_storm 59 = .ok (.iconst 1, 1) := by decide +kernel
theorem dX7_storm_60 : decode cX7_storm 60 = .ok (.iadd, 1) := by decide +kernel
theorem dX7_storm_61 : decode cX7_storm 61 = .ok (.putfield 293, 3) := by decide +kernel
theorem dX7_storm_64 : decode cX7_storm 64 = .ok (.aload_n 0, 1) := by decide +kernel
theorem dX7_storm_65 : decode cX7_storm 65 = .ok (.getfield 293, 3) := by decide +kernel
theorem dX7_storm_68 : decode cX7_storm 68 = .ok (.ireturn, 1) := by decide +kernel
theorem dX7_mean_0 : decode cX7_mean 0 = .ok (.aload_n 0, 1) := by decide +kernel
theorem dX7_mean_1 : decode cX7_mean 1 = .ok (.iconst 0, 1) := by decide +kernel
theorem dX7_mean_2 : decode cX7_mean 2 = .ok (.putfield 68, 3) := by decide +kernel
theorem dX7_mean_5 : decode cX7_mean 5 = .ok (.aload_n 0, 1) := by decide +kernel
theorem dX7_mean_6 : decode cX7_mean 6 = .ok (.iload_n 1, 1) := by decide +kernel
theorem dX7_mean_7 : decode cX7_mean 7 = .ok (.invokevirtual 139, 3) := by decide +kernel
theorem dX7_mean_10 : decode cX7_mean 10 = .ok (.ifCond .eq 12, 3) := by decide +kernel
theorem dX7_mean_13 : decode cX7_mean 13 = .ok (.iload_n 2, 1) := by decide +kernel
theorem dX7_mean_14 : decode cX7_mean 14 = .ok (.iconst 0, 1) := by decide +kernel
theorem dX7_mean_15 : decode cX7_mean 15 = .ok (.iconst 2, 1) := by decide +kernel
theorem dX7_mean_16 : decode cX7_mean 16 = .ok (.invokestatic 107, 3) := by decide +kernel
theorem dX7_mean_19 : decode cX7_mean 19 = .ok (.ifCond .ne 6, 3) := by decide +kernel
theorem dX7_mean_22 : decode cX7_mean 22 = .ok (.ldc 216, 2) := by decide +kernel
theorem dX7_mean_24 : decode cX7_mean 24 = .ok (.ireturn, 1) := by decide +kernel
theorem dX7_mean_25 : decode cX7_mean 25 = .ok (.iconst 0, 1) := by decide +kernel
theorem dX7_mean_26 : decode cX7_mean 26 = .ok (.istore_n 3, 1) := by decide +kernel
theorem dX7_mean_27 : decode cX7_mean 27 = .ok (.iconst 0, 1) := by decide +kernel
theorem dX7_mean_28 : decode cX7_mean 28 = .ok (.istore 4, 2) := by decide +kernel
theorem dX7_mean_30 : decode cX7_mean 30 = .ok (.iload 4, 2) := by decide +kernel
theorem dX7_mean_32 : decode cX7_mean 32 = .ok (.aload_n 0, 1) := by decide +kernel
theorem dX7_mean_33 : decode cX7_mean 33 = .ok (.getfield 293, 3) := by decide +kernel
theorem dX7_mean_36 : decode cX7_mean 36 = .ok (.if_icmp .ge 85, 3) := by decide +kernel
theorem dX7_mean_39 : decode cX7_mean 39 = .ok (.aload_n 0, 1) := by decide +kernel
theorem dX7_mean_40 : decode cX7_mean 40 = .ok (.iload_n 1, 1) := by decide +kernel
theorem dX7_mean_41 : decode cX7_mean 41 = .ok (.aload_n 0, 1) := by decide +kernel
theorem dX7_mean_42 : decode cX7_mean 42 = .ok (.getfield 62, 3) := by decide +kernel
theorem dX7_mean_45 : decode cX7_mean 45 = .ok (.iload 4, 2) := by decide +kernel
theorem dX7_mean_47 : decode cX7_mean 47 = .ok (.iaload, 1) := by decide +kernel
theorem dX7_mean_48 : decode cX7_mean 48 = .ok (.invokevirtual 281, 3) := by decide +kernel
theorem dX7_mean_51 : decode cX7_mean 51 = .ok (.ifCond .ne 6, 3) := by decide +kernel
theorem dX7_mean_54 : decode cX7_mean 54 = .ok (.ldc 216, 2) := by decide +kernel
theorem dX7_mean_56 : decode cX7_mean 56 = .ok (.ireturn, 1) := by decide +kernel
theorem dX7_mean_57 : decode cX7_mean 57 = .ok (.aload_n 0, 1) := by decide +kernel
theorem dX7_mean_58 : decode cX7_mean 58 = .ok (.iload_n 1, 1) := by decide +kernel
theorem dX7_mean_59 : decode cX7_mean 59 = .ok (.aload_n 0, 1) := by decide +kernel
theorem dX7_mean_60 : decode cX7_mean 60 = .ok (.getfield 62, 3) := by decide +kernel
theorem dX7_mean_63 : decode cX7_mean 63 = .ok (.iload 4, 2) := by decide +kernel
theorem dX7_mean_65 : decode cX7_mean 65 = .ok (.iaload, 1) := by decide +kernel
theorem dX7_mean_66 : decode cX7_mean 66 = .ok (.invokevirtual 287, 3) := by decide +kernel
theorem dX7_mean_69 : decode cX7_mean 69 = .ok (.istore 5, 2) := by decide +kernel
theorem dX7_mean_71 : decode cX7_mean 71 = .ok (.iload_n 3, 1) := by decide +kernel
theorem dX7_mean_72 : decode cX7_mean 72 = .ok (.aload_n 0, 1) := by decide +kernel
theorem dX7_mean_73 : decode cX7_mean 73 = .ok (.getfield 65, 3) := by decide +kernel
theorem dX7_mean_76 : decode cX7_mean 76 = .ok (.iload 4, 2) := by decide +kernel
theorem dX7_mean_78 : decode cX7_mean 78 = .ok (.iaload, 1) := by decide +kernel
theorem dX7_mean_79 : decode cX7_mean 79 = .ok (.iload_n 2, 1) := by decide +kernel
theorem dX7_mean_80 : decode cX7_mean 80 = .ok (.iconst 2, 1) := by decide +kernel
theorem dX7_mean_81 : decode cX7_mean 81 = .ok (.if_icmp .ne 7, 3) := by decide +kernel
theorem dX7_mean_84 : decode cX7_mean 84 = .ok (.iconst 1, 1) := by decide +kernel
theorem dX7_mean_85 : decode cX7_mean 85 = .ok (.goto 27, 3) := by decide +kernel
theorem dX7_mean_88 : decode cX7_mean 88 = .ok (.iload 5, 2) := by decide +kernel
theorem dX7_mean_90 : decode cX7_mean 90 = .ok (.ifCond .ne 7, 3) := by decide +kernel
theorem dX7_mean_93 : decode cX7_mean 93 = .ok (.iconst 0, 1) := by decide +kernel
theorem dX7_mean_94 : decode cX7_mean 94 = .ok (.goto 18, 3) := by decide +kernel
theorem dX7_mean_97 : decode cX7_mean 97 = .ok (.iload_n 2, 1) := by decide +kernel
theorem dX7_mean_98 : decode cX7_mean 98 = .ok (.ifCond .ne 10, 3) := by decide +kernel
theorem dX7_mean_101 : decode cX7_mean 101 = .ok (.aload_n 0, 1) := by decide +kernel
theorem dX7_mean_102 : decode cX7_mean 102 = .ok (.getfield 248, 3) := by decide +kernel
theorem dX7_mean_105 : decode cX7_mean 105 = .ok (.goto 7, 3) := by decide +kernel
theorem dX7_mean_108 : decode cX7_mean 108 = .ok (.aload_n 0, 1) := by decide +kernel
theorem dX7_mean_109 : decode cX7_mean 109 = .ok (.getfield 254, 3) := by decide +kernel
theorem dX7_mean_112 : decode cX7_mean 112 = .ok (.imul, 1) := by decide +kernel
theorem dX7_mean_113 : decode cX7_mean 113 = .ok (.iadd, 1) := by decide +kernel
theorem dX7_mean_114 : decode cX7_mean 114 = .ok (.istore_n 3, 1) := by decide +kernel
theorem dX7_mean_115 : decode cX7_mean 115 = .ok (.iinc 4 1, 3) := by decide +kernel
theorem dX7_mean_118 : decode cX7_mean 118 = .ok (.goto (-88), 3) := by decide +kernel
theorem dX7_mean_121 : decode cX7_mean 121 = .ok (.iload_n 3, 1) := by decide +kernel
theorem dX7_mean_122 : decode cX7_mean 122 = .ok (.ireturn, 1) := by decide +kernel
theorem dX7_worthOf_0 : decode cX7_worthOf 0 = .ok (.aload_n 0, 1) := by decide +kernel
theorem dX7_worthOf_1 : decode cX7_worthOf 1 = .ok (.iconst (-1), 1) := by decide +kernel
theorem dX7_worthOf_2 : decode cX7_worthOf 2 = .ok (.putfield 296, 3) := by decide +kernel
theorem dX7_worthOf_5 : decode cX7_worthOf 5 = .ok (.iconst 0, 1) := by decide +kernel
theorem dX7_worthOf_6 : decode cX7_worthOf 6 = .ok (.istore_n 2, 1) := by decide +kernel
theorem dX7_worthOf_7 : decode cX7_worthOf 7 = .ok (.iconst 0, 1) := by decide +kernel
theorem dX7_worthOf_8 : decode cX7_worthOf 8 = .ok (.istore_n 3, 1) := by decide +kernel
theorem dX7_worthOf_9 : decode cX7_worthOf 9 = .ok (.iload_n 3, 1) := by decide +kernel
theorem dX7_worthOf_10 : decode cX7_worthOf 10 = .ok (.aload_n 0, 1) := by decide +kernel
theorem dX7_worthOf_11 : decode cX7_worthOf 11 = .ok (.getfield 146, 3) := by decide +kernel
theorem dX7_worthOf_14 : decode cX7_worthOf 14 = .ok (.if_icmp .ge 59, 3) := by decide +kernel
theorem dX7_worthOf_17 : decode cX7_worthOf 17 = .ok (.aload_n 0, 1) := by decide +kernel
theorem dX7_worthOf_18 : decode cX7_worthOf 18 = .ok (.iload_n 1, 1) := by decide +kernel
theorem dX7_worthOf_19 : decode cX7_worthOf 19 = .ok (.aload_n 0, 1) := by decide +kernel
theorem dX7_worthOf_20 : decode cX7_worthOf 20 = .ok (.invokevirtual 236, 3) := by decide +kernel
theorem dX7_worthOf_23 : decode cX7_worthOf 23 = .ok (.iconst 1, 1) := by decide +kernel
theorem dX7_worthOf_24 : decode cX7_worthOf 24 = .ok (.iload_n 3, 1) := by decide +kernel
theorem dX7_worthOf_25 : decode cX7_worthOf 25 = .ok (.ishl, 1) := by decide +kernel
theorem dX7_worthOf_26 : decode cX7_worthOf 26 = .ok (.iconst (-1), 1) := by decide +kernel
theorem dX7_worthOf_27 : decode cX7_worthOf 27 = .ok (.ixor, 1) := by decide +kernel
theorem dX7_worthOf_28 : decode cX7_worthOf 28 = .ok (.iand, 1) := by decide +kernel
theorem dX7_worthOf_29 : decode cX7_worthOf 29 = .ok (.invokevirtual 287, 3) := by decide +kernel
theorem dX7_worthOf_32 : decode cX7_worthOf 32 = .ok (.ifCond .ne 6, 3) := by decide +kernel
theorem dX7_worthOf_35 : decode cX7_worthOf 35 = .ok (.ldc 216, 2) := by decide +kernel
theorem dX7_worthOf_37 : decode cX7_worthOf 37 = .ok (.ireturn, 1) := by decide +kernel
theorem dX7_worthOf_38 : decode cX7_worthOf 38 = .ok (.aload_n 0, 1) := by decide +kernel
theorem dX7_worthOf_39 : decode cX7_worthOf 39 = .ok (.getfield 296, 3) := by decide +kernel
theorem dX7_worthOf_42 : decode cX7_worthOf 42 = .ok (.iconst (-1), 1) := by decide +kernel
theorem dX7_worthOf_43 : decode cX7_worthOf 43 = .ok (.if_icmp .eq 14, 3) := by decide +kernel
theorem dX7_worthOf_46 : decode cX7_worthOf 46 = .ok (.aload_n 0, 1) := by decide +kernel
theorem dX7_worthOf_47 : decode cX7_worthOf 47 = .ok (.getfield 248, 3) := by decide +kernel
theorem dX7_worthOf_50 : decode cX7_worthOf 50 = .ok (.iload_n 2, 1) := by decide +kernel
theorem dX7_worthOf_51 : decode cX7_worthOf 51 = .ok (.if_icmp .lt 6, 3) := by decide +kernel
theorem dX7_worthOf_54 : decode cX7_worthOf 54 = .ok (.goto 13, 3) := by decide +kernel
theorem dX7_worthOf_57 : decode cX7_worthOf 57 = .ok (.aload_n 0, 1) := by decide +kernel
theorem dX7_worthOf_58 : decode cX7_worthOf 58 = .ok (.iload_n 3, 1) := by decide +kernel
theorem dX7_worthOf_59 : decode cX7_worthOf 59 = .ok (.putfield 296, 3) := by decide +kernel
theorem dX7_worthOf_62 : decode cX7_worthOf 62 = .ok (.aload_n 0, 1) := by decide +kernel
theorem dX7_worthOf_63 : decode cX7_worthOf 63 = .ok (.getfield 248, 3) := by decide +kernel
theorem dX7_worthOf_66 : decode cX7_worthOf 66 = .ok (.istore_n 2, 1) := by decide +kernel
theorem dX7_worthOf_67 : decode cX7_worthOf 67 = .ok (.iinc 3 1, 3) := by decide +kernel
theorem dX7_worthOf_70 : decode cX7_worthOf 70 = .ok (.goto (-61), 3) := by decide +kernel
theorem dX7_worthOf_73 : decode cX7_worthOf 73 = .ok (.iload_n 2, 1) := by decide +kernel
theorem dX7_worthOf_74 : decode cX7_worthOf 74 = .ok (.ireturn, 1) := by decide +kernel
theorem dX7_game_0 : decode cX7_game 0 = .ok (.aload_n 0, 1) := by decide +kernel
theorem dX7_game_1 : decode cX7_game 1 = .ok (.iconst 0, 1) := by decide +kernel
theorem dX7_game_2 : decode cX7_game 2 = .ok (.putfield 68, 3) := by decide +kernel
theorem dX7_game_5 : decode cX7_game 5 = .ok (.aload_n 0, 1) := by decide +kernel
theorem dX7_game_6 : decode cX7_game 6 = .ok (.iload_n 1, 1) := by decide +kernel
theorem dX7_game_7 : decode cX7_game 7 = .ok (.invokevirtual 139, 3) := by decide +kernel
theorem dX7_game_10 : decode cX7_game 10 = .ok (.ifCond .eq 27, 3) := by decide +kernel
theorem dX7_game_13 : decode cX7_game 13 = .ok (.aload_n 0, 1) := by decide +kernel
theorem dX7_game_14 : decode cX7_game 14 = .ok (.iload_n 2, 1) := by decide +kernel
theorem dX7_game_15 : decode cX7_game 15 = .ok (.invokevirtual 139, 3) := by decide +kernel
theorem dX7_game_18 : decode cX7_game 18 = .ok (.ifCond .eq 19, 3) := by decide +kernel
theorem dX7_game_21 : decode cX7_game 21 = .ok (.iload_n 3, 1) := by decide +kernel
theorem dX7_game_22 : decode cX7_game 22 = .ok (.iconst 0, 1) := by decide +kernel
theorem dX7_game_23 : decode cX7_game 23 = .ok (.iconst 2, 1) := by decide +kernel
theorem dX7_game_24 : decode cX7_game 24 = .ok (.invokestatic 107, 3) := by decide +kernel
theorem dX7_game_27 : decode cX7_game 27 = .ok (.ifCond .eq 10, 3) := by decide +kernel
theorem dX7_game_30 : decode cX7_game 30 = .ok (.aload_n 0, 1) := by decide +kernel
theorem dX7_game_31 : decode cX7_game 31 = .ok (.getfield 146, 3) := by decide +kernel
theorem dX7_game_34 : decode cX7_game 34 = .ok (.ifCond .ne 6, 3) := by decide +kernel
theorem dX7_game_37 : decode cX7_game 37 = .ok (.ldc 216, 2) := by decide +kernel
theorem dX7_game_39 : decode cX7_game 39 = .ok (.ireturn, 1) := by decide +kernel
theorem dX7_game_40 : decode cX7_game 40 = .ok (.aload_n 0, 1) := by decide +kernel
theorem dX7_game_41 : decode cX7_game 41 = .ok (.iload_n 2, 1) := by decide +kernel
theorem dX7_game_42 : decode cX7_game 42 = .ok (.invokevirtual 299, 3) := by decide +kernel
theorem dX7_game_45 : decode cX7_game 45 = .ok (.istore 4, 2) := by decide +kernel
theorem dX7_game_47 : decode cX7_game 47 = .ok (.aload_n 0, 1) := by decide +kernel
theorem dX7_game_48 : decode cX7_game 48 = .ok (.getfield 296, 3) := by decide +kernel
theorem dX7_game_51 : decode cX7_game 51 = .ok (.istore 5, 2) := by decide +kernel
theorem dX7_game_53 : decode cX7_game 53 = .ok (.aload_n 0, 1) := by decide +kernel
theorem dX7_game_54 : decode cX7_game 54 = .ok (.iload_n 1, 1) := by decide +kernel
theorem dX7_game_55 : decode cX7_game 55 = .ok (.invokevirtual 299, 3) := by decide +kernel
theorem dX7_game_58 : decode cX7_game 58 = .ok (.istore 6, 2) := by decide +kernel
theorem dX7_game_60 : decode cX7_game 60 = .ok (.iload 6, 2) := by decide +kernel
theorem dX7_game_62 : decode cX7_game 62 = .ok (.ldc 216, 2) := by decide +kernel
theorem dX7_game_64 : decode cX7_game 64 = .ok (.if_icmp .eq 10, 3) := by decide +kernel
theorem dX7_game_67 : decode cX7_game 67 = .ok (.iload 4, 2) := by decide +kernel
theorem dX7_game_69 : decode cX7_game 69 = .ok (.ldc 216, 2) := by decide +kernel
theorem dX7_game_71 : decode cX7_game 71 = .ok (.if_icmp .ne 6, 3) := by decide +kernel
theorem dX7_game_74 : decode cX7_game 74 = .ok (.ldc 216, 2) := by decide +kernel
theorem dX7_game_76 : decode cX7_game 76 = .ok (.ireturn, 1) := by decide +kernel
theorem dX7_game_77 : decode cX7_game 77 = .ok (.iload 4, 2) := by decide +kernel
theorem dX7_game_79 : decode cX7_game 79 = .ok (.iload 6, 2) := by decide +kernel
theorem dX7_game_81 : decode cX7_game 81 = .ok (.if_icmp .le 7, 3) := by decide +kernel
theorem dX7_game_84 : decode cX7_game 84 = .ok (.iconst 1, 1) := by decide +kernel
theorem dX7_game_85 : decode cX7_game 85 = .ok (.goto 4, 3) := by decide +kernel
theorem dX7_game_88 : decode cX7_game 88 = .ok (.iconst 0, 1) := by decide +kernel
theorem dX7_game_89 : decode cX7_game 89 = .ok (.istore 7, 2) := by decide +kernel
theorem dX7_game_91 : decode cX7_game 91 = .ok (.iload_n 3, 1) := by decide +kernel
theorem dX7_game_92 : decode cX7_game 92 = .ok (.ifCond .ne 16, 3) := by decide +kernel
theorem dX7_game_95 : decode cX7_game 95 = .ok (.iload 7, 2) := by decide +kernel
theorem dX7_game_97 : decode cX7_game 97 = .ok (.ifCond .eq 7, 3) := by decide +kernel
theorem dX7_game_100 : decode cX7_game 100 = .ok (.iconst 1, 1) := by decide +kernel
theorem dX7_game_101 : decode cX7_game 101 = .ok (.goto 36, 3) := by decide +kernel
theorem dX7_game_104 : decode cX7_game 104 = .ok (.iconst 0, 1) := by decide +kernel
theorem dX7_game_105 : decode cX7_game 105 = .ok (.goto 32, 3) := by decide +kernel
theorem dX7_game_108 : decode cX7_game 108 = .ok (.iload_n 3, 1) := by decide +kernel
theorem dX7_game_109 : decode cX7_game 109 = .ok (.iconst 1, 1) := by decide +kernel
theorem dX7_game_110 : decode cX7_game 110 = .ok (.if_icmp .ne 13, 3) := by decide +kernel
theorem dX7_game_113 : decode cX7_game 113 = .ok (.iload 6, 2) := by decide +kernel
theorem dX7_game_115 : decode cX7_game 115 = .ok (.iload 4, 2) := by decide +kernel
theorem dX7_game_117 : decode cX7_game 117 = .ok (.invokestatic 152, 3) := by decide +kernel
theorem dX7_game_120 : decode cX7_game 120 = .ok (.goto 17, 3) := by decide +kernel
theorem dX7_game_123 : decode cX7_game 123 = .ok (.iload 7, 2) := by decide +kernel
theorem dX7_game_125 : decode cX7_game 125 = .ok (.ifCond .eq 8, 3) := by decide +kernel
theorem dX7_game_128 : decode cX7_game 128 = .ok (.iload 5, 2) := by decide +kernel
theorem dX7_game_130 : decode cX7_game 130 = .ok (.goto 7, 3) := by decide +kernel
theorem dX7_game_133 : decode cX7_game 133 = .ok (.aload_n 0, 1) := by decide +kernel
theorem dX7_game_134 : decode cX7_game 134 = .ok (.getfield 296, 3) := by decide +kernel
theorem dX7_game_137 : decode cX7_game 137 = .ok (.ireturn, 1) := by decide +kernel
theorem dX7_count_0 : decode cX7_count 0 = .ok (.aload_n 0, 1) := by decide +kernel
theorem dX7_count_1 : decode cX7_count 1 = .ok (.iconst 0, 1) := by decide +kernel
theorem dX7_count_2 : decode cX7_count 2 = .ok (.putfield 68, 3) := by decide +kernel
theorem dX7_count_5 : decode cX7_count 5 = .ok (.iload_n 1, 1) := by decide +kernel
theorem dX7_count_6 : decode cX7_count 6 = .ok (.tableswitch 50 0 3 #[30, 35, 40, 45], 30) := by decide +kernel
theorem dX7_count_36 : decode cX7_count 36 = .ok (.aload_n 0, 1) := by decide +kernel
theorem dX7_count_37 : decode cX7_count 37 = .ok (.getfield 120, 3) := by decide +kernel
theorem dX7_count_40 : decode cX7_count 40 = .ok (.ireturn, 1) := by decide +kernel
theorem dX7_count_41 : decode cX7_count 41 = .ok (.aload_n 0, 1) := by decide +kernel
theorem dX7_count_42 : decode cX7_count 42 = .ok (.getfield 146, 3) := by decide +kernel
theorem dX7_count_45 : decode cX7_count 45 = .ok (.ireturn, 1) := by decide +kernel
theorem dX7_count_46 : decode cX7_count 46 = .ok (.aload_n 0, 1) := by decide +kernel
theorem dX7_count_47 : decode cX7_count 47 = .ok (.getfield 293, 3) := by decide +kernel
theorem dX7_count_50 : decode cX7_count 50 = .ok (.ireturn, 1) := by decide +kernel
theorem dX7_count_51 : decode cX7_count 51 = .ok (.aload_n 0, 1) := by decide +kernel
theorem dX7_count_52 : decode cX7_count 52 = .ok (.getfield 72, 3) := by decide +kernel
theorem dX7_count_55 : decode cX7_count 55 = .ok (.ireturn, 1) := by decide +kernel
theorem dX7_count_56 : decode cX7_count 56 = .ok (.iconst (-1), 1) := by decide +kernel
theorem dX7_count_57 : decode cX7_count 57 = .ok (.ireturn, 1) := by decide +kernel
