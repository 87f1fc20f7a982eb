theorem dX5_happeningOf_27 : decode cX5_happeningOf 27 = .ok (.if_icmp .ne 9, 3) := by decide +kernel
theorem dX5_happeningOf_30 : decode cX5_happeningOf 30 = .ok (.iload_n 2, 1) := by decide +kernel
theorem dX5_happeningOf_31 : decode cX5_happeningOf 31 = .ok (.iconst 1, 1) := by decide +kernel
theorem dX5_happeningOf_32 : decode cX5_happeningOf 32 = .ok (.iload_n 3, 1) := by decide +kernel
theorem dX5_happeningOf_33 : decode cX5_happeningOf 33 = .ok (.ishl, 1) := by decide +kernel
theorem dX5_happeningOf_34 : decode cX5_happeningOf 34 = .ok (.ior, 1) := by decide +kernel
theorem dX5_happeningOf_35 : decode cX5_happeningOf 35 = .ok (.istore_n 2, 1) := by decide +kernel
theorem dX5_happeningOf_36 : decode cX5_happeningOf 36 = .ok (.iinc 3 1, 3) := by decide +kernel
theorem dX5_happeningOf_39 : decode cX5_happeningOf 39 = .ok (.goto (-35), 3) := by decide +kernel
theorem dX5_happeningOf_42 : decode cX5_happeningOf 42 = .ok (.iload_n 2, 1) := by decide +kernel
theorem dX5_happeningOf_43 : decode cX5_happeningOf 43 = .ok (.ireturn, 1) := by decide +kernel
theorem dX5_firstBar_0 : decode cX5_firstBar 0 = .ok (.iconst 0, 1) := by decide +kernel
theorem dX5_firstBar_1 : decode cX5_firstBar 1 = .ok (.istore_n 2, 1) := by decide +kernel
theorem dX5_firstBar_2 : decode cX5_firstBar 2 = .ok (.iload_n 2, 1) := by decide +kernel
theorem dX5_firstBar_3 : decode cX5_firstBar 3 = .ok (.aload_n 0, 1) := by decide +kernel
theorem dX5_firstBar_4 : decode cX5_firstBar 4 = .ok (.getfield 9, 3) := by decide +kernel
theorem dX5_firstBar_7 : decode cX5_firstBar 7 = .ok (.getfield 22, 3) := by decide +kernel
theorem dX5_firstBar_10 : decode cX5_firstBar 10 = .ok (.if_icmp .ge 47, 3) := by decide +kernel
theorem dX5_firstBar_13 : decode cX5_firstBar 13 = .ok (.iload_n 2, 1) := by decide +kernel
theorem dX5_firstBar_14 : decode cX5_firstBar 14 = .ok (.iconst 1, 1) := by decide +kernel
theorem dX5_firstBar_15 : decode cX5_firstBar 15 = .ok (.iadd, 1) := by decide +kernel
theorem dX5_firstBar_16 : decode cX5_firstBar 16 = .ok (.istore_n 3, 1) := by decide +kernel
theorem dX5_firstBar_17 : decode cX5_firstBar 17 = .ok (.iload_n 3, 1) := by decide +kernel
theorem dX5_firstBar_18 : decode cX5_firstBar 18 = .ok (.aload_n 0, 1) := by decide +kernel
theorem dX5_firstBar_19 : decode cX5_firstBar 19 = .ok (.getfield 9, 3) := by decide +kernel
theorem dX5_firstBar_22 : decode cX5_firstBar 22 = .ok (.getfield 22, 3) := by decide +kernel
theorem dX5_firstBar_25 : decode cX5_firstBar 25 = .ok (.if_icmp .ge 26, 3) := by decide +kernel
theorem dX5_firstBar_28 : decode cX5_firstBar 28 = .ok (.aload_n 0, 1) := by decide +kernel
theorem dX5_firstBar_29 : decode cX5_firstBar 29 = .ok (.aload_n 1, 1) := by decide +kernel
theorem dX5_firstBar_30 : decode cX5_firstBar 30 = .ok (.iload_n 2, 1) := by decide +kernel
theorem dX5_firstBar_31 : decode cX5_firstBar 31 = .ok (.iload_n 3, 1) := by decide +kernel
theorem dX5_firstBar_32 : decode cX5_firstBar 32 = .ok (.invokevirtual 28, 3) := by decide +kernel
theorem dX5_firstBar_35 : decode cX5_firstBar 35 = .ok (.ifCond .eq 10, 3) := by decide +kernel
theorem dX5_firstBar_38 : decode cX5_firstBar 38 = .ok (.bipush 16, 2) := by decide +kernel
theorem dX5_firstBar_40 : decode cX5_firstBar 40 = .ok (.iload_n 2, 1) := by decide +kernel
theorem dX5_firstBar_41 : decode cX5_firstBar 41 = .ok (.imul, 1) := by decide +kernel
theorem dX5_firstBar_42 : decode cX5_firstBar 42 = .ok (.iload_n 3, 1) := by decide +kernel
theorem dX5_firstBar_43 : decode cX5_firstBar 43 = .ok (.iadd, 1) := by decide +kernel
theorem dX5_firstBar_44 : decode cX5_firstBar 44 = .ok (.ireturn, 1) := by decide +kernel
theorem dX5_firstBar_45 : decode cX5_firstBar 45 = .ok (.iinc 3 1, 3) := by decide +kernel
theorem dX5_firstBar_48 : decode cX5_firstBar 48 = .ok (.goto (-31), 3) := by decide +kernel
theorem dX5_firstBar_51 : decode cX5_firstBar 51 = .ok (.iinc 2 1, 3) := by decide +kernel
theorem dX5_firstBar_54 : decode cX5_firstBar 54 = .ok (.goto (-52), 3) := by decide +kernel
theorem dX5_firstBar_57 : decode cX5_firstBar 57 = .ok (.iconst 0, 1) := by decide +kernel
theorem dX5_firstBar_58 : decode cX5_firstBar 58 = .ok (.istore_n 2, 1) := by decide +kernel
theorem dX5_firstBar_59 : decode cX5_firstBar 59 = .ok (.iload_n 2, 1) := by decide +kernel
theorem dX5_firstBar_60 : decode cX5_firstBar 60 = .ok (.aload_n 0, 1) := by decide +kernel
theorem dX5_firstBar_61 : decode cX5_firstBar 61 = .ok (.getfield 9, 3) := by decide +kernel
theorem dX5_firstBar_64 : decode cX5_firstBar 64 = .ok (.getfield 22, 3) := by decide +kernel
theorem dX5_firstBar_67 : decode cX5_firstBar 67 = .ok (.if_icmp .ge 43, 3) := by decide +kernel
theorem dX5_firstBar_70 : decode cX5_firstBar 70 = .ok (.aload_n 0, 1) := by decide +kernel
theorem dX5_firstBar_71 : decode cX5_firstBar 71 = .ok (.iload_n 2, 1) := by decide +kernel
theorem dX5_firstBar_72 : decode cX5_firstBar 72 = .ok (.invokevirtual 32, 3) := by decide +kernel
theorem dX5_firstBar_75 : decode cX5_firstBar 75 = .ok (.istore_n 3, 1) := by decide +kernel
theorem dX5_firstBar_76 : decode cX5_firstBar 76 = .ok (.aload_n 0, 1) := by decide +kernel
theorem dX5_firstBar_77 : decode cX5_firstBar 77 = .ok (.getfield 9, 3) := by decide +kernel
theorem dX5_firstBar_80 : decode cX5_firstBar 80 = .ok (.aload_n 1, 1) := by decide +kernel
theorem dX5_firstBar_81 : decode cX5_firstBar 81 = .ok (.iload_n 3, 1) := by decide +kernel
theorem dX5_firstBar_82 : decode cX5_firstBar 82 = .ok (.invokevirtual 36, 3) := by decide +kernel
theorem dX5_firstBar_85 : decode cX5_firstBar 85 = .ok (.ifCond .ne 19, 3) := by decide +kernel
theorem dX5_firstBar_88 : decode cX5_firstBar 88 = .ok (.bipush 16, 2) := by decide +kernel
theorem dX5_firstBar_90 : decode cX5_firstBar 90 = .ok (.iload_n 2, 1) := by decide +kernel
theorem dX5_firstBar_91 : decode cX5_firstBar 91 = .ok (.imul, 1) := by decide +kernel
theorem dX5_firstBar_92 : decode cX5_firstBar 92 = .ok (.iload_n 3, 1) := by decide +kernel
theorem dX5_firstBar_93 : decode cX5_firstBar 93 = .ok (.iconst 1, 1) := by decide +kernel
theorem dX5_firstBar_94 : decode cX5_firstBar 94 = .ok (.iload_n 2, 1) := by decide +kernel
theorem dX5_firstBar_95 : decode cX5_firstBar 95 = .ok (.ishl, 1) := by decide +kernel
theorem dX5_firstBar_96 : decode cX5_firstBar 96 = .ok (.iconst (-1), 1) := by decide +kernel
theorem dX5_firstBar_97 : decode cX5_firstBar 97 = .ok (.ixor, 1) := by decide +kernel
theorem dX5_firstBar_98 : decode cX5_firstBar 98 = .ok (.iand, 1) := by decide +kernel
theorem dX5_firstBar_99 : decode cX5_firstBar 99 = .ok (.invokestatic 40, 3) := by decide +kernel
theorem dX5_firstBar_102 : decode cX5_firstBar 102 = .ok (.iadd, 1) := by decide +kernel
theorem dX5_firstBar_103 : decode cX5_firstBar 103 = .ok (.ireturn, 1) := by decide +kernel
theorem dX5_firstBar_104 : decode cX5_firstBar 104 = .ok (.iinc 2 1, 3) := by decide +kernel
theorem dX5_firstBar_107 : decode cX5_firstBar 107 = .ok (.goto (-48), 3) := by decide +kernel
theorem dX5_firstBar_110 : decode cX5_firstBar 110 = .ok (.iconst (-1), 1) := by decide +kernel
theorem dX5_firstBar_111 : decode cX5_firstBar 111 = .ok (.ireturn, 1) := by decide +kernel
theorem dX5_bar_0 : decode cX5_bar 0 = .ok (.aload_n 0, 1) := by decide +kernel
theorem dX5_bar_1 : decode cX5_bar 1 = .ok (.getfield 15, 3) := by decide +kernel
theorem dX5_bar_4 : decode cX5_bar 4 = .ok (.iload_n 2, 1) := by decide +kernel
theorem dX5_bar_5 : decode cX5_bar 5 = .ok (.iaload, 1) := by decide +kernel
theorem dX5_bar_6 : decode cX5_bar 6 = .ok (.aload_n 0, 1) := by decide +kernel
theorem dX5_bar_7 : decode cX5_bar 7 = .ok (.getfield 15, 3) := by decide +kernel
theorem dX5_bar_10 : decode cX5_bar 10 = .ok (.iload_n 3, 1) := by decide +kernel
theorem dX5_bar_11 : decode cX5_bar 11 = .ok (.iaload, 1) := by decide +kernel
theorem dX5_bar_12 : decode cX5_bar 12 = .ok (.if_icmp .ne 27, 3) := by decide +kernel
theorem dX5_bar_15 : decode cX5_bar 15 = .ok (.aload_n 0, 1) := by decide +kernel
theorem dX5_bar_16 : decode cX5_bar 16 = .ok (.getfield 9, 3) := by decide +kernel
theorem dX5_bar_19 : decode cX5_bar 19 = .ok (.aload_n 1, 1) := by decide +kernel
theorem dX5_bar_20 : decode cX5_bar 20 = .ok (.iconst 1, 1) := by decide +kernel
theorem dX5_bar_21 : decode cX5_bar 21 = .ok (.iload_n 2, 1) := by decide +kernel
theorem dX5_bar_22 : decode cX5_bar 22 = .ok (.ishl, 1) := by decide +kernel
theorem dX5_bar_23 : decode cX5_bar 23 = .ok (.iconst 1, 1) := by decide +kernel
theorem dX5_bar_24 : decode cX5_bar 24 = .ok (.iload_n 3, 1) := by decide +kernel
theorem dX5_bar_25 : decode cX5_bar 25 = .ok (.ishl, 1) := by decide +kernel
theorem dX5_bar_26 : decode cX5_bar 26 = .ok (.ior, 1) := by decide +kernel
theorem dX5_bar_27 : decode cX5_bar 27 = .ok (.invokevirtual 36, 3) := by decide +kernel
theorem dX5_bar_30 : decode cX5_bar 30 = .ok (.ifCond .ne 7, 3) := by decide +kernel
theorem dX5_bar_33 : decode cX5_bar 33 = .ok (.iconst 1, 1) := by decide +kernel
theorem dX5_bar_34 : decode cX5_bar 34 = .ok (.goto 4, 3) := by decide +kernel
theorem dX5_bar_37 : decode cX5_bar 37 = .ok (.iconst 0, 1) := by decide +kernel
theorem dX5_bar_38 : decode cX5_bar 38 = .ok (.ireturn, 1) := by decide +kernel
theorem dX5_bar_39 : decode cX5_bar 39 = .ok (.aload_n 1, 1) := by decide +kernel
theorem dX5_bar_40 : decode cX5_bar 40 = .ok (.invokevirtual 45, 3) := by decide +kernel
theorem dX5_bar_43 : decode cX5_bar 43 = .ok (.ifCond .ne 30, 3) := by decide +kernel
theorem dX5_bar_46 : decode cX5_bar 46 = .ok (.aload_n 0, 1) := by decide +kernel
theorem dX5_bar_47 : decode cX5_bar 47 = .ok (.aload_n 0, 1) := by decide +kernel
theorem dX5_bar_48 : decode cX5_bar 48 = .ok (.iload_n 2, 1) := by decide +kernel
theorem dX5_bar_49 : decode cX5_bar 49 = .ok (.invokevirtual 32, 3) := by decide +kernel
theorem dX5_bar_52 : decode cX5_bar 52 = .ok (.aload_n 0, 1) := by decide +kernel
theorem dX5_bar_53 : decode cX5_bar 53 = .ok (.iload_n 3, 1) := by decide +kernel
theorem dX5_bar_54 : decode cX5_bar 54 = .ok (.invokevirtual 32, 3) := by decide +kernel
theorem dX5_bar_57 : decode cX5_bar 57 = .ok (.aload_n 1, 1) := by decide +kernel
theorem dX5_bar_58 : decode cX5_bar 58 = .ok (.getfield 51, 3) := by decide +kernel
theorem dX5_bar_61 : decode cX5_bar 61 = .ok (.iconst 4, 1) := by decide +kernel
theorem dX5_bar_62 : decode cX5_bar 62 = .ok (.iaload, 1) := by decide +kernel
theorem dX5_bar_63 : decode cX5_bar 63 = .ok (.invokevirtual 54, 3) := by decide +kernel
theorem dX5_bar_66 : decode cX5_bar 66 = .ok (.ifCond .eq 7, 3) := by decide +kernel
theorem dX5_bar_69 : decode cX5_bar 69 = .ok (.iconst 1, 1) := by decide +kernel
theorem dX5_bar_70 : decode cX5_bar 70 = .ok (.goto 4, 3) := by decide +kernel
theorem dX5_bar_73 : decode cX5_bar 73 = .ok (.iconst 0, 1) := by decide +kernel
theorem dX5_bar_74 : decode cX5_bar 74 = .ok (.ireturn, 1) := by decide +kernel
theorem dX5_areTooNear_0 : decode cX5_areTooNear 0 = .ok (.aload_n 0, 1) := by decide +kernel
theorem dX5_areTooNear_1 : decode cX5_areTooNear 1 = .ok (.getfield 9, 3) := by decide +kernel
theorem dX5_areTooNear_4 : decode cX5_areTooNear 4 = .ok (.iload_n 1, 1) := by decide +kernel
theorem dX5_areTooNear_5 : decode cX5_areTooNear 5 = .ok (.invokevirtual 58, 3) := by decide +kernel
theorem dX5_areTooNear_8 : decode cX5_areTooNear 8 = .ok (.iload_n 3, 1) := by decide +kernel
theorem dX5_areTooNear_9 : decode cX5_areTooNear 9 = .ok (.iadd, 1) := by decide +kernel
theorem dX5_areTooNear_10 : decode cX5_areTooNear 10 = .ok (.aload_n 0, 1) := by decide +kernel
theorem dX5_areTooNear_11 : decode cX5_areTooNear 11 = .ok (.getfield 9, 3) := by decide +kernel
theorem dX5_areTooNear_14 : decode cX5_areTooNear 14 = .ok (.iload_n 2, 1) := by decide +kernel
theorem dX5_areTooNear_15 : decode cX5_areTooNear 15 = .ok (.invokevirtual 61, 3) := by decide +kernel
theorem dX5_areTooNear_18 : decode cX5_areTooNear 18 = .ok (.if_icmp .ge 7, 3) := by decide +kernel
theorem dX5_areTooNear_21 : decode cX5_areTooNear 21 = .ok (.iconst 1, 1) := by decide +kernel
theorem dX5_areTooNear_22 : decode cX5_areTooNear 22 = .ok (.goto 4, 3) := by decide +kernel
theorem dX5_areTooNear_25 : decode cX5_areTooNear 25 = .ok (.iconst 0, 1) := by decide +kernel
theorem dX5_areTooNear_26 : decode cX5_areTooNear 26 = .ok (.istore 4, 2) := by decide +kernel
theorem dX5_areTooNear_28 : decode cX5_areTooNear 28 = .ok (.aload_n 0, 1) := by decide +kernel
theorem dX5_areTooNear_29 : decode cX5_areTooNear 29 = .ok (.getfield 9, 3) := by decide +kernel
theorem dX5_areTooNear_32 : decode cX5_areTooNear 32 = .ok (.iload_n 2, 1) := by decide +kernel
theorem dX5_areTooNear_33 : decode cX5_areTooNear 33 = .ok (.invokevirtual 58, 3) := by decide +kernel
theorem dX5_areTooNear_36 : decode cX5_areTooNear 36 = .ok (.iload_n 3, 1) := by decide +kernel
theorem dX5_areTooNear_37 : decode cX5_areTooNear 37 = .ok (.iadd, 1) := by decide +kernel
theorem dX5_areTooNear_38 : decode cX5_areTooNear 38 = .ok (.aload_n 0, 1) := by decide +kernel
theorem dX5_areTooNear_39 : decode cX5_areTooNear 39 = .ok (.getfield 9, 3) := by decide +kernel
theorem dX5_areTooNear_42 : decode cX5_areTooNear 42 = .ok (.iload_n 1, 1) := by decide +kernel
theorem dX5_areTooNear_43 : decode cX5_areTooNear 43 = .ok (.invokevirtual 61, 3) := by decide +kernel
theorem dX5_areTooNear_46 : decode cX5_areTooNear 46 = .ok (.if_icmp .ge 7, 3) := by decide +kernel
theorem dX5_areTooNear_49 : decode cX5_areTooNear 49 = .ok (.iconst 1, 1) := by decide +kernel
theorem dX5_areTooNear_50 : decode cX5_areTooNear 50 = .ok (.goto 4, 3) := by decide +kernel
theorem dX5_areTooNear_53 : decode cX5_areTooNear 53 = .ok (.iconst 0, 1) := by decide +kernel
theorem dX5_areTooNear_54 : decode cX5_areTooNear 54 = .ok (.istore 5, 2) := by decide +kernel
theorem dX5_areTooNear_56 : decode cX5_areTooNear 56 = .ok (.iload 4, 2) := by decide +kernel
theorem dX5_areTooNear_58 : decode cX5_areTooNear 58 = .ok (.ifCond .ne 12, 3) := by decide +kernel
theorem dX5_areTooNear_61 : decode cX5_areTooNear 61 = .ok (.iload 5, 2) := by decide +kernel
theorem dX5_areTooNear_63 : decode cX5_areTooNear 63 = .ok (.ifCond .ne 7, 3) := by decide +kernel
theorem dX5_areTooNear_66 : decode cX5_areTooNear 66 = .ok (.iconst 1, 1) := by decide +kernel
theorem dX5_areTooNear_67 : decode cX5_areTooNear 67 = .ok (.goto 4, 3) := by decide +kernel
theorem dX5_areTooNear_70 : decode cX5_areTooNear 70 = .ok (.iconst 0, 1) := by decide +kernel
theorem dX5_areTooNear_71 : decode cX5_areTooNear 71 = .ok (.ireturn, 1) := by decide +kernel
theorem dX5_reckon_0 : decode cX5_reckon 0 = .ok (.aload_n 0, 1) := by decide +kernel
theorem dX5_reckon_1 : decode cX5_reckon 1 = .ok (.getfield 9, 3) := by decide +kernel
theorem dX5_reckon_4 : decode cX5_reckon 4 = .ok (.aload_n 0, 1) := by decide +kernel
theorem dX5_reckon_5 : decode cX5_reckon 5 = .ok (.getfield 9, 3) := by decide +kernel
theorem dX5_reckon_8 : decode cX5_reckon 8 = .ok (.invokevirtual 64, 3) := by decide +kernel
theorem dX5_reckon_11 : decode cX5_reckon 11 = .ok (.aload_n 0, 1) := by decide +kernel
theorem dX5_reckon_12 : decode cX5_reckon 12 = .ok (.getfield 19, 3) := by decide +kernel
theorem dX5_reckon_15 : decode cX5_reckon 15 = .ok (.invokevirtual 68, 3) := by decide +kernel
theorem dX5_reckon_18 : decode cX5_reckon 18 = .ok (.istore_n 2, 1) := by decide +kernel
theorem dX5_reckon_19 : decode cX5_reckon 19 = .ok (.iconst 0, 1) := by decide +kernel
theorem dX5_reckon_20 : decode cX5_reckon 20 = .ok (.istore_n 3, 1) := by decide +kernel
theorem dX5_reckon_21 : decode cX5_reckon 21 = .ok (.aload_n 0, 1) := by decide +kernel
theorem dX5_reckon_22 : decode cX5_reckon 22 = .ok (.iconst 0, 1) := by decide +kernel
theorem dX5_reckon_23 : decode cX5_reckon 23 = .ok (.putfield 72, 3) := by decide +kernel
theorem dX5_reckon_26 : decode cX5_reckon 26 = .ok (.aload_n 0, 1) := by decide +kernel
theorem dX5_reckon_27 : decode cX5_reckon 27 = .ok (.iconst 0, 1) := by decide +kernel
theorem dX5_reckon_28 : decode cX5_reckon 28 = .ok (.putfield 75, 3) := by decide +kernel
theorem dX5_reckon_31 : decode cX5_reckon 31 = .ok (.aload_n 0, 1) := by decide +kernel
theorem dX5_reckon_32 : decode cX5_reckon 32 = .ok (.iconst 0, 1) := by decide +kernel
theorem dX5_reckon_33 : decode cX5_reckon 33 = .ok (.putfield 78, 3) := by decide +kernel
theorem dX5_reckon_36 : decode cX5_reckon 36 = .ok (.iconst 0, 1) := by decide +kernel
theorem dX5_reckon_37 : decode cX5_reckon 37 = .ok (.istore 4, 2) := by decide +kernel
theorem dX5_reckon_39 : decode cX5_reckon 39 = .ok (.iload 4, 2) := by decide +kernel
theorem dX5_reckon_41 : decode cX5_reckon 41 = .ok (.iload_n 2, 1) := by decide +kernel
theorem dX5_reckon_42 : decode cX5_reckon 42 = .ok (.if_icmp .ge 109, 3) := by decide +kernel
theorem dX5_reckon_45 : decode cX5_reckon 45 = .ok (.aload_n 0, 1) := by decide +kernel
theorem dX5_reckon_46 : decode cX5_reckon 46 = .ok (.getfield 19, 3) := by decide +kernel
theorem dX5_reckon_49 : decode cX5_reckon 49 = .ok (.iload 4, 2) := by decide +kernel
theorem dX5_reckon_51 : decode cX5_reckon 51 = .ok (.iaload, 1) := by decide +kernel
theorem dX5_reckon_52 : decode cX5_reckon 52 = .ok (.iload_n 3, 1) := by decide +kernel
theorem dX5_reckon_53 : decode cX5_reckon 53 = .ok (.invokestatic 81, 3) := by decide +kernel
theorem dX5_reckon_56 : decode cX5_reckon 56 = .ok (.ifCond .eq 6, 3) := by decide +kernel
theorem dX5_reckon_59 : decode cX5_reckon 59 = .ok (.goto 86, 3) := by decide +kernel
theorem dX5_reckon_62 : decode cX5_reckon 62 = .ok (.aload_n 0, 1) := by decide +kernel
theorem dX5_reckon_63 : decode cX5_reckon 63 = .ok (.aload_n 0, 1) := by decide +kernel
theorem dX5_reckon_64 : decode cX5_reckon 64 = .ok (.getfield 19, 3) := by decide +kernel
theorem dX5_reckon_67 : decode cX5_reckon 67 = .ok (.iload 4, 2) := by decide +kernel
theorem dX5_reckon_69 : decode cX5_reckon 69 = .ok (.iaload, 1) := by decide +kernel
theorem dX5_reckon_70 : decode cX5_reckon 70 = .ok (.invokevirtual 32, 3) := by decide +kernel
theorem dX5_reckon_73 : decode cX5_reckon 73 = .ok (.istore 5, 2) := by decide +kernel
theorem dX5_reckon_75 : decode cX5_reckon 75 = .ok (.iload_n 3, 1) := by decide +kernel
theorem dX5_reckon_76 : decode cX5_reckon 76 = .ok (.iload 5, 2) := by decide +kernel
theorem dX5_reckon_78 : decode cX5_reckon 78 = .ok (.ior, 1) := by decide +kernel
theorem dX5_reckon_79 : decode cX5_reckon 79 = .ok (.istore_n 3, 1) := by decide +kernel
theorem dX5_reckon_80 : decode cX5_reckon 80 = .ok (.aload_n 0, 1) := by decide +kernel
theorem dX5_reckon_81 : decode cX5_reckon 81 = .ok (.dup, 1) := by decide +kernel
theorem dX5_reckon_82 : decode cX5_reckon 82 = .ok (.getfield 72, 3) := by decide +kernel
theorem dX5_reckon_85 : decode cX5_reckon 85 = .ok (.iconst 1, 1) := by decide +kernel
theorem dX5_reckon_86 : decode cX5_reckon 86 = .ok (.iadd, 1) := by decide +kernel
theorem dX5_reckon_87 : decode cX5_reckon 87 = .ok (.putfield 72, 3) := by decide +kernel
theorem dX5_reckon_90 : decode cX5_reckon 90 = .ok (.aload_n 1, 1) := by decide +kernel
theorem dX5_reckon_91 : decode cX5_reckon 91 = .ok (.aload_n 0, 1) := by decide +kernel
theorem dX5_reckon_92 : decode cX5_reckon 92 = .ok (.getfield 9, 3) := by decide +kernel
theorem dX5_reckon_95 : decode cX5_reckon 95 = .ok (.iload 5, 2) := by decide +kernel
theorem dX5_reckon_97 : decode cX5_reckon 97 = .ok (.invokevirtual 85, 3) := by decide +kernel
theorem dX5_reckon_100 : decode cX5_reckon 100 = .ok (.invokevirtual 88, 3) := by decide +kernel
theorem dX5_reckon_103 : decode cX5_reckon 103 = .ok (.istore 6, 2) := by decide +kernel
theorem dX5_reckon_105 : decode cX5_reckon 105 = .ok (.iload 6, 2) := by decide +kernel
theorem dX5_reckon_107 : decode cX5_reckon 107 = .ok (.ifCond .le 38, 3) := by decide +kernel
theorem dX5_reckon_110 : decode cX5_reckon 110 = .ok (.aload_n 0, 1) := by decide +kernel
theorem dX5_reckon_111 : decode cX5_reckon 111 = .ok (.getfield 75, 3) := by decide +kernel
theorem dX5_reckon_114 : decode cX5_reckon 114 = .ok (.aload_n 1, 1) := by decide +kernel
theorem dX5_reckon_115 : decode cX5_reckon 115 = .ok (.getfield 51, 3) := by decide +kernel
theorem dX5_reckon_118 : decode cX5_reckon 118 = .ok (.bipush 7, 2) := by decide +kernel
theorem dX5_reckon_120 : decode cX5_reckon 120 = .ok (.iaload, 1) := by decide +kernel
theorem dX5_reckon_121 : decode cX5_reckon 121 = .ok (.if_icmp .ge 24, 3) := by decide +kernel
theorem dX5_reckon_124 : decode cX5_reckon 124 = .ok (.aload_n 0, 1) := by decide +kernel
theorem dX5_reckon_125 : decode cX5_reckon 125 = .ok (.dup, 1) := by decide +kernel
theorem dX5_reckon_126 : decode cX5_reckon 126 = .ok (.getfield 75, 3) := by decide +kernel
theorem dX5_reckon_129 : decode cX5_reckon 129 = .ok (.iconst 1, 1) := by decide +kernel
theorem dX5_reckon_130 : decode cX5_reckon 130 = .ok (.iadd, 1) := by decide +kernel
theorem dX5_reckon_131 : decode cX5_reckon 131 = .ok (.putfield 75, 3) := by decide +kernel
theorem dX5_reckon_134 : decode cX5_reckon 134 = .ok (.aload_n 0, 1) := by decide +kernel
theorem dX5_reckon_135 : decode cX5_reckon 135 = .ok (.dup, 1) := by decide +kernel
theorem dX5_reckon_136 : decode cX5_reckon 136 = .ok (.getfield 78, 3) := by decide +kernel
theorem dX5_reckon_139 : decode cX5_reckon 139 = .ok (.iload 6, 2) := by decide +kernel
theorem dX5_reckon_141 : decode cX5_reckon 141 = .ok (.iadd, 1) := by decide +kernel
theorem dX5_reckon_142 : decode cX5_reckon 142 = .ok (.putfield 78, 3) := by decide +kernel
theorem dX5_reckon_145 : decode cX5_reckon 145 = .ok (.iinc 4 1, 3) := by decide +kernel
theorem dX5_reckon_148 : decode cX5_reckon 148 = .ok (.goto (-109), 3) := by decide +kernel
theorem dX5_reckon_151 : decode cX5_reckon 151 = .ok (.return_, 1) := by decide +kernel
theorem dX6_init_0 : decode cX6_init 0 = .ok (.aload_n 0, 1) := by decide +kernel
theorem dX6_init_1 : decode cX6_init 1 = .ok (.invokespecial 1, 3) := by decide +kernel
theorem dX6_init_4 : decode cX6_init 4 = .ok (.aload_n 0, 1) := by decide +kernel
theorem dX6_init_5 : decode cX6_init 5 = .ok (.new 7, 3) := by decide +kernel
theorem dX6_init_8 : decode cX6_init 8 = .ok (.dup, 1) := by decide +kernel
theorem dX6_init_9 : decode cX6_init 9 = .ok (.invokespecial 9, 3) := by decide +kernel
theorem dX6_init_12 : decode cX6_init 12 = .ok (.putfield 10, 3) := by decide +kernel
theorem dX6_init_15 : decode cX6_init 15 = .ok (.aload_n 0, 1) := by decide +kernel
theorem dX6_init_16 : decode cX6_init 16 = .ok (.bipush 6, 2) := by decide +kernel
theorem dX6_init_18 : decode cX6_init 18 = .ok (.anewarray 16, 3) := by decide +kernel
theorem dX6_init_21 : decode cX6_init 21 = .ok (.putfield 18, 3) := by decide +kernel
theorem dX6_init_24 : decode cX6_init 24 = .ok (.iconst 0, 1) := by decide +kernel
theorem dX6_init_25 : decode cX6_init 25 = .ok (.istore_n 1, 1) := by decide +kernel
theorem dX6_init_26 : decode cX6_init 26 = .ok (.iload_n 1, 1) := by decide +kernel
theorem dX6_init_27 : decode cX6_init 27 = .ok (.bipush 6, 2) := by decide +kernel
theorem dX6_init_29 : decode cX6_init 29 = .ok (.if_icmp .ge 22, 3) := by decide +kernel
theorem dX6_init_32 : decode cX6_init 32 = .ok (.aload_n 0, 1) := by decide +kernel
theorem dX6_init_33 : decode cX6_init 33 = .ok (.getfield 18, 3) := by decide +kernel
theorem dX6_init_36 : decode cX6_init 36 = .ok (.iload_n 1, 1) := by decide +kernel
theorem dX6_init_37 : decode cX6_init 37 = .ok (.new 16, 3) := by decide +kernel
theorem dX6_init_40 : decode cX6_init 40 = .ok (.dup, 1) := by decide +kernel
theorem dX6_init_41 : decode cX6_init 41 = .ok (.invokespecial 22, 3) := by decide +kernel
theorem dX6_init_44 : decode cX6_init 44 = .ok (.aastore, 1) := by decide +kernel
theorem dX6_init_45 : decode cX6_init 45 = .ok (.iinc 1 1, 3) := by decide +kernel
theorem dX6_init_48 : decode cX6_init 48 = .ok (.goto (-22), 3) := by decide +kernel
theorem dX6_init_51 : decode cX6_init 51 = .ok (.aload_n 0, 1) := by decide +kernel
theorem dX6_init_52 : decode cX6_init 52 = .ok (.new 16, 3) := by decide +kernel
theorem dX6_init_55 : decode cX6_init 55 = .ok (.dup, 1) := by decide +kernel
theorem dX6_init_56 : decode cX6_init 56 = .ok (.invokespecial 22, 3) := by decide +kernel
theorem dX6_init_59 : decode cX6_init 59 = .ok (.putfield 23, 3) := by decide +kernel
theorem dX6_init_62 : decode cX6_init 62 = .ok (.aload_n 0, 1) := by decide +kernel
theorem dX6_init_63 : decode cX6_init 63 = .ok (.new 27, 3) := by decide +kernel
theorem dX6_init_66 : decode cX6_init 66 = .ok (.dup, 1) := by decide +kernel
theorem dX6_init_67 : decode cX6_init 67 = .ok (.invokespecial 29, 3) := by decide +kernel
theorem dX6_init_70 : decode cX6_init 70 = .ok (.putfield 30, 3) := by decide +kernel
theorem dX6_init_73 : decode cX6_init 73 = .ok (.aload_n 0, 1) := by decide +kernel
theorem dX6_init_74 : decode cX6_init 74 = .ok (.new 34, 3) := by decide +kernel
theorem dX6_init_77 : decode cX6_init 77 = .ok (.dup, 1) := by decide +kernel
theorem dX6_init_78 : decode cX6_init 78 = .ok (.aload_n 0, 1) := by decide +kernel
theorem dX6_init_79 : decode cX6_init 79 = .ok (.getfield 30, 3) := by decide +kernel
theorem dX6_init_82 : decode cX6_init 82 = .ok (.invokespecial 36, 3) := by decide +kernel
theorem dX6_init_85 : decode cX6_init 85 = .ok (.putfield 39, 3) := by decide +kernel
theorem dX6_init_88 : decode cX6_init 88 = .ok (.aload_n 0, 1) := by decide +kernel
theorem dX6_init_89 : decode cX6_init 89 = .ok (.new 43, 3) := by decide +kernel
theorem dX6_init_92 : decode cX6_init 92 = .ok (.dup, 1) := by decide +kernel
theorem dX6_init_93 : decode cX6_init 93 = .ok (.aload_n 0, 1) := by decide +kernel
theorem dX6_init_94 : decode cX6_init 94 = .ok (.getfield 30, 3) := by decide +kernel
theorem dX6_init_97 : decode cX6_init 97 = .ok (.invokespecial 45, 3) := by decide +kernel
theorem dX6_init_100 : decode cX6_init 100 = .ok (.putfield 46, 3) := by decide +kernel
theorem dX6_init_103 : decode cX6_init 103 = .ok (.aload_n 0, 1) := by decide +kernel
theorem dX6_init_104 : decode cX6_init 104 = .ok (.bipush 12, 2) := by decide +kernel
theorem dX6_init_106 : decode cX6_init 106 = .ok (.newarray .int, 2) := by decide +kernel
theorem dX6_init_108 : decode cX6_init 108 = .ok (.putfield 50, 3) := by decide +kernel
theorem dX6_init_111 : decode cX6_init 111 = .ok (.aload_n 0, 1) := by decide +kernel
theorem dX6_init_112 : decode cX6_init 112 = .ok (.bipush 12, 2) := by decide +kernel
theorem dX6_init_114 : decode cX6_init 114 = .ok (.newarray .int, 2) := by decide +kernel
theorem dX6_init_116 : decode cX6_init 116 = .ok (.putfield 54, 3) := by decide +kernel
theorem dX6_init_119 : decode cX6_init 119 = .ok (.aload_n 0, 1) := by decide +kernel
theorem dX6_init_120 : decode cX6_init 120 = .ok (.iconst 0, 1) := by decide +kernel
theorem dX6_init_121 : decode cX6_init 121 = .ok (.putfield 57, 3) := by decide +kernel
theorem dX6_init_124 : decode cX6_init 124 = .ok (.aload_n 0, 1) := by decide +kernel
theorem dX6_init_125 : decode cX6_init 125 = .ok (.iconst 0, 1) := by decide +kernel
theorem dX6_init_126 : decode cX6_init 126 = .ok (.putfield 61, 3) := by decide +kernel
theorem dX6_init_129 : decode cX6_init 129 = .ok (.return_, 1) := by decide +kernel
theorem dX6_feed_0 : decode cX6_feed 0 = .ok (.iload_n 1, 1) := by decide +kernel
theorem dX6_feed_1 : decode cX6_feed 1 = .ok (.invokestatic 64, 3) := by decide +kernel
theorem dX6_feed_4 : decode cX6_feed 4 = .ok (.iload_n 2, 1) := by decide +kernel
theorem dX6_feed_5 : decode cX6_feed 5 = .ok (.invokestatic 64, 3) := by decide +kernel
theorem dX6_feed_8 : decode cX6_feed 8 = .ok (.iadd, 1) := by decide +kernel
theorem dX6_feed_9 : decode cX6_feed 9 = .ok (.iload_n 3, 1) := by decide +kernel
theorem dX6_feed_10 : decode cX6_feed 10 = .ok (.invokestatic 64, 3) := by decide +kernel
theorem dX6_feed_13 : decode cX6_feed 13 = .ok (.iadd, 1) := by decide +kernel
theorem dX6_feed_14 : decode cX6_feed 14 = .ok (.iload 4, 2) := by decide +kernel
theorem dX6_feed_16 : decode cX6_feed 16 = .ok (.invokestatic 64, 3) := by decide +kernel
theorem dX6_feed_19 : decode cX6_feed 19 = .ok (.iadd, 1) := by decide +kernel
theorem dX6_feed_20 : decode cX6_feed 20 = .ok (.iload 5, 2) := by decide +kernel
theorem dX6_feed_22 : decode cX6_feed 22 = .ok (.invokestatic 64, 3) := by decide +kernel
theorem dX6_feed_25 : decode cX6_feed 25 = .ok (.iadd, 1) := by decide +kernel
theorem dX6_feed_26 : decode cX6_feed 26 = .ok (.istore 6, 2) := by decide +kernel
theorem dX6_feed_28 : decode cX6_feed 28 = .ok (.aload_n 0, 1) := by decide +kernel
theorem dX6_feed_29 : decode cX6_feed 29 = .ok (.getfield 10, 3) := by decide +kernel
theorem dX6_feed_32 : decode cX6_feed 32 = .ok (.getfield 68, 3) := by decide +kernel
theorem dX6_feed_35 : decode cX6_feed 35 = .ok (.iload 6, 2) := by decide +kernel
theorem dX6_feed_37 : decode cX6_feed 37 = .ok (.iadd, 1) := by decide +kernel
theorem dX6_feed_38 : decode cX6_feed 38 = .ok (.bipush 120, 2) := by decide +kernel
theorem dX6_feed_40 : decode cX6_feed 40 = .ok (.if_icmp .le 5, 3) := by decide +kernel
theorem dX6_feed_43 : decode cX6_feed 43 = .ok (.iconst (-1), 1) := by decide +kernel
theorem dX6_feed_44 : decode cX6_feed 44 = .ok (.ireturn, 1) := by decide +kernel
theorem dX6_feed_45 : decode cX6_feed 45 = .ok (.aload_n 0, 1) := by decide +kernel
theorem dX6_feed_46 : decode cX6_feed 46 = .ok (.getfield 10, 3) := by decide +kernel
theorem dX6_feed_49 : decode cX6_feed 49 = .ok (.iload_n 1, 1) := by decide +kernel
theorem dX6_feed_50 : decode cX6_feed 50 = .ok (.invokevirtual 71, 3) := by decide +kernel
theorem dX6_feed_53 : decode cX6_feed 53 = .ok (.aload_n 0, 1) := by decide +kernel
theorem dX6_feed_54 : decode cX6_feed 54 = .ok (.getfield 10, 3) := by decide +kernel
theorem dX6_feed_57 : decode cX6_feed 57 = .ok (.iload_n 2, 1) := by decide +kernel
theorem dX6_feed_58 : decode cX6_feed 58 = .ok (.invokevirtual 71, 3) := by decide +kernel
theorem dX6_feed_61 : decode cX6_feed 61 = .ok (.aload_n 0, 1) := by decide +kernel
theorem dX6_feed_62 : decode cX6_feed 62 = .ok (.getfield 10, 3) := by decide +kernel
theorem dX6_feed_65 : decode cX6_feed 65 = .ok (.iload_n 3, 1) := by decide +kernel
theorem dX6_feed_66 : decode cX6_feed 66 = .ok (.invokevirtual 71, 3) := by decide +kernel
theorem dX6_feed_69 : decode cX6_feed 69 = .ok (.aload_n 0, 1) := by decide +kernel
theorem dX6_feed_70 : decode cX6_feed 70 = .ok (.getfield 10, 3) := by decide +kernel
theorem dX6_feed_73 : decode cX6_feed 73 = .ok (.iload 4, 2) := by decide +kernel
theorem dX6_feed_75 : decode cX6_feed 75 = .ok (.invokevirtual 71, 3) := by decide +kernel
theorem dX6_feed_78 : decode cX6_feed 78 = .ok (.aload_n 0, 1) := by decide +kernel
theorem dX6_feed_79 : decode cX6_feed 79 = .ok (.getfield 10, 3) := by decide +kernel
theorem dX6_feed_82 : decode cX6_feed 82 = .ok (.iload 5, 2) := by decide +kernel
theorem dX6_feed_84 : decode cX6_feed 84 = .ok (.invokevirtual 71, 3) := by decide +kernel
theorem dX6_feed_87 : decode cX6_feed 87 = .ok (.aload_n 0, 1) := by decide +kernel
theorem dX6_feed_88 : decode cX6_feed 88 = .ok (.getfield 10, 3) := by decide +kernel
theorem dX6_feed_91 : decode cX6_feed 91 = .ok (.getfield 68, 3) := by decide +kernel
theorem dX6_feed_94 : decode cX6_feed 94 = .ok (.ireturn, 1) := by decide +kernel
theorem dX6_end_0 : decode cX6_end 0 = .ok (.iload_n 1, 1) := by decide +kernel
theorem dX6_end_1 : decode cX6_end 1 = .ok (.ifCond .lt 14, 3) := by decide +kernel
theorem dX6_end_4 : decode cX6_end 4 = .ok (.iload_n 1, 1) := by decide +kernel
theorem dX6_end_5 : decode cX6_end 5 = .ok (.aload_n 0, 1) := by decide +kernel
theorem dX6_end_6 : decode cX6_end 6 = .ok (.getfield 10, 3) := by decide +kernel
theorem dX6_end_9 : decode cX6_end 9 = .ok (.getfield 68, 3) := by decide +kernel
theorem dX6_end_12 : decode cX6_end 12 = .ok (.if_icmp .le 5, 3) := by decide +kernel
theorem dX6_end_15 : decode cX6_end 15 = .ok (.iconst 0, 1) := by decide +kernel
theorem dX6_end_16 : decode cX6_end 16 = .ok (.ireturn, 1) := by decide +kernel
theorem dX6_end_17 : decode cX6_end 17 = .ok (.aload_n 0, 1) := by decide +kernel
theorem dX6_end_18 : decode cX6_end 18 = .ok (.getfield 10, 3) := by decide +kernel
theorem dX6_end_21 : decode cX6_end 21 = .ok (.iload_n 1, 1) := by decide +kernel
theorem dX6_end_22 : decode cX6_end 22 = .ok (.putfield 68, 3) := by decide +kernel
theorem dX6_end_25 : decode cX6_end 25 = .ok (.iconst 1, 1) := by decide +kernel
theorem dX6_end_26 : decode cX6_end 26 = .ok (.ireturn, 1) := by decide +kernel
theorem dX6_fault_0 : decode cX6_fault 0 = .ok (.aload_n 0, 1) := by decide +kernel
theorem dX6_fault_1 : decode cX6_fault 1 = .ok (.getfield 10, 3) := by decide +kernel
theorem dX6_fault_4 : decode cX6_fault 4 = .ok (.aload_n 0, 1) := by decide +kernel
theorem dX6_fault_5 : decode cX6_fault 5 = .ok (.getfield 23, 3) := by decide +kernel
theorem dX6_fault_8 : decode cX6_fault 8 = .ok (.invokevirtual 75, 3) := by decide +kernel
theorem dX6_fault_11 : decode cX6_fault 11 = .ok (.ireturn, 1) := by decide +kernel
theorem dX6_cover_0 : decode cX6_cover 0 = .ok (.aload_n 0, 1) := by decide +kernel
theorem dX6_cover_1 : decode cX6_cover 1 = .ok (.getfield 57, 3) := by decide +kernel
theorem dX6_cover_4 : decode cX6_cover 4 = .ok (.bipush 6, 2) := by decide +kernel
theorem dX6_cover_6 : decode cX6_cover 6 = .ok (.if_icmp .ge 18, 3) := by decide +kernel
theorem dX6_cover_9 : decode cX6_cover 9 = .ok (.aload_n 0, 1) := by decide +kernel
theorem dX6_cover_10 : decode cX6_cover 10 = .ok (.getfield 10, 3) := by decide +kernel
theorem dX6_cover_13 : decode cX6_cover 13 = .ok (.aload_n 0, 1) := by decide +kernel
theorem dX6_cover_14 : decode cX6_cover 14 = .ok (.getfield 23, 3) := by decide +kernel
theorem dX6_cover_17 : decode cX6_cover 17 = .ok (.invokevirtual 75, 3) := by decide +kernel
theorem dX6_cover_20 : decode cX6_cover 20 = .ok (.iconst (-1), 1) := by decide +kernel
theorem dX6_cover_21 : decode cX6_cover 21 = .ok (.if_icmp .eq 5, 3) := by decide +kernel
theorem dX6_cover_24 : decode cX6_cover 24 = .ok (.iconst (-1), 1) := by decide +kernel
theorem dX6_cover_25 : decode cX6_cover 25 = .ok (.ireturn, 1) := by decide +kernel
theorem dX6_cover_26 : decode cX6_cover 26 = .ok (.aload_n 0, 1) := by decide +kernel
theorem dX6_cover_27 : decode cX6_cover 27 = .ok (.getfield 18, 3) := by decide +kernel
theorem dX6_cover_30 : decode cX6_cover 30 = .ok (.aload_n 0, 1) := by decide +kernel
theorem dX6_cover_31 : decode cX6_cover 31 = .ok (.getfield 57, 3) := by decide +kernel
theorem dX6_cover_34 : decode cX6_cover 34 = .ok (.aaload, 1) := by decide +kernel
theorem dX6_cover_35 : decode cX6_cover 35 = .ok (.astore_n 1, 1) := by decide +kernel
theorem dX6_cover_36 : decode cX6_cover 36 = .ok (.aload_n 1, 1) := by decide +kernel
theorem dX6_cover_37 : decode cX6_cover 37 = .ok (.ifnonnull 5, 3) := by decide +kernel
theorem dX6_cover_40 : decode cX6_cover 40 = .ok (.iconst (-1), 1) := by decide +kernel
theorem dX6_cover_41 : decode cX6_cover 41 = .ok (.ireturn, 1) := by decide +kernel
theorem dX6_cover_42 : decode cX6_cover 42 = .ok (.aload_n 1, 1) := by decide +kernel
theorem dX6_cover_43 : decode cX6_cover 43 = .ok (.aload_n 0, 1) := by decide +kernel
theorem dX6_cover_44 : decode cX6_cover 44 = .ok (.getfield 23, 3) := by decide +kernel
theorem dX6_cover_47 : decode cX6_cover 47 = .ok (.invokevirtual 79, 3) := by decide +kernel
theorem dX6_cover_50 : decode cX6_cover 50 = .ok (.aload_n 0, 1) := by decide +kernel
theorem dX6_cover_51 : decode cX6_cover 51 = .ok (.getfield 10, 3) := by decide +kernel
theorem dX6_cover_54 : decode cX6_cover 54 = .ok (.iconst 0, 1) := by decide +kernel
theorem dX6_cover_55 : decode cX6_cover 55 = .ok (.putfield 68, 3) := by decide +kernel
theorem dX6_cover_58 : decode cX6_cover 58 = .ok (.aload_n 0, 1) := by decide +kernel
theorem dX6_cover_59 : decode cX6_cover 59 = .ok (.dup, 1) := by decide +kernel
theorem dX6_cover_60 : decode cX6_cover 60 = .ok (.getfield 57, 3) := by decide +kernel
theorem dX6_cover_63 : decode cX6_cover 63 = .ok (.iconst 1, 1) := by decide +kernel
theorem dX6_cover_64 : decode cX6_cover 64 = .ok (.iadd, 1) := by decide +kernel
theorem dX6_cover_65 : decode cX6_cover 65 = .ok (.putfield 57, 3) := by decide +kernel
theorem dX6_cover_68 : decode cX6_cover 68 = .ok (.aload_n 0, 1) := by decide +kernel
theorem dX6_cover_69 : decode cX6_cover 69 = .ok (.getfield 57, 3) := by decide +kernel
theorem dX6_cover_72 : decode cX6_cover 72 = .ok (.iconst 1, 1) := by decide +kernel
theorem dX6_cover_73 : decode cX6_cover 73 = .ok (.isub, 1) := by decide +kernel
theorem dX6_cover_74 : decode cX6_cover 74 = .ok (.ireturn, 1) := by decide +kernel
theorem dX6_word_0 : decode cX6_word 0 = .ok (.aload_n 0, 1) := by decide +kernel
theorem dX6_word_1 : decode cX6_word 1 = .ok (.iload_n 1, 1) := by decide +kernel
theorem dX6_word_2 : decode cX6_word 2 = .ok (.invokevirtual 83, 3) := by decide +kernel
theorem dX6_word_5 : decode cX6_word 5 = .ok (.astore_n 3, 1) := by decide +kernel
theorem dX6_word_6 : decode cX6_word 6 = .ok (.aload_n 3, 1) := by decide +kernel
theorem dX6_word_7 : decode cX6_word 7 = .ok (.ifnull 13, 3) := by decide +kernel
theorem dX6_word_10 : decode cX6_word 10 = .ok (.iload_n 2, 1) := by decide +kernel
theorem dX6_word_11 : decode cX6_word 11 = .ok (.iconst 0, 1) := by decide +kernel
theorem dX6_word_12 : decode cX6_word 12 = .ok (.bipush 9, 2) := by decide +kernel
theorem dX6_word_14 : decode cX6_word 14 = .ok (.invokestatic 87, 3) := by decide +kernel
theorem dX6_word_17 : decode cX6_word 17 = .ok (.ifCond .ne 11, 3) := by decide +kernel
theorem dX6_word_20 : decode cX6_word 20 = .ok (.new 91, 3) := by decide +kernel
theorem dX6_word_23 : decode cX6_word 23 = .ok (.dup, 1) := by decide +kernel
theorem dX6_word_24 : decode cX6_word 24 = .ok (.invokespecial 93, 3) := by decide +kernel
theorem dX6_word_27 : decode cX6_word 27 = .ok (.athrow, 1) := by decide +kernel
theorem dX6_word_28 : decode cX6_word 28 = .ok (.aload_n 3, 1) := by decide +kernel
theorem dX6_word_29 : decode cX6_word 29 = .ok (.getfield 94, 3) := by decide +kernel
theorem dX6_word_32 : decode cX6_word 32 = .ok (.iload_n 2, 1) := by decide +kernel
theorem dX6_word_33 : decode cX6_word 33 = .ok (.iaload, 1) := by decide +kernel
theorem dX6_word_34 : decode cX6_word 34 = .ok (.ireturn, 1) := by decide +kernel
theorem dX6_loss_0 : decode cX6_loss 0 = .ok (.iload_n 2, 1) := by decide +kernel
theorem dX6_loss_1 : decode cX6_loss 1 = .ok (.iconst 0, 1) := by decide +kernel
theorem dX6_loss_2 : decode cX6_loss 2 = .ok (.sipush 999, 3) := by decide +kernel
theorem dX6_loss_5 : decode cX6_loss 5 = .ok (.invokestatic 87, 3) := by decide +kernel
theorem dX6_loss_8 : decode cX6_loss 8 = .ok (.ifCond .eq 26, 3) := by decide +kernel
theorem dX6_loss_11 : decode cX6_loss 11 = .ok (.iload_n 3, 1) := by decide +kernel
theorem dX6_loss_12 : decode cX6_loss 12 = .ok (.iconst 0, 1) := by decide +kernel
theorem dX6_loss_13 : decode cX6_loss 13 = .ok (.bipush 99, 2) := by decide +kernel
theorem dX6_loss_15 : decode cX6_loss 15 = .ok (.invokestatic 87, 3) := by decide +kernel
theorem dX6_loss_18 : decode cX6_loss 18 = .ok (.ifCond .eq 16, 3) := by decide +kernel
theorem dX6_loss_21 : decode cX6_loss 21 = .ok (.iload_n 2, 1) := by decide +kernel
theorem dX6_loss_22 : decode cX6_loss 22 = .ok (.iload_n 3, 1) := by decide +kernel
theorem dX6_loss_23 : decode cX6_loss 23 = .ok (.iadd, 1) := by decide +kernel
theorem dX6_loss_24 : decode cX6_loss 24 = .ok (.sipush 999, 3) := by decide +kernel
theorem dX6_loss_27 : decode cX6_loss 27 = .ok (.if_icmp .gt 7, 3) := by decide +kernel
theorem dX6_loss_30 : decode cX6_loss 30 = .ok (.iconst 1, 1) := by decide +kernel
theorem dX6_loss_31 : decode cX6_loss 31 = .ok (.goto 4, 3) := by decide +kernel
theorem dX6_loss_34 : decode cX6_loss 34 = .ok (.iconst 0, 1) := by decide +kernel
theorem dX6_loss_35 : decode cX6_loss 35 = .ok (.istore 7, 2) := by decide +kernel
theorem dX6_loss_37 : decode cX6_loss 37 = .ok (.iload 4, 2) := by decide +kernel
theorem dX6_loss_39 : decode cX6_loss 39 = .ok (.iconst 0, 1) := by decide +kernel
theorem dX6_loss_40 : decode cX6_loss 40 = .ok (.bipush 99, 2) := by decide +kernel
theorem dX6_loss_42 : decode cX6_loss 42 = .ok (.invokestatic 87, 3) := by decide +kernel
theorem dX6_loss_45 : decode cX6_loss 45 = .ok (.ifCond .eq 18, 3) := by decide +kernel
theorem dX6_loss_48 : decode cX6_loss 48 = .ok (.iload 5, 2) := by decide +kernel
theorem dX6_loss_50 : decode cX6_loss 50 = .ok (.iconst 0, 1) := by decide +kernel
theorem dX6_loss_51 : decode cX6_loss 51 = .ok (.bipush 99, 2) := by decide +kernel
theorem dX6_loss_53 : decode cX6_loss 53 = .ok (.invokestatic 87, 3) := by decide +kernel
theorem dX6_loss_56 : decode cX6_loss 56 = .ok (.ifCond .eq 7, 3) := by decide +kernel
theorem dX6_loss_59 : decode cX6_loss 59 = .ok (.iconst 1, 1) := by decide +kernel
theorem dX6_loss_60 : decode cX6_loss 60 = .ok (.goto 4, 3) := by decide +kernel
theorem dX6_loss_63 : decode cX6_loss 63 = .ok (.iconst 0, 1) := by decide +kernel
theorem dX6_loss_64 : decode cX6_loss 64 = .ok (.istore 8, 2) := by decide +kernel
theorem dX6_loss_66 : decode cX6_loss 66 = .ok (.iload 6, 2) := by decide +kernel
theorem dX6_loss_68 : decode cX6_loss 68 = .ok (.iconst 1, 1) := by decide +kernel
theorem dX6_loss_69 : decode cX6_loss 69 = .ok (.bipush 63, 2) := by decide +kernel
theorem dX6_loss_71 : decode cX6_loss 71 = .ok (.invokestatic 87, 3) := by decide +kernel
theorem dX6_loss_74 : decode cX6_loss 74 = .ok (.istore 9, 2) := by decide +kernel
theorem dX6_loss_76 : decode cX6_loss 76 = .ok (.aload_n 0, 1) := by decide +kernel
theorem dX6_loss_77 : decode cX6_loss 77 = .ok (.getfield 30, 3) := by decide +kernel
theorem dX6_loss_80 : decode cX6_loss 80 = .ok (.getfield 97, 3) := by decide +kernel
theorem dX6_loss_83 : decode cX6_loss 83 = .ok (.bipush 12, 2) := by decide +kernel
theorem dX6_loss_85 : decode cX6_loss 85 = .ok (.if_icmp .ge 28, 3) := by decide +kernel
theorem dX6_loss_88 : decode cX6_loss 88 = .ok (.iload_n 1, 1) := by decide +kernel
theorem dX6_loss_89 : decode cX6_loss 89 = .ok (.iconst 1, 1) := by decide +kernel
theorem dX6_loss_90 : decode cX6_loss 90 = .ok (.bipush 99, 2) := by decide +kernel
theorem dX6_loss_92 : decode cX6_loss 92 = .ok (.invokestatic 87, 3) := by decide +kernel
theorem dX6_loss_95 : decode cX6_loss 95 = .ok (.ifCond .eq 18, 3) := by decide +kernel
theorem dX6_loss_98 : decode cX6_loss 98 = .ok (.iload 7, 2) := by decide +kernel
theorem dX6_loss_100 : decode cX6_loss 100 = .ok (.ifCond .eq 13, 3) := by decide +kernel
theorem dX6_loss_103 : decode cX6_loss 103 = .ok (.iload 8, 2) := by decide +kernel
theorem dX6_loss_105 : decode cX6_loss 105 = .ok (.ifCond .eq 8, 3) := by decide +kernel
theorem dX6_loss_108 : decode cX6_loss 108 = .ok (.iload 9, 2) := by decide +kernel
theorem dX6_loss_110 : decode cX6_loss 110 = .ok (.ifCond .ne 5, 3) := by decide +kernel
theorem dX6_loss_113 : decode cX6_loss 113 = .ok (.iconst (-1), 1) := by decide +kernel
theorem dX6_loss_114 : decode cX6_loss 114 = .ok (.ireturn, 1) := by decide +kernel
theorem dX6_loss_115 : decode cX6_loss 115 = .ok (.aload_n 0, 1) := by decide +kernel
theorem dX6_loss_116 : decode cX6_loss 116 = .ok (.getfield 30, 3) := by decide +kernel
theorem dX6_loss_119 : decode cX6_loss 119 = .ok (.getfield 97, 3) := by decide +kernel
theorem dX6_loss_122 : decode cX6_loss 122 = .ok (.istore 10, 2) := by decide +kernel
theorem dX6_loss_124 : decode cX6_loss 124 = .ok (.aload_n 0, 1) := by decide +kernel
theorem dX6_loss_125 : decode cX6_loss 125 = .ok (.getfield 30, 3) := by decide +kernel
theorem dX6_loss_128 : decode cX6_loss 128 = .ok (.getfield 100, 3) := by decide +kernel
theorem dX6_loss_131 : decode cX6_loss 131 = .ok (.iload 10, 2) := by decide +kernel
theorem dX6_loss_133 : decode cX6_loss 133 = .ok (.iload_n 1, 1) := by decide +kernel
theorem dX6_loss_134 : decode cX6_loss 134 = .ok (.iastore, 1) := by decide +kernel
theorem dX6_loss_135 : decode cX6_loss 135 = .ok (.aload_n 0, 1) := by decide +kernel
theorem dX6_loss_136 : decode cX6_loss 136 = .ok (.getfield 30, 3) := by decide +kernel
theorem dX6_loss_139 : decode cX6_loss 139 = .ok (.getfield 103, 3) := by decide +kernel
theorem dX6_loss_142 : decode cX6_loss 142 = .ok (.iload 10, 2) := by decide +kernel
theorem dX6_loss_144 : decode cX6_loss 144 = .ok (.iload_n 2, 1) := by decide +kernel
theorem dX6_loss_145 : decode cX6_loss 145 = .ok (.iastore, 1) := by decide +kernel
theorem dX6_loss_146 : decode cX6_loss 146 = .ok (.aload_n 0, 1) := by decide +kernel
theorem dX6_loss_147 : decode cX6_loss 147 = .ok (.getfield 30, 3) := by decide +kernel
theorem dX6_loss_150 : decode cX6_loss 150 = .ok (.getfield 106, 3) := by decide +kernel
theorem dX6_loss_153 : decode cX6_loss 153 = .ok (.iload 10, 2) := by decide +kernel
theorem dX6_loss_155 : decode cX6_loss 155 = .ok (.iload_n 2, 1) := by decide +kernel
theorem dX6_loss_156 : decode cX6_loss 156 = .ok (.iload_n 3, 1) := by decide +kernel
theorem dX6_loss_157 : decode cX6_loss 157 = .ok (.iadd, 1) := by decide +kernel
theorem dX6_loss_158 : decode cX6_loss 158 = .ok (.iastore, 1) := by decide +kernel
theorem dX6_loss_159 : decode cX6_loss 159 = .ok (.aload_n 0, 1) := by decide +kernel
theorem dX6_loss_160 : decode cX6_loss 160 = .ok (.getfield 30, 3) := by decide +kernel
theorem dX6_loss_163 : decode cX6_loss 163 = .ok (.getfield 109, 3) := by decide +kernel
theorem dX6_loss_166 : decode cX6_loss 166 = .ok (.iload 10, 2) := by decide +kernel
theorem dX6_loss_168 : decode cX6_loss 168 = .ok (.iload 4, 2) := by decide +kernel
theorem dX6_loss_170 : decode cX6_loss 170 = .ok (.iastore, 1) := by decide +kernel
theorem dX6_loss_171 : decode cX6_loss 171 = .ok (.aload_n 0, 1) := by decide +kernel
theorem dX6_loss_172 : decode cX6_loss 172 = .ok (.getfield 30, 3) := by decide +kernel
theorem dX6_loss_175 : decode cX6_loss 175 = .ok (.getfield 112, 3) := by decide +kernel
theorem dX6_loss_178 : decode cX6_loss 178 = .ok (.iload 10, 2) := by decide +kernel
theorem dX6_loss_180 : decode cX6_loss 180 = .ok (.iload 5, 2) := by decide +kernel
theorem dX6_loss_182 : decode cX6_loss 182 = .ok (.iastore, 1) := by decide +kernel
theorem dX6_loss_183 : decode cX6_loss 183 = .ok (.aload_n 0, 1) := by decide +kernel
theorem dX6_loss_184 : decode cX6_loss 184 = .ok (.getfield 30, 3) := by decide +kernel
theorem dX6_loss_187 : decode cX6_loss 187 = .ok (.getfield 115, 3) := by decide +kernel
theorem dX6_loss_190 : decode cX6_loss 190 = .ok (.iload 10, 2) := by decide +kernel
theorem dX6_loss_192 : decode cX6_loss 192 = .ok (.iload 6, 2) := by decide +kernel
theorem dX6_loss_194 : decode cX6_loss 194 = .ok (.iastore, 1) := by decide +kernel
theorem dX6_loss_195 : decode cX6_loss 195 = .ok (.aload_n 0, 1) := by decide +kernel
theorem dX6_loss_196 : decode cX6_loss 196 = .ok (.getfield 30, 3) := by decide +kernel
theorem dX6_loss_199 : decode cX6_loss 199 = .ok (.iload 10, 2) := by decide +kernel
theorem dX6_loss_201 : decode cX6_loss 201 = .ok (.iconst 1, 1) := by decide +kernel
theorem dX6_loss_202 : decode cX6_loss 202 = .ok (.iadd, 1) := by decide +kernel
theorem dX6_loss_203 : decode cX6_loss 203 = .ok (.putfield 97, 3) := by decide +kernel
theorem dX6_loss_206 : decode cX6_loss 206 = .ok (.iload 10, 2) := by decide +kernel
theorem dX6_loss_208 : decode cX6_loss 208 = .ok (.ireturn, 1) := by decide +kernel
theorem dX6_may_0 : decode cX6_may 0 = .ok (.aload_n 0, 1) := by decide +kernel
theorem dX6_may_1 : decode cX6_may 1 = .ok (.iload_n 1, 1) := by decide +kernel
theorem dX6_may_2 : decode cX6_may 2 = .ok (.invokevirtual 83, 3) := by decide +kernel
theorem dX6_may_5 : decode cX6_may 5 = .ok (.astore_n 3, 1) := by decide +kernel
theorem dX6_may_6 : decode cX6_may 6 = .ok (.aload_n 3, 1) := by decide +kernel
theorem dX6_may_7 : decode cX6_may 7 = .ok (.ifnull 18, 3) := by decide +kernel
theorem dX6_may_10 : decode cX6_may 10 = .ok (.iload_n 2, 1) := by decide +kernel
theorem dX6_may_11 : decode cX6_may 11 = .ok (.ifCond .eq 14, 3) := by decide +kernel
theorem dX6_may_14 : decode cX6_may 14 = .ok (.aload_n 0, 1) := by decide +kernel
theorem dX6_may_15 : decode cX6_may 15 = .ok (.getfield 30, 3) := by decide +kernel
theorem dX6_may_18 : decode cX6_may 18 = .ok (.iload_n 2, 1) := by decide +kernel
theorem dX6_may_19 : decode cX6_may 19 = .ok (.invokevirtual 118, 3) := by decide +kernel
theorem dX6_may_22 : decode cX6_may 22 = .ok (.ifCond .ne 5, 3) := by decide +kernel
theorem dX6_may_25 : decode cX6_may 25 = .ok (.iconst (-1), 1) := by decide +kernel
theorem dX6_may_26 : decode cX6_may 26 = .ok (.ireturn, 1) := by decide +kernel
theorem dX6_may_27 : decode cX6_may 27 = .ok (.aload_n 0, 1) := by decide +kernel
theorem dX6_may_28 : decode cX6_may 28 = .ok (.getfield 30, 3) := by decide +kernel
theorem dX6_may_31 : decode cX6_may 31 = .ok (.aload_n 3, 1) := by decide +kernel
theorem dX6_may_32 : decode cX6_may 32 = .ok (.iload_n 2, 1) := by decide +kernel
theorem dX6_may_33 : decode cX6_may 33 = .ok (.invokevirtual 122, 3) := by decide +kernel
theorem dX6_may_36 : decode cX6_may 36 = .ok (.ifCond .eq 7, 3) := by decide +kernel
theorem dX6_may_39 : decode cX6_may 39 = .ok (.iconst 1, 1) := by decide +kernel
theorem dX6_may_40 : decode cX6_may 40 = .ok (.goto 4, 3) := by decide +kernel
theorem dX6_may_43 : decode cX6_may 43 = .ok (.iconst 0, 1) := by decide +kernel
theorem dX6_may_44 : decode cX6_may 44 = .ok (.ireturn, 1) := by decide +kernel
theorem dX6_paid_0 : decode cX6_paid 0 = .ok (.aload_n 0, 1) := by decide +kernel
theorem dX6_paid_1 : decode cX6_paid 1 = .ok (.iload_n 1, 1) := by decide +kernel
theorem dX6_paid_2 : decode cX6_paid 2 = .ok (.invokevirtual 83, 3) := by decide +kernel
theorem dX6_paid_5 : decode cX6_paid 5 = .ok (.astore_n 3, 1) := by decide +kernel
theorem dX6_paid_6 : decode cX6_paid 6 = .ok (.aload_n 3, 1) := by decide +kernel
theorem dX6_paid_7 : decode cX6_paid 7 = .ok (.ifnull 18, 3) := by decide +kernel
theorem dX6_paid_10 : decode cX6_paid 10 = .ok (.iload_n 2, 1) := by decide +kernel
theorem dX6_paid_11 : decode cX6_paid 11 = .ok (.ifCond .eq 14, 3) := by decide +kernel
theorem dX6_paid_14 : decode cX6_paid 14 = .ok (.aload_n 0, 1) := by decide +kernel
theorem dX6_paid_15 : decode cX6_paid 15 = .ok (.getfield 30, 3) := by decide +kernel
theorem dX6_paid_18 : decode cX6_paid 18 = .ok (.iload_n 2, 1) := by decide +kernel
theorem dX6_paid_19 : decode cX6_paid 19 = .ok (.invokevirtual 118, 3) := by decide +kernel
theorem dX6_paid_22 : decode cX6_paid 22 = .ok (.ifCond .ne 5, 3) := by decide +kernel
theorem dX6_paid_25 : decode cX6_paid 25 = .ok (.iconst (-1), 1) := by decide +kernel
theorem dX6_paid_26 : decode cX6_paid 26 = .ok (.ireturn, 1) := by decide +kernel
theorem dX6_paid_27 : decode cX6_paid 27 = .ok (.aload_n 3, 1) := by decide +kernel
theorem dX6_paid_28 : decode cX6_paid 28 = .ok (.aload_n 0, 1) := by decide +kernel
theorem dX6_paid_29 : decode cX6_paid 29 = .ok (.getfield 30, 3) := by decide +kernel
theorem dX6_paid_32 : decode cX6_paid 32 = .ok (.iload_n 2, 1) := by decide +kernel
theorem dX6_paid_33 : decode cX6_paid 33 = .ok (.invokevirtual 126, 3) := by decide +kernel
theorem dX6_paid_36 : decode cX6_paid 36 = .ok (.invokevirtual 129, 3) := by decide +kernel
theorem dX6_paid_39 : decode cX6_paid 39 = .ok (.ireturn, 1) := by decide +kernel
theorem dX6_put_0 : decode cX6_put 0 = .ok (.aload_n 0, 1) := by decide +kernel
theorem dX6_put_1 : decode cX6_put 1 = .ok (.getfield 30, 3) := by decide +kernel
theorem dX6_put_4 : decode cX6_put 4 = .ok (.iload_n 1, 1) := by decide +kernel
theorem dX6_put_5 : decode cX6_put 5 = .ok (.invokevirtual 132, 3) := by decide +kernel
theorem dX6_put_8 : decode cX6_put 8 = .ok (.ifCond .eq 13, 3) := by decide +kernel
theorem dX6_put_11 : decode cX6_put 11 = .ok (.iload_n 2, 1) := by decide +kernel
theorem dX6_put_12 : decode cX6_put 12 = .ok (.iconst 0, 1) := by decide +kernel
theorem dX6_put_13 : decode cX6_put 13 = .ok (.bipush 15, 2) := by decide +kernel
theorem dX6_put_15 : decode cX6_put 15 = .ok (.invokestatic 87, 3) := by decide +kernel
theorem dX6_put_18 : decode cX6_put 18 = .ok (.ifCond .ne 5, 3) := by decide +kernel
theorem dX6_put_21 : decode cX6_put 21 = .ok (.iconst 0, 1) := by decide +kernel
theorem dX6_put_22 : decode cX6_put 22 = .ok (.ireturn, 1) := by decide +kernel
theorem dX6_put_23 : decode cX6_put 23 = .ok (.aload_n 0, 1) := by decide +kernel
theorem dX6_put_24 : decode cX6_put 24 = .ok (.getfield 39, 3) := by decide +kernel
theorem dX6_put_27 : decode cX6_put 27 = .ok (.getfield 135, 3) := by decide +kernel
theorem dX6_put_30 : decode cX6_put 30 = .ok (.iload_n 1, 1) := by decide +kernel
theorem dX6_put_31 : decode cX6_put 31 = .ok (.iload_n 2, 1) := by decide +kernel
theorem dX6_put_32 : decode cX6_put 32 = .ok (.iastore, 1) := by decide +kernel
theorem dX6_put_33 : decode cX6_put 33 = .ok (.iconst 1, 1) := by decide +kernel
theorem dX6_put_34 : decode cX6_put 34 = .ok (.ireturn, 1) := by decide +kernel
theorem dX6_judge_0 : decode cX6_judge 0 = .ok (.aload_n 0, 1) := by decide +kernel
theorem dX6_judge_1 : decode cX6_judge 1 = .ok (.iload_n 1, 1) := by decide +kernel
theorem dX6_judge_2 : decode cX6_judge 2 = .ok (.invokevirtual 83, 3) := by decide +kernel
theorem dX6_judge_5 : decode cX6_judge 5 = .ok (.astore_n 2, 1) := by decide +kernel
theorem dX6_judge_6 : decode cX6_judge 6 = .ok (.aload_n 2, 1) := by decide +kernel
theorem dX6_judge_7 : decode cX6_judge 7 = .ok (.ifnonnull 7, 3) := by decide +kernel
theorem dX6_judge_10 : decode cX6_judge 10 = .ok (.iconst (-1), 1) := by decide +kernel
theorem dX6_judge_11 : decode cX6_judge 11 = .ok (.goto 11, 3) := by decide +kernel
theorem dX6_judge_14 : decode cX6_judge 14 = .ok (.aload_n 0, 1) := by decide +kernel
theorem dX6_judge_15 : decode cX6_judge 15 = .ok (.getfield 39, 3) := by decide +kernel
theorem dX6_judge_18 : decode cX6_judge 18 = .ok (.aload_n 2, 1) := by decide +kernel
theorem dX6_judge_19 : decode cX6_judge 19 = .ok (.invokevirtual 138, 3) := by decide +kernel
theorem dX6_judge_22 : decode cX6_judge 22 = .ok (.ireturn, 1) := by decide +kernel
theorem dX6_brings_0 : decode cX6_brings 0 = .ok (.aload_n 0, 1) := by decide +kernel
theorem dX6_brings_1 : decode cX6_brings 1 = .ok (.iload_n 1, 1) := by decide +kernel
theorem dX6_brings_2 : decode cX6_brings 2 = .ok (.invokevirtual 83, 3) := by decide +kernel
theorem dX6_brings_5 : decode cX6_brings 5 = .ok (.astore_n 3, 1) := by decide +kernel
theorem dX6_brings_6 : decode cX6_brings 6 = .ok (.aload_n 3, 1) := by decide +kernel
theorem dX6_brings_7 : decode cX6_brings 7 = .ok (.ifnull 24, 3) := by decide +kernel
theorem dX6_brings_10 : decode cX6_brings 10 = .ok (.iload_n 2, 1) := by decide +kernel
theorem dX6_brings_11 : decode cX6_brings 11 = .ok (.iconst 0, 1) := by decide +kernel
theorem dX6_brings_12 : decode cX6_brings 12 = .ok (.iconst 3, 1) := by decide +kernel
theorem dX6_brings_13 : decode cX6_brings 13 = .ok (.invokestatic 87, 3) := by decide +kernel
theorem dX6_brings_16 : decode cX6_brings 16 = .ok (.ifCond .eq 15, 3) := by decide +kernel
theorem dX6_brings_19 : decode cX6_brings 19 = .ok (.aload_n 0, 1) := by decide +kernel
theorem dX6_brings_20 : decode cX6_brings 20 = .ok (.getfield 39, 3) := by decide +kernel
theorem dX6_brings_23 : decode cX6_brings 23 = .ok (.aload_n 3, 1) := by decide +kernel
theorem dX6_brings_24 : decode cX6_brings 24 = .ok (.invokevirtual 138, 3) := by decide +kernel
theorem dX6_brings_27 : decode cX6_brings 27 = .ok (.iconst (-1), 1) := by decide +kernel
theorem dX6_brings_28 : decode cX6_brings 28 = .ok (.if_icmp .eq 6, 3) := by decide +kernel
theorem dX6_brings_31 : decode cX6_brings 31 = .ok (.ldc 141, 2) := by decide +kernel
theorem dX6_brings_33 : decode cX6_brings 33 = .ok (.ireturn, 1) := by decide +kernel
theorem dX6_brings_34 : decode cX6_brings 34 = .ok (.aload_n 0, 1) := by decide +kernel
theorem dX6_brings_35 : decode cX6_brings 35 = .ok (.getfield 39, 3) := by decide +kernel
theorem dX6_brings_38 : decode cX6_brings 38 = .ok (.aload_n 3, 1) := by decide +kernel
theorem dX6_brings_39 : decode cX6_brings 39 = .ok (.invokevirtual 142, 3) := by decide +kernel
theorem dX6_brings_42 : decode cX6_brings 42 = .ok (.iload_n 2, 1) := by decide +kernel
theorem dX6_brings_43 : decode cX6_brings 43 = .ok (.iconst 2, 1) := by decide +kernel
theorem dX6_brings_44 : decode cX6_brings 44 = .ok (.if_icmp .ne 11, 3) := by decide +kernel
theorem dX6_brings_47 : decode cX6_brings 47 = .ok (.aload_n 0, 1) := by decide +kernel
theorem dX6_brings_48 : decode cX6_brings 48 = .ok (.getfield 39, 3) := by decide +kernel
theorem dX6_brings_51 : decode cX6_brings 51 = .ok (.getfield 145, 3) := by decide +kernel
theorem dX6_brings_54 : decode cX6_brings 54 = .ok (.ireturn, 1) := by decide +kernel
theorem dX6_brings_55 : decode cX6_brings 55 = .ok (.iload_n 2, 1) := by decide +kernel
theorem dX6_brings_56 : decode cX6_brings 56 = .ok (.iconst 3, 1) := by decide +kernel
theorem dX6_brings_57 : decode cX6_brings 57 = .ok (.if_icmp .ne 11, 3) := by decide +kernel
theorem dX6_brings_60 : decode cX6_brings 60 = .ok (.aload_n 0, 1) := by decide +kernel
theorem dX6_brings_61 : decode cX6_brings 61 = .ok (.getfield 39, 3) := by decide +kernel
theorem dX6_brings_64 : decode cX6_brings 64 = .ok (.getfield 148, 3) := by decide +kernel
theorem dX6_brings_67 : decode cX6_brings 67 = .ok (.ireturn, 1) := by decide +kernel
theorem dX6_brings_68 : decode cX6_brings 68 = .ok (.aload_n 3, 1) := by decide +kernel
theorem dX6_brings_69 : decode cX6_brings 69 = .ok (.aload_n 0, 1) := by decide +kernel
theorem dX6_brings_70 : decode cX6_brings 70 = .ok (.getfield 39, 3) := by decide +kernel
theorem dX6_brings_73 : decode cX6_brings 73 = .ok (.getfield 151, 3) := by decide +kernel
theorem dX6_brings_76 : decode cX6_brings 76 = .ok (.invokevirtual 154, 3) := by decide +kernel
theorem dX6_brings_79 : decode cX6_brings 79 = .ok (.istore 4, 2) := by decide +kernel
theorem dX6_brings_81 : decode cX6_brings 81 = .ok (.iload_n 2, 1) := by decide +kernel
theorem dX6_brings_82 : decode cX6_brings 82 = .ok (.ifCond .ne 8, 3) := by decide +kernel
theorem dX6_brings_85 : decode cX6_brings 85 = .ok (.iload 4, 2) := by decide +kernel
theorem dX6_brings_87 : decode cX6_brings 87 = .ok (.goto 9, 3) := by decide +kernel
theorem dX6_brings_90 : decode cX6_brings 90 = .ok (.aload_n 3, 1) := by decide +kernel
theorem dX6_brings_91 : decode cX6_brings 91 = .ok (.iload 4, 2) := by decide +kernel
theorem dX6_brings_93 : decode cX6_brings 93 = .ok (.invokevirtual 157, 3) := by decide +kernel
theorem dX6_brings_96 : decode cX6_brings 96 = .ok (.ireturn, 1) := by decide +kernel
theorem dX6_year_0 : decode cX6_year 0 = .ok (.aload_n 0, 1) := by decide +kernel
theorem dX6_year_1 : decode cX6_year 1 = .ok (.getfield 30, 3) := by decide +kernel
theorem dX6_year_4 : decode cX6_year 4 = .ok (.iload_n 1, 1) := by decide +kernel
theorem dX6_year_5 : decode cX6_year 5 = .ok (.invokevirtual 132, 3) := by decide +kernel
theorem dX6_year_8 : decode cX6_year 8 = .ok (.ifCond .eq 14, 3) := by decide +kernel
theorem dX6_year_11 : decode cX6_year 11 = .ok (.iload_n 2, 1) := by decide +kernel
theorem dX6_year_12 : decode cX6_year 12 = .ok (.iconst 0, 1) := by decide +kernel
theorem dX6_year_13 : decode cX6_year 13 = .ok (.sipush 999, 3) := by decide +kernel
theorem dX6_year_16 : decode cX6_year 16 = .ok (.invokestatic 87, 3) := by decide +kernel
theorem dX6_year_19 : decode cX6_year 19 = .ok (.ifCond .ne 5, 3) := by decide +kernel
theorem dX6_year_22 : decode cX6_year 22 = .ok (.iconst (-1), 1) := by decide +kernel
theorem dX6_year_23 : decode cX6_year 23 = .ok (.ireturn, 1) := by decide +kernel
theorem dX6_year_24 : decode cX6_year 24 = .ok (.aload_n 0, 1) := by decide +kernel
theorem dX6_year_25 : decode cX6_year 25 = .ok (.getfield 39, 3) := by decide +kernel
theorem dX6_year_28 : decode cX6_year 28 = .ok (.iload_n 1, 1) := by decide +kernel
theorem dX6_year_29 : decode cX6_year 29 = .ok (.invokevirtual 160, 3) := by decide +kernel
theorem dX6_year_32 : decode cX6_year 32 = .ok (.istore 4, 2) := by decide +kernel
theorem dX6_year_34 : decode cX6_year 34 = .ok (.iload_n 3, 1) := by decide +kernel
theorem dX6_year_35 : decode cX6_year 35 = .ok (.ifCond .ne 22, 3) := by decide +kernel
theorem dX6_year_38 : decode cX6_year 38 = .ok (.aload_n 0, 1) := by decide +kernel
theorem dX6_year_39 : decode cX6_year 39 = .ok (.getfield 30, 3) := by decide +kernel
theorem dX6_year_42 : decode cX6_year 42 = .ok (.iload 4, 2) := by decide +kernel
theorem dX6_year_44 : decode cX6_year 44 = .ok (.invokevirtual 163, 3) := by decide +kernel
theorem dX6_year_47 : decode cX6_year 47 = .ok (.iload_n 2, 1) := by decide +kernel
theorem dX6_year_48 : decode cX6_year 48 = .ok (.if_icmp .ge 7, 3) := by decide +kernel
theorem dX6_year_51 : decode cX6_year 51 = .ok (.iconst 0, 1) := by decide +kernel
theorem dX6_year_52 : decode cX6_year 52 = .ok (.goto 4, 3) := by decide +kernel
theorem dX6_year_55 : decode cX6_year 55 = .ok (.iconst 1, 1) := by decide +kernel
theorem dX6_year_56 : decode cX6_year 56 = .ok (.ireturn, 1) := by decide +kernel
theorem dX6_year_57 : decode cX6_year 57 = .ok (.aload_n 0, 1) := by decide +kernel
theorem dX6_year_58 : decode cX6_year 58 = .ok (.getfield 30, 3) := by decide +kernel
theorem dX6_year_61 : decode cX6_year 61 = .ok (.iload 4, 2) := by decide +kernel
theorem dX6_year_63 : decode cX6_year 63 = .ok (.iload_n 2, 1) := by decide +kernel
theorem dX6_year_64 : decode cX6_year 64 = .ok (.invokevirtual 166, 3) := by decide +kernel
theorem dX6_year_67 : decode cX6_year 67 = .ok (.istore 5, 2) := by decide +kernel
theorem dX6_year_69 : decode cX6_year 69 = .ok (.iload 5, 2) := by decide +kernel
theorem dX6_year_71 : decode cX6_year 71 = .ok (.aload_n 0, 1) := by decide +kernel
theorem dX6_year_72 : decode cX6_year 72 = .ok (.getfield 30, 3) := by decide +kernel
theorem dX6_year_75 : decode cX6_year 75 = .ok (.iload 4, 2) := by decide +kernel
theorem dX6_year_77 : decode cX6_year 77 = .ok (.invokevirtual 126, 3) := by decide +kernel
theorem dX6_year_80 : decode cX6_year 80 = .ok (.iload 5, 2) := by decide +kernel
theorem dX6_year_82 : decode cX6_year 82 = .ok (.isub, 1) := by decide +kernel
theorem dX6_year_83 : decode cX6_year 83 = .ok (.if_icmp .lt 7, 3) := by decide +kernel
theorem dX6_year_86 : decode cX6_year 86 = .ok (.iconst 0, 1) := by decide +kernel
theorem dX6_year_87 : decode cX6_year 87 = .ok (.goto 4, 3) := by decide +kernel
theorem dX6_year_90 : decode cX6_year 90 = .ok (.iconst 1, 1) := by decide +kernel
theorem dX6_year_91 : decode cX6_year 91 = .ok (.ireturn, 1) := by decide +kernel
theorem dX6_most_0 : decode cX6_most 0 = .ok (.aload_n 0, 1) := by decide +kernel
theorem dX6_most_1 : decode cX6_most 1 = .ok (.iload_n 1, 1) := by decide +kernel
theorem dX6_most_2 : decode cX6_most 2 = .ok (.invokevirtual 83, 3) := by decide +kernel
theorem dX6_most_5 : decode cX6_most 5 = .ok (.astore 4, 2) := by decide +kernel
theorem dX6_most_7 : decode cX6_most 7 = .ok (.aload 4, 2) := by decide +kernel
theorem dX6_most_9 : decode cX6_most 9 = .ok (.ifnull 25, 3) := by decide +kernel
theorem dX6_most_12 : decode cX6_most 12 = .ok (.iload_n 3, 1) := by decide +kernel
theorem dX6_most_13 : decode cX6_most 13 = .ok (.iconst 0, 1) := by decide +kernel
theorem dX6_most_14 : decode cX6_most 14 = .ok (.iconst 3, 1) := by decide +kernel
theorem dX6_most_15 : decode cX6_most 15 = .ok (.invokestatic 87, 3) := by decide +kernel
theorem dX6_most_18 : decode cX6_most 18 = .ok (.ifCond .eq 16, 3) := by decide +kernel
theorem dX6_most_21 : decode cX6_most 21 = .ok (.aload_n 0, 1) := by decide +kernel
theorem dX6_most_22 : decode cX6_most 22 = .ok (.getfield 46, 3) := by decide +kernel
theorem dX6_most_25 : decode cX6_most 25 = .ok (.aload 4, 2) := by decide +kernel
theorem dX6_most_27 : decode cX6_most 27 = .ok (.iload_n 2, 1) := by decide +kernel
theorem dX6_most_28 : decode cX6_most 28 = .ok (.invokevirtual 170, 3) := by decide +kernel
theorem dX6_most_31 : decode cX6_most 31 = .ok (.ifCond .ne 6, 3) := by decide +kernel
theorem dX6_most_34 : decode cX6_most 34 = .ok (.ldc 141, 2) := by decide +kernel
theorem dX6_most_36 : decode cX6_most 36 = .ok (.ireturn, 1) := by decide +kernel
theorem dX6_most_37 : decode cX6_most 37 = .ok (.iload_n 3, 1) := by decide +kernel
theorem dX6_most_38 : decode cX6_most 38 = .ok (.ifCond .ne 11, 3) := by decide +kernel
theorem dX6_most_41 : decode cX6_most 41 = .ok (.aload_n 0, 1) := by decide +kernel
theorem dX6_most_42 : decode cX6_most 42 = .ok (.getfield 46, 3) := by decide +kernel
theorem dX6_most_45 : decode cX6_most 45 = .ok (.getfield 173, 3) := by decide +kernel
theorem dX6_most_48 : decode cX6_most 48 = .ok (.ireturn, 1) := by decide +kernel
theorem dX6_most_49 : decode cX6_most 49 = .ok (.iload_n 3, 1) := by decide +kernel
theorem dX6_most_50 : decode cX6_most 50 = .ok (.iconst 1, 1) := by decide +kernel
theorem dX6_most_51 : decode cX6_most 51 = .ok (.if_icmp .ne 11, 3) := by decide +kernel
theorem dX6_most_54 : decode cX6_most 54 = .ok (.aload_n 0, 1) := by decide +kernel
theorem dX6_most_55 : decode cX6_most 55 = .ok (.getfield 46, 3) := by decide +kernel
theorem dX6_most_58 : decode cX6_most 58 = .ok (.getfield 176, 3) := by decide +kernel
theorem dX6_most_61 : decode cX6_most 61 = .ok (.ireturn, 1) := by decide +kernel
theorem dX6_most_62 : decode cX6_most 62 = .ok (.iload_n 3, 1) := by decide +kernel
theorem dX6_most_63 : decode cX6_most 63 = .ok (.iconst 2, 1) := by decide +kernel
theorem dX6_most_64 : decode cX6_most 64 = .ok (.if_icmp .ne 13, 3) := by decide +kernel
theorem dX6_most_67 : decode cX6_most 67 = .ok (.aload_n 0, 1) := by decide +kernel
theorem dX6_most_68 : decode cX6_most 68 = .ok (.getfield 46, 3) := by decide +kernel
theorem dX6_most_71 : decode cX6_most 71 = .ok (.getfield 179, 3) := by decide +kernel
theorem dX6_most_74 : decode cX6_most 74 = .ok (.goto 10, 3) := by decide +kernel
theorem dX6_most_77 : decode cX6_most 77 = .ok (.aload_n 0, 1) := by decide +kernel
theorem dX6_most_78 : decode cX6_most 78 = .ok (.getfield 46, 3) := by decide +kernel
theorem dX6_most_81 : decode cX6_most 81 = .ok (.getfield 182, 3) := by decide +kernel
theorem dX6_most_84 : decode cX6_most 84 = .ok (.ireturn, 1) := by decide +kernel
theorem dX6_net_0 : decode cX6_net 0 = .ok (.aload_n 0, 1) := by decide +kernel
theorem dX6_net_1 : decode cX6_net 1 = .ok (.iload_n 1, 1) := by decide +kernel
theorem dX6_net_2 : decode cX6_net 2 = .ok (.invokevirtual 83, 3) := by decide +kernel
theorem dX6_net_5 : decode cX6_net 5 = .ok (.astore 4, 2) := by decide +kernel
theorem dX6_net_7 : decode cX6_net 7 = .ok (.aload 4, 2) := by decide +kernel
theorem dX6_net_9 : decode cX6_net 9 = .ok (.ifnull 25, 3) := by decide +kernel
theorem dX6_net_12 : decode cX6_net 12 = .ok (.iload_n 3, 1) := by decide +kernel
theorem dX6_net_13 : decode cX6_net 13 = .ok (.iconst 0, 1) := by decide +kernel
theorem dX6_net_14 : decode cX6_net 14 = .ok (.iconst 1, 1) := by decide +kernel
theorem dX6_net_15 : decode cX6_net 15 = .ok (.invokestatic 87, 3) := by decide +kernel
theorem dX6_net_18 : decode cX6_net 18 = .ok (.ifCond .eq 16, 3) := by decide +kernel
theorem dX6_net_21 : decode cX6_net 21 = .ok (.aload_n 0, 1) := by decide +kernel
theorem dX6_net_22 : decode cX6_net 22 = .ok (.getfield 46, 3) := by decide +kernel
theorem dX6_net_25 : decode cX6_net 25 = .ok (.aload 4, 2) := by decide +kernel
theorem dX6_net_27 : decode cX6_net 27 = .ok (.iload_n 2, 1) := by decide +kernel
theorem dX6_net_28 : decode cX6_net 28 = .ok (.invokevirtual 170, 3) := by decide +kernel
theorem dX6_net_31 : decode cX6_net 31 = .ok (.ifCond .ne 6, 3) := by decide +kernel
theorem dX6_net_34 : decode cX6_net 34 = .ok (.ldc 141, 2) := by decide +kernel
theorem dX6_net_36 : decode cX6_net 36 = .ok (.ireturn, 1) := by decide +kernel
theorem dX6_net_37 : decode cX6_net 37 = .ok (.aload 4, 2) := by decide +kernel
theorem dX6_net_39 : decode cX6_net 39 = .ok (.aload_n 0, 1) := by decide +kernel
theorem dX6_net_40 : decode cX6_net 40 = .ok (.getfield 46, 3) := by decide +kernel
theorem dX6_net_43 : decode cX6_net 43 = .ok (.getfield 173, 3) := by decide +kernel
theorem dX6_net_46 : decode cX6_net 46 = .ok (.invokevirtual 157, 3) := by decide +kernel
theorem dX6_net_49 : decode cX6_net 49 = .ok (.istore 5, 2) := by decide +kernel
theorem dX6_net_51 : decode cX6_net 51 = .ok (.aload 4, 2) := by decide +kernel
theorem dX6_net_53 : decode cX6_net 53 = .ok (.aload_n 0, 1) := by decide +kernel
theorem dX6_net_54 : decode cX6_net 54 = .ok (.getfield 46, 3) := by decide +kernel
theorem dX6_net_57 : decode cX6_net 57 = .ok (.getfield 176, 3) := by decide +kernel
theorem dX6_net_60 : decode cX6_net 60 = .ok (.invokevirtual 157, 3) := by decide +kernel
theorem dX6_net_63 : decode cX6_net 63 = .ok (.istore 6, 2) := by decide +kernel
theorem dX6_net_65 : decode cX6_net 65 = .ok (.iload 6, 2) := by decide +kernel
theorem dX6_net_67 : decode cX6_net 67 = .ok (.iload 5, 2) := by decide +kernel
theorem dX6_net_69 : decode cX6_net 69 = .ok (.if_icmp .le 20, 3) := by decide +kernel
theorem dX6_net_72 : decode cX6_net 72 = .ok (.iload_n 3, 1) := by decide +kernel
theorem dX6_net_73 : decode cX6_net 73 = .ok (.ifCond .ne 8, 3) := by decide +kernel
theorem dX6_net_76 : decode cX6_net 76 = .ok (.iload 6, 2) := by decide +kernel
theorem dX6_net_78 : decode cX6_net 78 = .ok (.goto 10, 3) := by decide +kernel
theorem dX6_net_81 : decode cX6_net 81 = .ok (.aload_n 0, 1) := by decide +kernel
theorem dX6_net_82 : decode cX6_net 82 = .ok (.getfield 46, 3) := by decide +kernel
theorem dX6_net_85 : decode cX6_net 85 = .ok (.getfield 176, 3) := by decide +kernel
theorem dX6_net_88 : decode cX6_net 88 = .ok (.ireturn, 1) := by decide +kernel
theorem dX6_net_89 : decode cX6_net 89 = .ok (.iload_n 3, 1) := by decide +kernel
theorem dX6_net_90 : decode cX6_net 90 = .ok (.ifCond .ne 8, 3) := by decide +kernel
theorem dX6_net_93 : decode cX6_net 93 = .ok (.iload 5, 2) := by decide +kernel
theorem dX6_net_95 : decode cX6_net 95 = .ok (.goto 10, 3) := by decide +kernel
theorem dX6_net_98 : decode cX6_net 98 = .ok (.aload_n 0, 1) := by decide +kernel
theorem dX6_net_99 : decode cX6_net 99 = .ok (.getfield 46, 3) := by decide +kernel
theorem dX6_net_102 : decode cX6_net 102 = .ok (.getfield 173, 3) := by decide +kernel
theorem dX6_net_105 : decode cX6_net 105 = .ok (.ireturn, 1) := by decide +kernel
theorem dX6_ends_0 : decode cX6_ends 0 = .ok (.aload_n 0, 1) := by decide +kernel
theorem dX6_ends_1 : decode cX6_ends 1 = .ok (.iload_n 1, 1) := by decide +kernel
theorem dX6_ends_2 : decode cX6_ends 2 = .ok (.invokevirtual 83, 3) := by decide +kernel
theorem dX6_ends_5 : decode cX6_ends 5 = .ok (.astore 4, 2) := by decide +kernel
theorem dX6_ends_7 : decode cX6_ends 7 = .ok (.aload 4, 2) := by decide +kernel
theorem dX6_ends_9 : decode cX6_ends 9 = .ok (.ifnull 23, 3) := by decide +kernel
theorem dX6_ends_12 : decode cX6_ends 12 = .ok (.aload_n 0, 1) := by decide +kernel
theorem dX6_ends_13 : decode cX6_ends 13 = .ok (.getfield 30, 3) := by decide +kernel
theorem dX6_ends_16 : decode cX6_ends 16 = .ok (.iload_n 2, 1) := by decide +kernel
theorem dX6_ends_17 : decode cX6_ends 17 = .ok (.invokevirtual 132, 3) := by decide +kernel
theorem dX6_ends_20 : decode cX6_ends 20 = .ok (.ifCond .eq 12, 3) := by decide +kernel
theorem dX6_ends_23 : decode cX6_ends 23 = .ok (.iload_n 3, 1) := by decide +kernel
theorem dX6_ends_24 : decode cX6_ends 24 = .ok (.iconst 0, 1) := by decide +kernel
theorem dX6_ends_25 : decode cX6_ends 25 = .ok (.iconst 1, 1) := by decide +kernel
theorem dX6_ends_26 : decode cX6_ends 26 = .ok (.invokestatic 87, 3) := by decide +kernel
theorem dX6_ends_29 : decode cX6_ends 29 = .ok (.ifCond .ne 6, 3) := by decide +kernel
theorem dX6_ends_32 : decode cX6_ends 32 = .ok (.ldc 141, 2) := by decide +kernel
theorem dX6_ends_34 : decode cX6_ends 34 = .ok (.ireturn, 1) := by decide +kernel
theorem dX6_ends_35 : decode cX6_ends 35 = .ok (.aload_n 0, 1) := by decide +kernel
theorem dX6_ends_36 : decode cX6_ends 36 = .ok (.getfield 30, 3) := by decide +kernel
theorem dX6_ends_39 : decode cX6_ends 39 = .ok (.getfield 103, 3) := by decide +kernel
theorem dX6_ends_42 : decode cX6_ends 42 = .ok (.iload_n 2, 1) := by decide +kernel
theorem dX6_ends_43 : decode cX6_ends 43 = .ok (.iaload, 1) := by decide +kernel
theorem dX6_ends_44 : decode cX6_ends 44 = .ok (.istore 5, 2) := by decide +kernel
theorem dX6_ends_46 : decode cX6_ends 46 = .ok (.aload_n 0, 1) := by decide +kernel
theorem dX6_ends_47 : decode cX6_ends 47 = .ok (.getfield 30, 3) := by decide +kernel
theorem dX6_ends_50 : decode cX6_ends 50 = .ok (.getfield 106, 3) := by decide +kernel
theorem dX6_ends_53 : decode cX6_ends 53 = .ok (.iload_n 2, 1) := by decide +kernel
theorem dX6_ends_54 : decode cX6_ends 54 = .ok (.iaload, 1) := by decide +kernel
theorem dX6_ends_55 : decode cX6_ends 55 = .ok (.istore 6, 2) := by decide +kernel
theorem dX6_ends_57 : decode cX6_ends 57 = .ok (.ldc 141, 2) := by decide +kernel
theorem dX6_ends_59 : decode cX6_ends 59 = .ok (.istore 7, 2) := by decide +kernel
theorem dX6_ends_61 : decode cX6_ends 61 = .ok (.iload 5, 2) := by decide +kernel
theorem dX6_ends_63 : decode cX6_ends 63 = .ok (.istore 8, 2) := by decide +kernel
theorem dX6_ends_65 : decode cX6_ends 65 = .ok (.iload 8, 2) := by decide +kernel
theorem dX6_ends_67 : decode cX6_ends 67 = .ok (.iload 6, 2) := by decide +kernel
theorem dX6_ends_69 : decode cX6_ends 69 = .ok (.if_icmp .gt 116, 3) := by decide +kernel
theorem dX6_ends_72 : decode cX6_ends 72 = .ok (.iload 8, 2) := by decide +kernel
theorem dX6_ends_74 : decode cX6_ends 74 = .ok (.iload 5, 2) := by decide +kernel
theorem dX6_ends_76 : decode cX6_ends 76 = .ok (.if_icmp .le 21, 3) := by decide +kernel
theorem dX6_ends_79 : decode cX6_ends 79 = .ok (.aload_n 0, 1) := by decide +kernel
theorem dX6_ends_80 : decode cX6_ends 80 = .ok (.getfield 30, 3) := by decide +kernel
theorem dX6_ends_83 : decode cX6_ends 83 = .ok (.iload 8, 2) := by decide +kernel
theorem dX6_ends_85 : decode cX6_ends 85 = .ok (.iload_n 2, 1) := by decide +kernel
theorem dX6_ends_86 : decode cX6_ends 86 = .ok (.aload 4, 2) := by decide +kernel
theorem dX6_ends_88 : decode cX6_ends 88 = .ok (.invokevirtual 185, 3) := by decide +kernel
theorem dX6_ends_91 : decode cX6_ends 91 = .ok (.ifCond .ne 6, 3) := by decide +kernel
theorem dX6_ends_94 : decode cX6_ends 94 = .ok (.goto 85, 3) := by decide +kernel
theorem dX6_ends_97 : decode cX6_ends 97 = .ok (.aload_n 0, 1) := by decide +kernel
theorem dX6_ends_98 : decode cX6_ends 98 = .ok (.getfield 30, 3) := by decide +kernel
theorem dX6_ends_101 : decode cX6_ends 101 = .ok (.getfield 103, 3) := by decide +kernel
theorem dX6_ends_104 : decode cX6_ends 104 = .ok (.iload_n 2, 1) := by decide +kernel
theorem dX6_ends_105 : decode cX6_ends 105 = .ok (.iload 8, 2) := by decide +kernel
theorem dX6_ends_107 : decode cX6_ends 107 = .ok (.iastore, 1) := by decide +kernel
theorem dX6_ends_108 : decode cX6_ends 108 = .ok (.aload_n 0, 1) := by decide +kernel
theorem dX6_ends_109 : decode cX6_ends 109 = .ok (.aload 4, 2) := by decide +kernel
theorem dX6_ends_111 : decode cX6_ends 111 = .ok (.aload_n 0, 1) := by decide +kernel
theorem dX6_ends_112 : decode cX6_ends 112 = .ok (.getfield 30, 3) := by decide +kernel
theorem dX6_ends_115 : decode cX6_ends 115 = .ok (.invokevirtual 189, 3) := by decide +kernel
theorem dX6_ends_118 : decode cX6_ends 118 = .ok (.invokevirtual 193, 3) := by decide +kernel
theorem dX6_ends_121 : decode cX6_ends 121 = .ok (.istore 9, 2) := by decide +kernel
theorem dX6_ends_123 : decode cX6_ends 123 = .ok (.iload_n 3, 1) := by decide +kernel
theorem dX6_ends_124 : decode cX6_ends 124 = .ok (.ifCond .ne 18, 3) := by decide +kernel
theorem dX6_ends_127 : decode cX6_ends 127 = .ok (.iload 9, 2) := by decide +kernel
theorem dX6_ends_129 : decode cX6_ends 129 = .ok (.iload 7, 2) := by decide +kernel
theorem dX6_ends_131 : decode cX6_ends 131 = .ok (.if_icmp .ge 7, 3) := by decide +kernel
theorem dX6_ends_134 : decode cX6_ends 134 = .ok (.iconst 1, 1) := by decide +kernel
theorem dX6_ends_135 : decode cX6_ends 135 = .ok (.goto 19, 3) := by decide +kernel
theorem dX6_ends_138 : decode cX6_ends 138 = .ok (.iconst 0, 1) := by decide +kernel
theorem dX6_ends_139 : decode cX6_ends 139 = .ok (.goto 15, 3) := by decide +kernel
theorem dX6_ends_142 : decode cX6_ends 142 = .ok (.iload 9, 2) := by decide +kernel
theorem dX6_ends_144 : decode cX6_ends 144 = .ok (.iload 7, 2) := by decide +kernel
theorem dX6_ends_146 : decode cX6_ends 146 = .ok (.if_icmp .le 7, 3) := by decide +kernel
theorem dX6_ends_149 : decode cX6_ends 149 = .ok (.iconst 1, 1) := by decide +kernel
theorem dX6_ends_150 : decode cX6_ends 150 = .ok (.goto 4, 3) := by decide +kernel
theorem dX6_ends_153 : decode cX6_ends 153 = .ok (.iconst 0, 1) := by decide +kernel
theorem dX6_ends_154 : decode cX6_ends 154 = .ok (.istore 10, 2) := by decide +kernel
theorem dX6_ends_156 : decode cX6_ends 156 = .ok (.iload 9, 2) := by decide +kernel
theorem dX6_ends_158 : decode cX6_ends 158 = .ok (.ldc 141, 2) := by decide +kernel
theorem dX6_ends_160 : decode cX6_ends 160 = .ok (.if_icmp .eq 19, 3) := by decide +kernel
theorem dX6_ends_163 : decode cX6_ends 163 = .ok (.iload 7, 2) := by decide +kernel
theorem dX6_ends_165 : decode cX6_ends 165 = .ok (.ldc 141, 2) := by decide +kernel
theorem dX6_ends_167 : decode cX6_ends 167 = .ok (.if_icmp .eq 8, 3) := by decide +kernel
theorem dX6_ends_170 : decode cX6_ends 170 = .ok (.iload 10, 2) := by decide +kernel
theorem dX6_ends_172 : decode cX6_ends 172 = .ok (.ifCond .eq 7, 3) := by decide +kernel
theorem dX6_ends_175 : decode cX6_ends 175 = .ok (.iload 9, 2) := by decide +kernel
theorem dX6_ends_177 : decode cX6_ends 177 = .ok (.istore 7, 2) := by decide +kernel
theorem dX6_ends_179 : decode cX6_ends 179 = .ok (.iinc 8 1, 3) := by decide +kernel
theorem dX6_ends_182 : decode cX6_ends 182 = .ok (.goto (-117), 3) := by decide +kernel
theorem dX6_ends_185 : decode cX6_ends 185 = .ok (.aload_n 0, 1) := by decide +kernel
theorem dX6_ends_186 : decode cX6_ends 186 = .ok (.getfield 30, 3) := by decide +kernel
theorem dX6_ends_189 : decode cX6_ends 189 = .ok (.getfield 103, 3) := by decide +kernel
theorem dX6_ends_192 : decode cX6_ends 192 = .ok (.iload_n 2, 1) := by decide +kernel
theorem dX6_ends_193 : decode cX6_ends 193 = .ok (.iload 5, 2) := by decide +kernel
theorem dX6_ends_195 : decode cX6_ends 195 = .ok (.iastore, 1) := by decide +kernel
theorem dX6_ends_196 : decode cX6_ends 196 = .ok (.iload 7, 2) := by decide +kernel
theorem dX6_ends_198 : decode cX6_ends 198 = .ok (.ireturn, 1) := by decide +kernel
theorem dX6_hangs_0 : decode cX6_hangs 0 = .ok (.aload_n 0, 1) := by decide +kernel
theorem dX6_hangs_1 : decode cX6_hangs 1 = .ok (.iload_n 1, 1) := by decide +kernel
theorem dX6_hangs_2 : decode cX6_hangs 2 = .ok (.invokevirtual 83, 3) := by decide +kernel
theorem dX6_hangs_5 : decode cX6_hangs 5 = .ok (.astore_n 2, 1) := by decide +kernel
theorem dX6_hangs_6 : decode cX6_hangs 6 = .ok (.aload_n 2, 1) := by decide +kernel
theorem dX6_hangs_7 : decode cX6_hangs 7 = .ok (.ifnonnull 7, 3) := by decide +kernel
theorem dX6_hangs_10 : decode cX6_hangs 10 = .ok (.iconst (-1), 1) := by decide +kernel
theorem dX6_hangs_11 : decode cX6_hangs 11 = .ok (.goto 9, 3) := by decide +kernel
theorem dX6_hangs_14 : decode cX6_hangs 14 = .ok (.aload_n 0, 1) := by decide +kernel
theorem dX6_hangs_15 : decode cX6_hangs 15 = .ok (.aload_n 2, 1) := by decide +kernel
theorem dX6_hangs_16 : decode cX6_hangs 16 = .ok (.iconst 0, 1) := by decide +kernel
theorem dX6_hangs_17 : decode cX6_hangs 17 = .ok (.invokevirtual 197, 3) := by decide +kernel
theorem dX6_hangs_20 : decode cX6_hangs 20 = .ok (.ireturn, 1) := by decide +kernel
theorem dX6_told_0 : decode cX6_told 0 = .ok (.aload_n 0, 1) := by decide +kernel
theorem dX6_told_1 : decode cX6_told 1 = .ok (.iload_n 1, 1) := by decide +kernel
theorem dX6_told_2 : decode cX6_told 2 = .ok (.invokevirtual 83, 3) := by decide +kernel
theorem dX6_told_5 : decode cX6_told 5 = .ok (.astore 4, 2) := by decide +kernel
theorem dX6_told_7 : decode cX6_told 7 = .ok (.aload 4, 2) := by decide +kernel
theorem dX6_told_9 : decode cX6_told 9 = .ok (.ifnull 23, 3) := by decide +kernel
theorem dX6_told_12 : decode cX6_told 12 = .ok (.aload_n 0, 1) := by decide +kernel
theorem dX6_told_13 : decode cX6_told 13 = .ok (.getfield 30, 3) := by decide +kernel
theorem dX6_told_16 : decode cX6_told 16 = .ok (.iload_n 2, 1) := by decide +kernel
theorem dX6_told_17 : decode cX6_told 17 = .ok (.invokevirtual 132, 3) := by decide +kernel
theorem dX6_told_20 : decode cX6_told 20 = .ok (.ifCond .eq 12, 3) := by decide +kernel
theorem dX6_told_23 : decode cX6_told 23 = .ok (.iload_n 3, 1) := by decide +kernel
theorem dX6_told_24 : decode cX6_told 24 = .ok (.iconst 0, 1) := by decide +kernel
theorem dX6_told_25 : decode cX6_told 25 = .ok (.iconst 5, 1) := by decide +kernel
theorem dX6_told_26 : decode cX6_told 26 = .ok (.invokestatic 87, 3) := by decide +kernel
theorem dX6_told_29 : decode cX6_told 29 = .ok (.ifCond .ne 6, 3) := by decide +kernel
theorem dX6_told_32 : decode cX6_told 32 = .ok (.ldc 141, 2) := by decide +kernel
theorem dX6_told_34 : decode cX6_told 34 = .ok (.ireturn, 1) := by decide +kernel
theorem dX6_told_35 : decode cX6_told 35 = .ok (.aload_n 0, 1) := by decide +kernel
theorem dX6_told_36 : decode cX6_told 36 = .ok (.getfield 30, 3) := by decide +kernel
theorem dX6_told_39 : decode cX6_told 39 = .ok (.getfield 115, 3) := by decide +kernel
theorem dX6_told_42 : decode cX6_told 42 = .ok (.iload_n 2, 1) := by decide +kernel
theorem dX6_told_43 : decode cX6_told 43 = .ok (.iaload, 1) := by decide +kernel
theorem dX6_told_44 : decode cX6_told 44 = .ok (.istore 5, 2) := by decide +kernel
theorem dX6_told_46 : decode cX6_told 46 = .ok (.iload 5, 2) := by decide +kernel
theorem dX6_told_48 : decode cX6_told 48 = .ok (.iconst 1, 1) := by decide +kernel
theorem dX6_told_49 : decode cX6_told 49 = .ok (.iload_n 3, 1) := by decide +kernel
theorem dX6_told_50 : decode cX6_told 50 = .ok (.ishl, 1) := by decide +kernel
theorem dX6_told_51 : decode cX6_told 51 = .ok (.iand, 1) := by decide +kernel
theorem dX6_told_52 : decode cX6_told 52 = .ok (.ifCond .ne 6, 3) := by decide +kernel
theorem dX6_told_55 : decode cX6_told 55 = .ok (.ldc 141, 2) := by decide +kernel
theorem dX6_told_57 : decode cX6_told 57 = .ok (.ireturn, 1) := by decide +kernel
theorem dX6_told_58 : decode cX6_told 58 = .ok (.aload_n 0, 1) := by decide +kernel
theorem dX6_told_59 : decode cX6_told 59 = .ok (.getfield 30, 3) := by decide +kernel
theorem dX6_told_62 : decode cX6_told 62 = .ok (.getfield 115, 3) := by decide +kernel
theorem dX6_told_65 : decode cX6_told 65 = .ok (.iload_n 2, 1) := by decide +kernel
theorem dX6_told_66 : decode cX6_told 66 = .ok (.iconst 1, 1) := by decide +kernel
theorem dX6_told_67 : decode cX6_told 67 = .ok (.iload_n 3, 1) := by decide +kernel
theorem dX6_told_68 : decode cX6_told 68 = .ok (.ishl, 1) := by decide +kernel
theorem dX6_told_69 : decode cX6_told 69 = .ok (.iastore, 1) := by decide +kernel
theorem dX6_told_70 : decode cX6_told 70 = .ok (.aload_n 0, 1) := by decide +kernel
theorem dX6_told_71 : decode cX6_told 71 = .ok (.aload 4, 2) := by decide +kernel
theorem dX6_told_73 : decode cX6_told 73 = .ok (.aload_n 0, 1) := by decide +kernel
theorem dX6_told_74 : decode cX6_told 74 = .ok (.getfield 30, 3) := by decide +kernel
theorem dX6_told_77 : decode cX6_told 77 = .ok (.invokevirtual 189, 3) := by decide +kernel
theorem dX6_told_80 : decode cX6_told 80 = .ok (.invokevirtual 193, 3) := by decide +kernel
theorem dX6_told_83 : decode cX6_told 83 = .ok (.istore 6, 2) := by decide +kernel
theorem dX6_told_85 : decode cX6_told 85 = .ok (.aload_n 0, 1) := by decide +kernel
theorem dX6_told_86 : decode cX6_told 86 = .ok (.getfield 30, 3) := by decide +kernel
theorem dX6_told_89 : decode cX6_told 89 = .ok (.getfield 115, 3) := by decide +kernel
theorem dX6_told_92 : decode cX6_told 92 = .ok (.iload_n 2, 1) := by decide +kernel
theorem dX6_told_93 : decode cX6_told 93 = .ok (.iload 5, 2) := by decide +kernel
theorem dX6_told_95 : decode cX6_told 95 = .ok (.iastore, 1) := by decide +kernel
theorem dX6_told_96 : decode cX6_told 96 = .ok (.iload 6, 2) := by decide +kernel
theorem dX6_told_98 : decode cX6_told 98 = .ok (.ireturn, 1) := by decide +kernel
theorem dX6_layers_0 : decode cX6_layers 0 = .ok (.iconst 1, 1) := by decide +kernel
theorem dX6_layers_1 : decode cX6_layers 1 = .ok (.aload_n 0, 1) := by decide +kernel
theorem dX6_layers_2 : decode cX6_layers 2 = .ok (.getfield 57, 3) := by decide +kernel
theorem dX6_layers_5 : decode cX6_layers 5 = .ok (.ishl, 1) := by decide +kernel
theorem dX6_layers_6 : decode cX6_layers 6 = .ok (.iconst 1, 1) := by decide +kernel
theorem dX6_layers_7 : decode cX6_layers 7 = .ok (.isub, 1) := by decide +kernel
theorem dX6_layers_8 : decode cX6_layers 8 = .ok (.istore_n 3, 1) := by decide +kernel
theorem dX6_layers_9 : decode cX6_layers 9 = .ok (.iload_n 1, 1) := by decide +kernel
theorem dX6_layers_10 : decode cX6_layers 10 = .ok (.ifCond .eq 11, 3) := by decide +kernel
theorem dX6_layers_13 : decode cX6_layers 13 = .ok (.iload_n 1, 1) := by decide +kernel
theorem dX6_layers_14 : decode cX6_layers 14 = .ok (.iload_n 3, 1) := by decide +kernel
theorem dX6_layers_15 : decode cX6_layers 15 = .ok (.iconst (-1), 1) := by decide +kernel
theorem dX6_layers_16 : decode cX6_layers 16 = .ok (.ixor, 1) := by decide +kernel
theorem dX6_layers_17 : decode cX6_layers 17 = .ok (.iand, 1) := by decide +kernel
theorem dX6_layers_18 : decode cX6_layers 18 = .ok (.ifCond .eq 6, 3) := by decide +kernel
theorem dX6_layers_21 : decode cX6_layers 21 = .ok (.ldc 141, 2) := by decide +kernel
theorem dX6_layers_23 : decode cX6_layers 23 = .ok (.ireturn, 1) := by decide +kernel
theorem dX6_layers_24 : decode cX6_layers 24 = .ok (.iload_n 2, 1) := by decide +kernel
theorem dX6_layers_25 : decode cX6_layers 25 = .ok (.ifCond .eq 11, 3) := by decide +kernel
theorem dX6_layers_28 : decode cX6_layers 28 = .ok (.aload_n 0, 1) := by decide +kernel
theorem dX6_layers_29 : decode cX6_layers 29 = .ok (.iload_n 1, 1) := by decide +kernel
theorem dX6_layers_30 : decode cX6_layers 30 = .ok (.invokevirtual 201, 3) := by decide +kernel
theorem dX6_layers_33 : decode cX6_layers 33 = .ok (.goto 8, 3) := by decide +kernel
theorem dX6_layers_36 : decode cX6_layers 36 = .ok (.aload_n 0, 1) := by decide +kernel
theorem dX6_layers_37 : decode cX6_layers 37 = .ok (.iload_n 1, 1) := by decide +kernel
theorem dX6_layers_38 : decode cX6_layers 38 = .ok (.invokevirtual 204, 3) := by decide +kernel
theorem dX6_layers_41 : decode cX6_layers 41 = .ok (.ireturn, 1) := by decide +kernel
theorem dX6_nearest_0 : decode cX6_nearest 0 = .ok (.aload_n 0, 1) := by decide +kernel
theorem dX6_nearest_1 : decode cX6_nearest 1 = .ok (.iload_n 1, 1) := by decide +kernel
theorem dX6_nearest_2 : decode cX6_nearest 2 = .ok (.invokevirtual 83, 3) := by decide +kernel
theorem dX6_nearest_5 : decode cX6_nearest 5 = .ok (.astore_n 3, 1) := by decide +kernel
theorem dX6_nearest_6 : decode cX6_nearest 6 = .ok (.aload_n 3, 1) := by decide +kernel
theorem dX6_nearest_7 : decode cX6_nearest 7 = .ok (.ifnull 12, 3) := by decide +kernel
theorem dX6_nearest_10 : decode cX6_nearest 10 = .ok (.iload_n 2, 1) := by decide +kernel
theorem dX6_nearest_11 : decode cX6_nearest 11 = .ok (.iconst 0, 1) := by decide +kernel
theorem dX6_nearest_12 : decode cX6_nearest 12 = .ok (.iconst 1, 1) := by decide +kernel
theorem dX6_nearest_13 : decode cX6_nearest 13 = .ok (.invokestatic 87, 3) := by decide +kernel
theorem dX6_nearest_16 : decode cX6_nearest 16 = .ok (.ifCond .ne 6, 3) := by decide +kernel
theorem dX6_nearest_19 : decode cX6_nearest 19 = .ok (.ldc 141, 2) := by decide +kernel
theorem dX6_nearest_21 : decode cX6_nearest 21 = .ok (.ireturn, 1) := by decide +kernel
theorem dX6_nearest_22 : decode cX6_nearest 22 = .ok (.aload_n 0, 1) := by decide +kernel
theorem dX6_nearest_23 : decode cX6_nearest 23 = .ok (.getfield 23, 3) := by decide +kernel
theorem dX6_nearest_26 : decode cX6_nearest 26 = .ok (.aload_n 3, 1) := by decide +kernel
theorem dX6_nearest_27 : decode cX6_nearest 27 = .ok (.invokevirtual 79, 3) := by decide +kernel
theorem dX6_nearest_30 : decode cX6_nearest 30 = .ok (.ldc 141, 2) := by decide +kernel
theorem dX6_nearest_32 : decode cX6_nearest 32 = .ok (.istore 4, 2) := by decide +kernel
theorem dX6_nearest_34 : decode cX6_nearest 34 = .ok (.ldc 141, 2) := by decide +kernel
theorem dX6_nearest_36 : decode cX6_nearest 36 = .ok (.istore 5, 2) := by decide +kernel
theorem dX6_nearest_38 : decode cX6_nearest 38 = .ok (.iconst 1, 1) := by decide +kernel
theorem dX6_nearest_39 : decode cX6_nearest 39 = .ok (.istore 6, 2) := by decide +kernel
theorem dX6_nearest_41 : decode cX6_nearest 41 = .ok (.iload 6, 2) := by decide +kernel
theorem dX6_nearest_43 : decode cX6_nearest 43 = .ok (.bipush 99, 2) := by decide +kernel
theorem dX6_nearest_45 : decode cX6_nearest 45 = .ok (.if_icmp .gt 106, 3) := by decide +kernel
theorem dX6_nearest_48 : decode cX6_nearest 48 = .ok (.iload 6, 2) := by decide +kernel
theorem dX6_nearest_50 : decode cX6_nearest 50 = .ok (.iconst 1, 1) := by decide +kernel
theorem dX6_nearest_51 : decode cX6_nearest 51 = .ok (.if_icmp .le 20, 3) := by decide +kernel
theorem dX6_nearest_54 : decode cX6_nearest 54 = .ok (.aload_n 0, 1) := by decide +kernel
theorem dX6_nearest_55 : decode cX6_nearest 55 = .ok (.getfield 30, 3) := by decide +kernel
theorem dX6_nearest_58 : decode cX6_nearest 58 = .ok (.iload 6, 2) := by decide +kernel
theorem dX6_nearest_60 : decode cX6_nearest 60 = .ok (.iconst 1, 1) := by decide +kernel
theorem dX6_nearest_61 : decode cX6_nearest 61 = .ok (.isub, 1) := by decide +kernel
theorem dX6_nearest_62 : decode cX6_nearest 62 = .ok (.invokevirtual 207, 3) := by decide +kernel
theorem dX6_nearest_65 : decode cX6_nearest 65 = .ok (.ifCond .ne 6, 3) := by decide +kernel
theorem dX6_nearest_68 : decode cX6_nearest 68 = .ok (.goto 77, 3) := by decide +kernel
theorem dX6_nearest_71 : decode cX6_nearest 71 = .ok (.aload_n 0, 1) := by decide +kernel
theorem dX6_nearest_72 : decode cX6_nearest 72 = .ok (.getfield 23, 3) := by decide +kernel
theorem dX6_nearest_75 : decode cX6_nearest 75 = .ok (.getfield 94, 3) := by decide +kernel
theorem dX6_nearest_78 : decode cX6_nearest 78 = .ok (.iconst 0, 1) := by decide +kernel
theorem dX6_nearest_79 : decode cX6_nearest 79 = .ok (.iload 6, 2) := by decide +kernel
theorem dX6_nearest_81 : decode cX6_nearest 81 = .ok (.iastore, 1) := by decide +kernel
theorem dX6_nearest_82 : decode cX6_nearest 82 = .ok (.aload_n 0, 1) := by decide +kernel
theorem dX6_nearest_83 : decode cX6_nearest 83 = .ok (.getfield 46, 3) := by decide +kernel
theorem dX6_nearest_86 : decode cX6_nearest 86 = .ok (.aload_n 0, 1) := by decide +kernel
theorem dX6_nearest_87 : decode cX6_nearest 87 = .ok (.getfield 23, 3) := by decide +kernel
theorem dX6_nearest_90 : decode cX6_nearest 90 = .ok (.aload_n 0, 1) := by decide +kernel
theorem dX6_nearest_91 : decode cX6_nearest 91 = .ok (.getfield 30, 3) := by decide +kernel
theorem dX6_nearest_94 : decode cX6_nearest 94 = .ok (.invokevirtual 189, 3) := by decide +kernel
theorem dX6_nearest_97 : decode cX6_nearest 97 = .ok (.invokevirtual 170, 3) := by decide +kernel
theorem dX6_nearest_100 : decode cX6_nearest 100 = .ok (.ifCond .ne 6, 3) := by decide +kernel
theorem dX6_nearest_103 : decode cX6_nearest 103 = .ok (.goto 42, 3) := by decide +kernel
theorem dX6_nearest_106 : decode cX6_nearest 106 = .ok (.aload_n 0, 1) := by decide +kernel
theorem dX6_nearest_107 : decode cX6_nearest 107 = .ok (.getfield 46, 3) := by decide +kernel
theorem dX6_nearest_110 : decode cX6_nearest 110 = .ok (.getfield 173, 3) := by decide +kernel
theorem dX6_nearest_113 : decode cX6_nearest 113 = .ok (.aload_n 0, 1) := by decide +kernel
theorem dX6_nearest_114 : decode cX6_nearest 114 = .ok (.getfield 46, 3) := by decide +kernel
theorem dX6_nearest_117 : decode cX6_nearest 117 = .ok (.getfield 176, 3) := by decide +kernel
theorem dX6_nearest_120 : decode cX6_nearest 120 = .ok (.isub, 1) := by decide +kernel
theorem dX6_nearest_121 : decode cX6_nearest 121 = .ok (.istore 7, 2) := by decide +kernel
theorem dX6_nearest_123 : decode cX6_nearest 123 = .ok (.iload 4, 2) := by decide +kernel
theorem dX6_nearest_125 : decode cX6_nearest 125 = .ok (.ldc 141, 2) := by decide +kernel
theorem dX6_nearest_127 : decode cX6_nearest 127 = .ok (.if_icmp .eq 10, 3) := by decide +kernel
theorem dX6_nearest_130 : decode cX6_nearest 130 = .ok (.iload 7, 2) := by decide +kernel
theorem dX6_nearest_132 : decode cX6_nearest 132 = .ok (.iload 5, 2) := by decide +kernel
theorem dX6_nearest_134 : decode cX6_nearest 134 = .ok (.if_icmp .ge 11, 3) := by decide +kernel
theorem dX6_nearest_137 : decode cX6_nearest 137 = .ok (.iload 6, 2) := by decide +kernel
theorem dX6_nearest_139 : decode cX6_nearest 139 = .ok (.istore 4, 2) := by decide +kernel
theorem dX6_nearest_141 : decode cX6_nearest 141 = .ok (.iload 7, 2) := by decide +kernel
theorem dX6_nearest_143 : decode cX6_nearest 143 = .ok (.istore 5, 2) := by decide +kernel
theorem dX6_nearest_145 : decode cX6_nearest 145 = .ok (.iinc 6 1, 3) := by decide +kernel
theorem dX6_nearest_148 : decode cX6_nearest 148 = .ok (.goto (-107), 3) := by decide +kernel
theorem dX6_nearest_151 : decode cX6_nearest 151 = .ok (.iload_n 2, 1) := by decide +kernel
theorem dX6_nearest_152 : decode cX6_nearest 152 = .ok (.ifCond .ne 8, 3) := by decide +kernel
theorem dX6_nearest_155 : decode cX6_nearest 155 = .ok (.iload 4, 2) := by decide +kernel
theorem dX6_nearest_157 : decode cX6_nearest 157 = .ok (.goto 5, 3) := by decide +kernel
theorem dX6_nearest_160 : decode cX6_nearest 160 = .ok (.iload 5, 2) := by decide +kernel
theorem dX6_nearest_162 : decode cX6_nearest 162 = .ok (.ireturn, 1) := by decide +kernel
theorem dX6_storm_0 : decode cX6_storm 0 = .ok (.aload_n 0, 1) := by decide +kernel
theorem dX6_storm_1 : decode cX6_storm 1 = .ok (.getfield 61, 3) := by decide +kernel
theorem dX6_storm_4 : decode cX6_storm 4 = .ok (.bipush 12, 2) := by decide +kernel
theorem dX6_storm_6 : decode cX6_storm 6 = .ok (.if_icmp .ge 24, 3) := by decide +kernel
theorem dX6_storm_9 : decode cX6_storm 9 = .ok (.aload_n 0, 1) := by decide +kernel
theorem dX6_storm_10 : decode cX6_storm 10 = .ok (.getfield 30, 3) := by decide +kernel
theorem dX6_storm_13 : decode cX6_storm 13 = .ok (.iload_n 1, 1) := by decide +kernel
theorem dX6_storm_14 : decode cX6_storm 14 = .ok (.invokevirtual 118, 3) := by decide +kernel
theorem dX6_storm_17 : decode cX6_storm 17 = .ok (.ifCond .eq 13, 3) := by decide +kernel
theorem dX6_storm_20 : decode cX6_storm 20 = .ok (.iload_n 2, 1) := by decide +kernel
theorem dX6_storm_21 : decode cX6_storm 21 = .ok (.iconst 1, 1) := by decide +kernel
theorem dX6_storm_22 : decode cX6_storm 22 = .ok (.bipush 99, 2) := by decide +kernel
theorem dX6_storm_24 : decode cX6_storm 24 = .ok (.invokestatic 87, 3) := by decide +kernel
theorem dX6_storm_27 : decode cX6_storm 27 = .ok (.ifCond .ne 5, 3) := by decide +kernel
theorem dX6_storm_30 : decode cX6_storm 30 = .ok (.iconst (-1), 1) := by decide +kernel
theorem dX6_storm_31 : decode cX6_storm 31 = .ok (.ireturn, 1) := by decide +kernel
theorem dX6_storm_32 : decode cX6_storm 32 = .ok (.aload_n 0, 1) := by decide +kernel
theorem dX6_storm_33 : decode cX6_storm 33 = .ok (.getfield 50, 3) := by decide +kernel
theorem dX6_storm_36 : decode cX6_storm 36 = .ok (.aload_n 0, 1) := by decide +kernel
theorem dX6_storm_37 : decode cX6_storm 37 = .ok (.getfield 61, 3) := by decide +kernel
theorem dX6_storm_40 : decode cX6_storm 40 = .ok (.iload_n 1, 1) := by decide +kernel
theorem dX6_storm_41 : decode cX6_storm 41 = .ok (.iastore, 1) := by decide +kernel
theorem dX6_storm_42 : decode cX6_storm 42 = .ok (.aload_n 0, 1) := by decide +kernel
theorem dX6_storm_43 : decode cX6_storm 43 = .ok (.getfield 54, 3) := by decide +kernel
theorem dX6_storm_46 : decode cX6_storm 46 = .ok (.aload_n 0, 1) := by decide +kernel
theorem dX6_storm_47 : decode cX6_storm 47 = .ok (.getfield 61, 3) := by decide +kernel
theorem dX6_storm_50 : decode cX6_storm 50 = .ok (.iload_n 2, 1) := by decide +kernel
theorem dX6_storm_51 : decode cX6_storm 51 = .ok (.iastore, 1) := by decide +kernel
theorem dX6_storm_52 : decode cX6_storm 52 = .ok (.aload_n 0, 1) := by decide +kernel
theorem dX6_storm_53 : decode cX6_storm 53 = .ok (.dup, 1) := by decide +kernel
theorem dX6_storm_54 : decode cX6_storm 54 = .ok (.getfield 61, 3) := by decide +kernel
theorem dX6_storm_57 : decode cX6_storm 57 = .ok (.iconst 1, 1) := by decide +kernel
theorem dX6_storm_58 : decode cX6_storm 58 = .ok (.iadd, 1) := by decide +kernel
theorem dX6_storm_59 : decode cX6_storm 59 = .ok (.putfield 61, 3) := by decide +kernel
theorem dX6_storm_62 : decode cX6_storm 62 = .ok (.aload_n 0, 1) := by decide +kernel
theorem dX6_storm_63 : decode cX6_storm 63 = .ok (.getfield 61, 3) := by decide +kernel
theorem dX6_storm_66 : decode cX6_storm 66 = .ok (.ireturn, 1) := by decide +kernel
theorem dX6_mean_0 : decode cX6_mean 0 = .ok (.aload_n 0, 1) := by decide +kernel
theorem dX6_mean_1 : decode cX6_mean 1 = .ok (.iload_n 1, 1) := by decide +kernel
theorem dX6_mean_2 : decode cX6_mean 2 = .ok (.invokevirtual 83, 3) := by decide +kernel
theorem dX6_mean_5 : decode cX6_mean 5 = .ok (.astore_n 3, 1) := by decide +kernel
theorem dX6_mean_6 : decode cX6_mean 6 = .ok (.aload_n 3, 1) := by decide +kernel
theorem dX6_mean_7 : decode cX6_mean 7 = .ok (.ifnull 12, 3) := by decide +kernel
theorem dX6_mean_10 : decode cX6_mean 10 = .ok (.iload_n 2, 1) := by decide +kernel
theorem dX6_mean_11 : decode cX6_mean 11 = .ok (.iconst 0, 1) := by decide +kernel
theorem dX6_mean_12 : decode cX6_mean 12 = .ok (.iconst 2, 1) := by decide +kernel
theorem dX6_mean_13 : decode cX6_mean 13 = .ok (.invokestatic 87, 3) := by decide +kernel
theorem dX6_mean_16 : decode cX6_mean 16 = .ok (.ifCond .ne 6, 3) := by decide +kernel
theorem dX6_mean_19 : decode cX6_mean 19 = .ok (.ldc 141, 2) := by decide +kernel
theorem dX6_mean_21 : decode cX6_mean 21 = .ok (.ireturn, 1) := by decide +kernel
theorem dX6_mean_22 : decode cX6_mean 22 = .ok (.iconst 0, 1) := by decide +kernel
theorem dX6_mean_23 : decode cX6_mean 23 = .ok (.istore 4, 2) := by decide +kernel
theorem dX6_mean_25 : decode cX6_mean 25 = .ok (.iconst 0, 1) := by decide +kernel
theorem dX6_mean_26 : decode cX6_mean 26 = .ok (.istore 5, 2) := by decide +kernel
theorem dX6_mean_28 : decode cX6_mean 28 = .ok (.iconst 0, 1) := by decide +kernel
theorem dX6_mean_29 : decode cX6_mean 29 = .ok (.istore 6, 2) := by decide +kernel
theorem dX6_mean_31 : decode cX6_mean 31 = .ok (.iload 6, 2) := by decide +kernel
theorem dX6_mean_33 : decode cX6_mean 33 = .ok (.aload_n 0, 1) := by decide +kernel
theorem dX6_mean_34 : decode cX6_mean 34 = .ok (.getfield 61, 3) := by decide +kernel
theorem dX6_mean_37 : decode cX6_mean 37 = .ok (.if_icmp .ge 94, 3) := by decide +kernel
theorem dX6_mean_40 : decode cX6_mean 40 = .ok (.aload_n 3, 1) := by decide +kernel
theorem dX6_mean_41 : decode cX6_mean 41 = .ok (.aload_n 0, 1) := by decide +kernel
theorem dX6_mean_42 : decode cX6_mean 42 = .ok (.getfield 50, 3) := by decide +kernel
theorem dX6_mean_45 : decode cX6_mean 45 = .ok (.iload 6, 2) := by decide +kernel
theorem dX6_mean_47 : decode cX6_mean 47 = .ok (.iaload, 1) := by decide +kernel
theorem dX6_mean_48 : decode cX6_mean 48 = .ok (.invokestatic 210, 3) := by decide +kernel
theorem dX6_mean_51 : decode cX6_mean 51 = .ok (.ifCond .ne 6, 3) := by decide +kernel
theorem dX6_mean_54 : decode cX6_mean 54 = .ok (.ldc 141, 2) := by decide +kernel
theorem dX6_mean_56 : decode cX6_mean 56 = .ok (.ireturn, 1) := by decide +kernel
theorem dX6_mean_57 : decode cX6_mean 57 = .ok (.aload_n 0, 1) := by decide +kernel
theorem dX6_mean_58 : decode cX6_mean 58 = .ok (.getfield 54, 3) := by decide +kernel
theorem dX6_mean_61 : decode cX6_mean 61 = .ok (.iload 6, 2) := by decide +kernel
theorem dX6_mean_63 : decode cX6_mean 63 = .ok (.iaload, 1) := by decide +kernel
theorem dX6_mean_64 : decode cX6_mean 64 = .ok (.istore 7, 2) := by decide +kernel
theorem dX6_mean_66 : decode cX6_mean 66 = .ok (.iload 5, 2) := by decide +kernel
theorem dX6_mean_68 : decode cX6_mean 68 = .ok (.iload 7, 2) := by decide +kernel
theorem dX6_mean_70 : decode cX6_mean 70 = .ok (.iadd, 1) := by decide +kernel
theorem dX6_mean_71 : decode cX6_mean 71 = .ok (.istore 5, 2) := by decide +kernel
theorem dX6_mean_73 : decode cX6_mean 73 = .ok (.iload_n 2, 1) := by decide +kernel
theorem dX6_mean_74 : decode cX6_mean 74 = .ok (.iconst 2, 1) := by decide +kernel
theorem dX6_mean_75 : decode cX6_mean 75 = .ok (.if_icmp .eq 50, 3) := by decide +kernel
theorem dX6_mean_78 : decode cX6_mean 78 = .ok (.aload_n 0, 1) := by decide +kernel
theorem dX6_mean_79 : decode cX6_mean 79 = .ok (.getfield 46, 3) := by decide +kernel
theorem dX6_mean_82 : decode cX6_mean 82 = .ok (.aload_n 3, 1) := by decide +kernel
theorem dX6_mean_83 : decode cX6_mean 83 = .ok (.aload_n 0, 1) := by decide +kernel
theorem dX6_mean_84 : decode cX6_mean 84 = .ok (.getfield 50, 3) := by decide +kernel
theorem dX6_mean_87 : decode cX6_mean 87 = .ok (.iload 6, 2) := by decide +kernel
theorem dX6_mean_89 : decode cX6_mean 89 = .ok (.iaload, 1) := by decide +kernel
theorem dX6_mean_90 : decode cX6_mean 90 = .ok (.invokevirtual 170, 3) := by decide +kernel
theorem dX6_mean_93 : decode cX6_mean 93 = .ok (.ifCond .eq 32, 3) := by decide +kernel
theorem dX6_mean_96 : decode cX6_mean 96 = .ok (.iload 4, 2) := by decide +kernel
theorem dX6_mean_98 : decode cX6_mean 98 = .ok (.iload 7, 2) := by decide +kernel
theorem dX6_mean_100 : decode cX6_mean 100 = .ok (.iload_n 2, 1) := by decide +kernel
theorem dX6_mean_101 : decode cX6_mean 101 = .ok (.ifCond .ne 13, 3) := by decide +kernel
theorem dX6_mean_104 : decode cX6_mean 104 = .ok (.aload_n 0, 1) := by decide +kernel
theorem dX6_mean_105 : decode cX6_mean 105 = .ok (.getfield 46, 3) := by decide +kernel
theorem dX6_mean_108 : decode cX6_mean 108 = .ok (.getfield 173, 3) := by decide +kernel
theorem dX6_mean_111 : decode cX6_mean 111 = .ok (.goto 10, 3) := by decide +kernel
theorem dX6_mean_114 : decode cX6_mean 114 = .ok (.aload_n 0, 1) := by decide +kernel
theorem dX6_mean_115 : decode cX6_mean 115 = .ok (.getfield 46, 3) := by decide +kernel
theorem dX6_mean_118 : decode cX6_mean 118 = .ok (.getfield 176, 3) := by decide +kernel
theorem dX6_mean_121 : decode cX6_mean 121 = .ok (.imul, 1) := by decide +kernel
theorem dX6_mean_122 : decode cX6_mean 122 = .ok (.iadd, 1) := by decide +kernel
theorem dX6_mean_123 : decode cX6_mean 123 = .ok (.istore 4, 2) := by decide +kernel
theorem dX6_mean_125 : decode cX6_mean 125 = .ok (.iinc 6 1, 3) := by decide +kernel
theorem dX6_mean_128 : decode cX6_mean 128 = .ok (.goto (-97), 3) := by decide +kernel
theorem dX6_mean_131 : decode cX6_mean 131 = .ok (.iload_n 2, 1) := by decide +kernel
theorem dX6_mean_132 : decode cX6_mean 132 = .ok (.iconst 2, 1) := by decide +kernel
theorem dX6_mean_133 : decode cX6_mean 133 = .ok (.if_icmp .ne 8, 3) := by decide +kernel
theorem dX6_mean_136 : decode cX6_mean 136 = .ok (.iload 5, 2) := by decide +kernel
theorem dX6_mean_138 : decode cX6_mean 138 = .ok (.goto 5, 3) := by decide +kernel
theorem dX6_mean_141 : decode cX6_mean 141 = .ok (.iload 4, 2) := by decide +kernel
theorem dX6_mean_143 : decode cX6_mean 143 = .ok (.ireturn, 1) := by decide +kernel
theorem dX6_game_0 : decode cX6_game 0 = .ok (.aload_n 0, 1) := by decide +kernel
theorem dX6_game_1 : decode cX6_game 1 = .ok (.iload_n 1, 1) := by decide +kernel
theorem dX6_game_2 : decode cX6_game 2 = .ok (.invokevirtual 83, 3) := by decide +kernel
theorem dX6_game_5 : decode cX6_game 5 = .ok (.astore 4, 2) := by decide +kernel
theorem dX6_game_7 : decode cX6_game 7 = .ok (.aload_n 0, 1) := by decide +kernel
theorem dX6_game_8 : decode cX6_game 8 = .ok (.iload_n 2, 1) := by decide +kernel
theorem dX6_game_9 : decode cX6_game 9 = .ok (.invokevirtual 83, 3) := by decide +kernel
theorem dX6_game_12 : decode cX6_game 12 = .ok (.astore 5, 2) := by decide +kernel
theorem dX6_game_14 : decode cX6_game 14 = .ok (.aload 4, 2) := by decide +kernel
theorem dX6_game_16 : decode cX6_game 16 = .ok (.ifnull 17, 3) := by decide +kernel
theorem dX6_game_19 : decode cX6_game 19 = .ok (.aload 5, 2) := by decide +kernel
theorem dX6_game_21 : decode cX6_game 21 = .ok (.ifnull 12, 3) := by decide +kernel
theorem dX6_game_24 : decode cX6_game 24 = .ok (.iload_n 3, 1) := by decide +kernel
theorem dX6_game_25 : decode cX6_game 25 = .ok (.iconst 0, 1) := by decide +kernel
theorem dX6_game_26 : decode cX6_game 26 = .ok (.iconst 2, 1) := by decide +kernel
theorem dX6_game_27 : decode cX6_game 27 = .ok (.invokestatic 87, 3) := by decide +kernel
theorem dX6_game_30 : decode cX6_game 30 = .ok (.ifCond .ne 6, 3) := by decide +kernel
theorem dX6_game_33 : decode cX6_game 33 = .ok (.ldc 141, 2) := by decide +kernel
theorem dX6_game_35 : decode cX6_game 35 = .ok (.ireturn, 1) := by decide +kernel
theorem dX6_game_36 : decode cX6_game 36 = .ok (.aload_n 0, 1) := by decide +kernel
theorem dX6_game_37 : decode cX6_game 37 = .ok (.aload 4, 2) := by decide +kernel
theorem dX6_game_39 : decode cX6_game 39 = .ok (.iconst 1, 1) := by decide +kernel
theorem dX6_game_40 : decode cX6_game 40 = .ok (.invokevirtual 197, 3) := by decide +kernel
theorem dX6_game_43 : decode cX6_game 43 = .ok (.istore 6, 2) := by decide +kernel
theorem dX6_game_45 : decode cX6_game 45 = .ok (.aload_n 0, 1) := by decide +kernel
theorem dX6_game_46 : decode cX6_game 46 = .ok (.aload 5, 2) := by decide +kernel
theorem dX6_game_48 : decode cX6_game 48 = .ok (.iconst 1, 1) := by decide +kernel
theorem dX6_game_49 : decode cX6_game 49 = .ok (.invokevirtual 197, 3) := by decide +kernel
theorem dX6_game_52 : decode cX6_game 52 = .ok (.istore 7, 2) := by decide +kernel
theorem dX6_game_54 : decode cX6_game 54 = .ok (.iload 6, 2) := by decide +kernel
theorem dX6_game_56 : decode cX6_game 56 = .ok (.iconst (-1), 1) := by decide +kernel
theorem dX6_game_57 : decode cX6_game 57 = .ok (.if_icmp .eq 9, 3) := by decide +kernel
theorem dX6_game_60 : decode cX6_game 60 = .ok (.iload 7, 2) := by decide +kernel
theorem dX6_game_62 : decode cX6_game 62 = .ok (.iconst (-1), 1) := by decide +kernel
theorem dX6_game_63 : decode cX6_game 63 = .ok (.if_icmp .ne 6, 3) := by decide +kernel
theorem dX6_game_66 : decode cX6_game 66 = .ok (.ldc 141, 2) := by decide +kernel
theorem dX6_game_68 : decode cX6_game 68 = .ok (.ireturn, 1) := by decide +kernel
theorem dX6_game_69 : decode cX6_game 69 = .ok (.aload_n 0, 1) := by decide +kernel
theorem dX6_game_70 : decode cX6_game 70 = .ok (.aload 4, 2) := by decide +kernel
theorem dX6_game_72 : decode cX6_game 72 = .ok (.aload_n 0, 1) := by decide +kernel
theorem dX6_game_73 : decode cX6_game 73 = .ok (.getfield 30, 3) := by decide +kernel
theorem dX6_game_76 : decode cX6_game 76 = .ok (.invokevirtual 189, 3) := by decide +kernel
theorem dX6_game_79 : decode cX6_game 79 = .ok (.iconst 1, 1) := by decide +kernel
theorem dX6_game_80 : decode cX6_game 80 = .ok (.iload 6, 2) := by decide +kernel
theorem dX6_game_82 : decode cX6_game 82 = .ok (.ishl, 1) := by decide +kernel
theorem dX6_game_83 : decode cX6_game 83 = .ok (.ixor, 1) := by decide +kernel
theorem dX6_game_84 : decode cX6_game 84 = .ok (.invokevirtual 193, 3) := by decide +kernel
theorem dX6_game_87 : decode cX6_game 87 = .ok (.istore 8, 2) := by decide +kernel
theorem dX6_game_89 : decode cX6_game 89 = .ok (.aload_n 0, 1) := by decide +kernel
theorem dX6_game_90 : decode cX6_game 90 = .ok (.aload 5, 2) := by decide +kernel
theorem dX6_game_92 : decode cX6_game 92 = .ok (.aload_n 0, 1) := by decide +kernel
theorem dX6_game_93 : decode cX6_game 93 = .ok (.getfield 30, 3) := by decide +kernel
theorem dX6_game_96 : decode cX6_game 96 = .ok (.invokevirtual 189, 3) := by decide +kernel
theorem dX6_game_99 : decode cX6_game 99 = .ok (.iconst 1, 1) := by decide +kernel
theorem dX6_game_100 : decode cX6_game 100 = .ok (.iload 7, 2) := by decide +kernel
theorem dX6_game_102 : decode cX6_game 102 = .ok (.ishl, 1) := by decide +kernel
theorem dX6_game_103 : decode cX6_game 103 = .ok (.ixor, 1) := by decide +kernel
theorem dX6_game_104 : decode cX6_game 104 = .ok (.invokevirtual 193, 3) := by decide +kernel
theorem dX6_game_107 : decode cX6_game 107 = .ok (.istore 9, 2) := by decide +kernel
theorem dX6_game_109 : decode cX6_game 109 = .ok (.iload 9, 2) := by decide +kernel
theorem dX6_game_111 : decode cX6_game 111 = .ok (.iload 8, 2) := by decide +kernel
theorem dX6_game_113 : decode cX6_game 113 = .ok (.if_icmp .le 7, 3) := by decide +kernel
theorem dX6_game_116 : decode cX6_game 116 = .ok (.iconst 1, 1) := by decide +kernel
theorem dX6_game_117 : decode cX6_game 117 = .ok (.goto 4, 3) := by decide +kernel
theorem dX6_game_120 : decode cX6_game 120 = .ok (.iconst 0, 1) := by decide +kernel
theorem dX6_game_121 : decode cX6_game 121 = .ok (.istore 10, 2) := by decide +kernel
theorem dX6_game_123 : decode cX6_game 123 = .ok (.iload_n 3, 1) := by decide +kernel
theorem dX6_game_124 : decode cX6_game 124 = .ok (.ifCond .ne 14, 3) := by decide +kernel
theorem dX6_game_127 : decode cX6_game 127 = .ok (.iload 10, 2) := by decide +kernel
theorem dX6_game_129 : decode cX6_game 129 = .ok (.ifCond .eq 7, 3) := by decide +kernel
theorem dX6_game_132 : decode cX6_game 132 = .ok (.iconst 1, 1) := by decide +kernel
theorem dX6_game_133 : decode cX6_game 133 = .ok (.goto 4, 3) := by decide +kernel
theorem dX6_game_136 : decode cX6_game 136 = .ok (.iconst 0, 1) := by decide +kernel
theorem dX6_game_137 : decode cX6_game 137 = .ok (.ireturn, 1) := by decide +kernel
theorem dX6_game_138 : decode cX6_game 138 = .ok (.iload_n 3, 1) := by decide +kernel
theorem dX6_game_139 : decode cX6_game 139 = .ok (.iconst 1, 1) := by decide +kernel
theorem dX6_game_140 : decode cX6_game 140 = .ok (.if_icmp .ne 16, 3) := by decide +kernel
theorem dX6_game_143 : decode cX6_game 143 = .ok (.iload 10, 2) := by decide +kernel
theorem dX6_game_145 : decode cX6_game 145 = .ok (.ifCond .eq 8, 3) := by decide +kernel
theorem dX6_game_148 : decode cX6_game 148 = .ok (.iload 9, 2) := by decide +kernel
theorem dX6_game_150 : decode cX6_game 150 = .ok (.goto 5, 3) := by decide +kernel
theorem dX6_game_153 : decode cX6_game 153 = .ok (.iload 8, 2) := by decide +kernel
theorem dX6_game_155 : decode cX6_game 155 = .ok (.ireturn, 1) := by decide +kernel
theorem dX6_game_156 : decode cX6_game 156 = .ok (.iload 10, 2) := by decide +kernel
theorem dX6_game_158 : decode cX6_game 158 = .ok (.ifCond .eq 8, 3) := by decide +kernel
theorem dX6_game_161 : decode cX6_game 161 = .ok (.iload 7, 2) := by decide +kernel
theorem dX6_game_163 : decode cX6_game 163 = .ok (.goto 5, 3) := by decide +kernel
theorem dX6_game_166 : decode cX6_game 166 = .ok (.iload 6, 2) := by decide +kernel
theorem dX6_game_168 : decode cX6_game 168 = .ok (.ireturn, 1) := by decide +kernel
theorem dX6_mend_0 : decode cX6_mend 0 = .ok (.aload_n 0, 1) := by decide +kernel
theorem dX6_mend_1 : decode cX6_mend 1 = .ok (.getfield 30, 3) := by decide +kernel
theorem dX6_mend_4 : decode cX6_mend 4 = .ok (.iload_n 1, 1) := by decide +kernel
theorem dX6_mend_5 : decode cX6_mend 5 = .ok (.invokevirtual 132, 3) := by decide +kernel
theorem dX6_mend_8 : decode cX6_mend 8 = .ok (.ifCond .eq 24, 3) := by decide +kernel
theorem dX6_mend_11 : decode cX6_mend 11 = .ok (.iload_n 2, 1) := by decide +kernel
theorem dX6_mend_12 : decode cX6_mend 12 = .ok (.iconst 0, 1) := by decide +kernel
theorem dX6_mend_13 : decode cX6_mend 13 = .ok (.sipush 999, 3) := by decide +kernel
theorem dX6_mend_16 : decode cX6_mend 16 = .ok (.invokestatic 87, 3) := by decide +kernel
theorem dX6_mend_19 : decode cX6_mend 19 = .ok (.ifCond .eq 13, 3) := by decide +kernel
theorem dX6_mend_22 : decode cX6_mend 22 = .ok (.iload_n 3, 1) := by decide +kernel
theorem dX6_mend_23 : decode cX6_mend 23 = .ok (.iconst 1, 1) := by decide +kernel
theorem dX6_mend_24 : decode cX6_mend 24 = .ok (.bipush 99, 2) := by decide +kernel
theorem dX6_mend_26 : decode cX6_mend 26 = .ok (.invokestatic 87, 3) := by decide +kernel
theorem dX6_mend_29 : decode cX6_mend 29 = .ok (.ifCond .ne 5, 3) := by decide +kernel
theorem dX6_mend_32 : decode cX6_mend 32 = .ok (.iconst 0, 1) := by decide +kernel
theorem dX6_mend_33 : decode cX6_mend 33 = .ok (.ireturn, 1) := by decide +kernel
theorem dX6_mend_34 : decode cX6_mend 34 = .ok (.aload_n 0, 1) := by decide +kernel
theorem dX6_mend_35 : decode cX6_mend 35 = .ok (.getfield 30, 3) := by decide +kernel
theorem dX6_mend_38 : decode cX6_mend 38 = .ok (.getfield 103, 3) := by decide +kernel
theorem dX6_mend_41 : decode cX6_mend 41 = .ok (.iload_n 1, 1) := by decide +kernel
theorem dX6_mend_42 : decode cX6_mend 42 = .ok (.iload_n 2, 1) := by decide +kernel
theorem dX6_mend_43 : decode cX6_mend 43 = .ok (.iastore, 1) := by decide +kernel
theorem dX6_mend_44 : decode cX6_mend 44 = .ok (.aload_n 0, 1) := by decide +kernel
theorem dX6_mend_45 : decode cX6_mend 45 = .ok (.getfield 30, 3) := by decide +kernel
theorem dX6_mend_48 : decode cX6_mend 48 = .ok (.getfield 106, 3) := by decide +kernel
theorem dX6_mend_51 : decode cX6_mend 51 = .ok (.iload_n 1, 1) := by decide +kernel
theorem dX6_mend_52 : decode cX6_mend 52 = .ok (.iload_n 2, 1) := by decide +kernel
theorem dX6_mend_53 : decode cX6_mend 53 = .ok (.aload_n 0, 1) := by decide +kernel
theorem dX6_mend_54 : decode cX6_mend 54 = .ok (.getfield 30, 3) := by decide +kernel
theorem dX6_mend_57 : decode cX6_mend 57 = .ok (.getfield 106, 3) := by decide +kernel
theorem dX6_mend_60 : decode cX6_mend 60 = .ok (.iload_n 1, 1) := by decide +kernel
theorem dX6_mend_61 : decode cX6_mend 61 = .ok (.iaload, 1) := by decide +kernel
theorem dX6_mend_62 : decode cX6_mend 62 = .ok (.invokestatic 213, 3) := by decide +kernel
theorem dX6_mend_65 : decode cX6_mend 65 = .ok (.iastore, 1) := by decide +kernel
theorem dX6_mend_66 : decode cX6_mend 66 = .ok (.aload_n 0, 1) := by decide +kernel
theorem dX6_mend_67 : decode cX6_mend 67 = .ok (.getfield 30, 3) := by decide +kernel
theorem dX6_mend_70 : decode cX6_mend 70 = .ok (.getfield 100, 3) := by decide +kernel
theorem dX6_mend_73 : decode cX6_mend 73 = .ok (.iload_n 1, 1) := by decide +kernel
theorem dX6_mend_74 : decode cX6_mend 74 = .ok (.iload_n 3, 1) := by decide +kernel
theorem dX6_mend_75 : decode cX6_mend 75 = .ok (.iastore, 1) := by decide +kernel
theorem dX6_mend_76 : decode cX6_mend 76 = .ok (.iconst 1, 1) := by decide +kernel
theorem dX6_mend_77 : decode cX6_mend 77 = .ok (.ireturn, 1) := by decide +kernel
theorem dX6_count_0 : decode cX6_count 0 = .ok (.iload_n 1, 1) := by decide +kernel
theorem dX6_count_1 : decode cX6_count 1 = .ok (.tableswitch 57 0 3 #[31, 36, 44, 49], 31) := by decide +kernel
theorem dX6_count_32 : decode cX6_count 32 = .ok (.aload_n 0, 1) := by decide +kernel
theorem dX6_count_33 : decode cX6_count 33 = .ok (.getfield 57, 3) := by decide +kernel
theorem dX6_count_36 : decode cX6_count 36 = .ok (.ireturn, 1) := by decide +kernel
theorem dX6_count_37 : decode cX6_count 37 = .ok (.aload_n 0, 1) := by decide +kernel
theorem dX6_count_38 : decode cX6_count 38 = .ok (.getfield 30, 3) := by decide +kernel
theorem dX6_count_41 : decode cX6_count 41 = .ok (.getfield 97, 3) := by decide +kernel
theorem dX6_count_44 : decode cX6_count 44 = .ok (.ireturn, 1) := by decide +kernel
theorem dX6_count_45 : decode cX6_count 45 = .ok (.aload_n 0, 1) := by decide +kernel
theorem dX6_count_46 : decode cX6_count 46 = .ok (.getfield 61, 3) := by decide +kernel
theorem dX6_count_49 : decode cX6_count 49 = .ok (.ireturn, 1) := by decide +kernel
theorem dX6_count_50 : decode cX6_count 50 = .ok (.aload_n 0, 1) := by decide +kernel
theorem dX6_count_51 : decode cX6_count 51 = .ok (.getfield 10, 3) := by decide +kernel
theorem dX6_count_54 : decode cX6_count 54 = .ok (.getfield 68, 3) := by decide +kernel
theorem dX6_count_57 : decode cX6_count 57 = .ok (.ireturn, 1) := by decide +kernel
theorem dX6_count_58 : decode cX6_count 58 = .ok (.iconst (-1), 1) := by decide +kernel
theorem dX6_count_59 : decode cX6_count 59 = .ok (.ireturn, 1) := by decide +kernel
theorem dX6_isWithin_0 : decode cX6_isWithin 0 = .ok (.iload_n 0, 1) := by decide +kernel
theorem dX6_isWithin_1 : decode cX6_isWithin 1 = .ok (.iload_n 1, 1) := by decide +kernel
theorem dX6_isWithin_2 : decode cX6_isWithin 2 = .ok (.if_icmp .lt 12, 3) := by decide +kernel
theorem dX6_isWithin_5 : decode cX6_isWithin 5 = .ok (.iload_n 0, 1) := by decide +kernel
theorem dX6_isWithin_6 : decode cX6_isWithin 6 = .ok (.iload_n 2, 1) := by decide +kernel
theorem dX6_isWithin_7 : decode cX6_isWithin 7 = .ok (.if_icmp .gt 7, 3) := by decide +kernel
theorem dX6_isWithin_10 : decode cX6_isWithin 10 = .ok (.iconst 1, 1) := by decide +kernel
theorem dX6_isWithin_11 : decode cX6_isWithin 11 = .ok (.goto 4, 3) := by decide +kernel
theorem dX6_isWithin_14 : decode cX6_isWithin 14 = .ok (.iconst 0, 1) := by decide +kernel
theorem dX6_isWithin_15 : decode cX6_isWithin 15 = .ok (.ireturn, 1) := by decide +kernel
theorem dX6_coverAt_0 : decode cX6_coverAt 0 = .ok (.iload_n 1, 1) := by decide +kernel
theorem dX6_coverAt_1 : decode cX6_coverAt 1 = .ok (.ifCond .lt 20, 3) := by decide +kernel
theorem dX6_coverAt_4 : decode cX6_coverAt 4 = .ok (.iload_n 1, 1) := by decide +kernel
theorem dX6_coverAt_5 : decode cX6_coverAt 5 = .ok (.aload_n 0, 1) := by decide +kernel
theorem dX6_coverAt_6 : decode cX6_coverAt 6 = .ok (.getfield 57, 3) := by decide +kernel
theorem dX6_coverAt_9 : decode cX6_coverAt 9 = .ok (.if_icmp .ge 12, 3) := by decide +kernel
theorem dX6_coverAt_12 : decode cX6_coverAt 12 = .ok (.aload_n 0, 1) := by decide +kernel
theorem dX6_coverAt_13 : decode cX6_coverAt 13 = .ok (.getfield 18, 3) := by decide +kernel
theorem dX6_coverAt_16 : decode cX6_coverAt 16 = .ok (.iload_n 1, 1) := by decide +kernel
theorem dX6_coverAt_17 : decode cX6_coverAt 17 = .ok (.aaload, 1) := by decide +kernel
theorem dX6_coverAt_18 : decode cX6_coverAt 18 = .ok (.goto 4, 3) := by decide +kernel
theorem dX6_coverAt_21 : decode cX6_coverAt 21 = .ok (.aconst_null, 1) := by decide +kernel
theorem dX6_coverAt_22 : decode cX6_coverAt 22 = .ok (.areturn, 1) := by decide +kernel
theorem dX6_greatestFor_0 : decode cX6_greatestFor 0 = .ok (.aload_n 0, 1) := by decide +kernel
theorem dX6_greatestFor_1 : decode cX6_greatestFor 1 = .ok (.getfield 46, 3) := by decide +kernel
theorem dX6_greatestFor_4 : decode cX6_greatestFor 4 = .ok (.aload_n 1, 1) := by decide +kernel
theorem dX6_greatestFor_5 : decode cX6_greatestFor 5 = .ok (.iload_n 2, 1) := by decide +kernel
theorem dX6_greatestFor_6 : decode cX6_greatestFor 6 = .ok (.invokevirtual 170, 3) := by decide +kernel
theorem dX6_greatestFor_9 : decode cX6_greatestFor 9 = .ok (.ifCond .eq 13, 3) := by decide +kernel
theorem dX6_greatestFor_12 : decode cX6_greatestFor 12 = .ok (.aload_n 0, 1) := by decide +kernel
theorem dX6_greatestFor_13 : decode cX6_greatestFor 13 = .ok (.getfield 46, 3) := by decide +kernel
theorem dX6_greatestFor_16 : decode cX6_greatestFor 16 = .ok (.getfield 173, 3) := by decide +kernel
theorem dX6_greatestFor_19 : decode cX6_greatestFor 19 = .ok (.goto 5, 3) := by decide +kernel
theorem dX6_greatestFor_22 : decode cX6_greatestFor 22 = .ok (.ldc 141, 2) := by decide +kernel
theorem dX6_greatestFor_24 : decode cX6_greatestFor 24 = .ok (.ireturn, 1) := by decide +kernel
theorem dX6_greatestByOwnPartings_0 : decode cX6_greatestByOwnPartings 0 = .ok (.iconst 0, 1) := by decide +kernel
theorem dX6_greatestByOwnPartings_1 : decode cX6_greatestByOwnPartings 1 = .ok (.istore_n 2, 1) := by decide +kernel
theorem dX6_greatestByOwnPartings_2 : decode cX6_greatestByOwnPartings 2 = .ok (.iconst 0, 1) := by decide +kernel
theorem dX6_greatestByOwnPartings_3 : decode cX6_greatestByOwnPartings 3 = .ok (.istore_n 3, 1) := by decide +kernel
theorem dX6_greatestByOwnPartings_4 : decode cX6_greatestByOwnPartings 4 = .ok (.iload_n 3, 1) := by decide +kernel
theorem dX6_greatestByOwnPartings_5 : decode cX6_greatestByOwnPartings 5 = .ok (.aload_n 0, 1) := by decide +kernel
theorem dX6_greatestByOwnPartings_6 : decode cX6_greatestByOwnPartings 6 = .ok (.getfield 57, 3) := by decide +kernel
theorem dX6_greatestByOwnPartings_9 : decode cX6_greatestByOwnPartings 9 = .ok (.if_icmp .ge 62, 3) := by decide +kernel
theorem dX6_greatestByOwnPartings_12 : decode cX6_greatestByOwnPartings 12 = .ok (.aload_n 0, 1) := by decide +kernel
theorem dX6_greatestByOwnPartings_13 : decode cX6_greatestByOwnPartings 13 = .ok (.iload_n 3, 1) := by decide +kernel
theorem dX6_greatestByOwnPartings_14 : decode cX6_greatestByOwnPartings 14 = .ok (.invokevirtual 83, 3) := by decide +kernel
theorem dX6_greatestByOwnPartings_17 : decode cX6_greatestByOwnPartings 17 = .ok (.astore 4, 2) := by decide +kernel
theorem dX6_greatestByOwnPartings_19 : decode cX6_greatestByOwnPartings 19 = .ok (.aload 4, 2) := by decide +kernel
theorem dX6_greatestByOwnPartings_21 : decode cX6_greatestByOwnPartings 21 = .ok (.ifnull 44, 3) := by decide +kernel
theorem dX6_greatestByOwnPartings_24 : decode cX6_greatestByOwnPartings 24 = .ok (.iload_n 1, 1) := by decide +kernel
theorem dX6_greatestByOwnPartings_25 : decode cX6_greatestByOwnPartings 25 = .ok (.iconst 1, 1) := by decide +kernel
theorem dX6_greatestByOwnPartings_26 : decode cX6_greatestByOwnPartings 26 = .ok (.iload_n 3, 1) := by decide +kernel
theorem dX6_greatestByOwnPartings_27 : decode cX6_greatestByOwnPartings 27 = .ok (.ishl, 1) := by decide +kernel
theorem dX6_greatestByOwnPartings_28 : decode cX6_greatestByOwnPartings 28 = .ok (.iand, 1) := by decide +kernel
theorem dX6_greatestByOwnPartings_29 : decode cX6_greatestByOwnPartings 29 = .ok (.ifCond .ne 6, 3) := by decide +kernel
theorem dX6_greatestByOwnPartings_32 : decode cX6_greatestByOwnPartings 32 = .ok (.goto 33, 3) := by decide +kernel
theorem dX6_greatestByOwnPartings_35 : decode cX6_greatestByOwnPartings 35 = .ok (.aload_n 0, 1) := by decide +kernel
theorem dX6_greatestByOwnPartings_36 : decode cX6_greatestByOwnPartings 36 = .ok (.aload 4, 2) := by decide +kernel
theorem dX6_greatestByOwnPartings_38 : decode cX6_greatestByOwnPartings 38 = .ok (.aload_n 0, 1) := by decide +kernel
theorem dX6_greatestByOwnPartings_39 : decode cX6_greatestByOwnPartings 39 = .ok (.getfield 30, 3) := by decide +kernel
theorem dX6_greatestByOwnPartings_42 : decode cX6_greatestByOwnPartings 42 = .ok (.invokevirtual 189, 3) := by decide +kernel
theorem dX6_greatestByOwnPartings_45 : decode cX6_greatestByOwnPartings 45 = .ok (.invokevirtual 193, 3) := by decide +kernel
theorem dX6_greatestByOwnPartings_48 : decode cX6_greatestByOwnPartings 48 = .ok (.istore 5, 2) := by decide +kernel
theorem dX6_greatestByOwnPartings_50 : decode cX6_greatestByOwnPartings 50 = .ok (.iload 5, 2) := by decide +kernel
theorem dX6_greatestByOwnPartings_52 : decode cX6_greatestByOwnPartings 52 = .ok (.ldc 141, 2) := by decide +kernel
theorem dX6_greatestByOwnPartings_54 : decode cX6_greatestByOwnPartings 54 = .ok (.if_icmp .ne 6, 3) := by decide +kernel
theorem dX6_greatestByOwnPartings_57 : decode cX6_greatestByOwnPartings 57 = .ok (.ldc 141, 2) := by decide +kernel
theorem dX6_greatestByOwnPartings_59 : decode cX6_greatestByOwnPartings 59 = .ok (.ireturn, 1) := by decide +kernel
theorem dX6_greatestByOwnPartings_60 : decode cX6_greatestByOwnPartings 60 = .ok (.iload_n 2, 1) := by decide +kernel
theorem dX6_greatestByOwnPartings_61 : decode cX6_greatestByOwnPartings 61 = .ok (.iload 5, 2) := by decide +kernel
theorem dX6_greatestByOwnPartings_63 : decode cX6_greatestByOwnPartings 63 = .ok (.iadd, 1) := by decide +kernel
theorem dX6_greatestByOwnPartings_64 : decode cX6_greatestByOwnPartings 64 = .ok (.istore_n 2, 1) := by decide +kernel
theorem dX6_greatestByOwnPartings_65 : decode cX6_greatestByOwnPartings 65 = .ok (.iinc 3 1, 3) := by decide +kernel
theorem dX6_greatestByOwnPartings_68 : decode cX6_greatestByOwnPartings 68 = .ok (.goto (-64), 3) := by decide +kernel
theorem dX6_greatestByOwnPartings_71 : decode cX6_greatestByOwnPartings 71 = .ok (.iload_n 2, 1) := by decide +kernel
theorem dX6_greatestByOwnPartings_72 : decode cX6_greatestByOwnPartings 72 = .ok (.ireturn, 1) := by decide +kernel
theorem dX6_greatestByOneParting_0 : decode cX6_greatestByOneParting 0 = .ok (.aload_n 0, 1) := by decide +kernel
theorem dX6_greatestByOneParting_1 : decode cX6_greatestByOneParting 1 = .ok (.getfield 46, 3) := by decide +kernel
theorem dX6_greatestByOneParting_4 : decode cX6_greatestByOneParting 4 = .ok (.invokevirtual 218, 3) := by decide +kernel
theorem dX6_greatestByOneParting_7 : decode cX6_greatestByOneParting 7 = .ok (.iconst 0, 1) := by decide +kernel
theorem dX6_greatestByOneParting_8 : decode cX6_greatestByOneParting 8 = .ok (.istore_n 2, 1) := by decide +kernel
theorem dX6_greatestByOneParting_9 : decode cX6_greatestByOneParting 9 = .ok (.iload_n 2, 1) := by decide +kernel
theorem dX6_greatestByOneParting_10 : decode cX6_greatestByOneParting 10 = .ok (.aload_n 0, 1) := by decide +kernel
theorem dX6_greatestByOneParting_11 : decode cX6_greatestByOneParting 11 = .ok (.getfield 57, 3) := by decide +kernel
theorem dX6_greatestByOneParting_14 : decode cX6_greatestByOneParting 14 = .ok (.if_icmp .ge 35, 3) := by decide +kernel
theorem dX6_greatestByOneParting_17 : decode cX6_greatestByOneParting 17 = .ok (.aload_n 0, 1) := by decide +kernel
theorem dX6_greatestByOneParting_18 : decode cX6_greatestByOneParting 18 = .ok (.iload_n 2, 1) := by decide +kernel
theorem dX6_greatestByOneParting_19 : decode cX6_greatestByOneParting 19 = .ok (.invokevirtual 83, 3) := by decide +kernel
theorem dX6_greatestByOneParting_22 : decode cX6_greatestByOneParting 22 = .ok (.astore_n 3, 1) := by decide +kernel
theorem dX6_greatestByOneParting_23 : decode cX6_greatestByOneParting 23 = .ok (.aload_n 3, 1) := by decide +kernel
theorem dX6_greatestByOneParting_24 : decode cX6_greatestByOneParting 24 = .ok (.ifnull 19, 3) := by decide +kernel
theorem dX6_greatestByOneParting_27 : decode cX6_greatestByOneParting 27 = .ok (.iload_n 1, 1) := by decide +kernel
theorem dX6_greatestByOneParting_28 : decode cX6_greatestByOneParting 28 = .ok (.iconst 1, 1) := by decide +kernel
theorem dX6_greatestByOneParting_29 : decode cX6_greatestByOneParting 29 = .ok (.iload_n 2, 1) := by decide +kernel
theorem dX6_greatestByOneParting_30 : decode cX6_greatestByOneParting 30 = .ok (.ishl, 1) := by decide +kernel
theorem dX6_greatestByOneParting_31 : decode cX6_greatestByOneParting 31 = .ok (.iand, 1) := by decide +kernel
theorem dX6_greatestByOneParting_32 : decode cX6_greatestByOneParting 32 = .ok (.ifCond .eq 11, 3) := by decide +kernel
theorem dX6_greatestByOneParting_35 : decode cX6_greatestByOneParting 35 = .ok (.aload_n 0, 1) := by decide +kernel
theorem dX6_greatestByOneParting_36 : decode cX6_greatestByOneParting 36 = .ok (.getfield 46, 3) := by decide +kernel
theorem dX6_greatestByOneParting_39 : decode cX6_greatestByOneParting 39 = .ok (.aload_n 3, 1) := by decide +kernel
theorem dX6_greatestByOneParting_40 : decode cX6_greatestByOneParting 40 = .ok (.invokevirtual 221, 3) := by decide +kernel
theorem dX6_greatestByOneParting_43 : decode cX6_greatestByOneParting 43 = .ok (.iinc 2 1, 3) := by decide +kernel
theorem dX6_greatestByOneParting_46 : decode cX6_greatestByOneParting 46 = .ok (.goto (-37), 3) := by decide +kernel
theorem dX6_greatestByOneParting_49 : decode cX6_greatestByOneParting 49 = .ok (.aload_n 0, 1) := by decide +kernel
theorem dX6_greatestByOneParting_50 : decode cX6_greatestByOneParting 50 = .ok (.getfield 46, 3) := by decide +kernel
theorem dX6_greatestByOneParting_53 : decode cX6_greatestByOneParting 53 = .ok (.aload_n 0, 1) := by decide +kernel
theorem dX6_greatestByOneParting_54 : decode cX6_greatestByOneParting 54 = .ok (.getfield 30, 3) := by decide +kernel
theorem dX6_greatestByOneParting_57 : decode cX6_greatestByOneParting 57 = .ok (.invokevirtual 189, 3) := by decide +kernel
theorem dX6_greatestByOneParting_60 : decode cX6_greatestByOneParting 60 = .ok (.invokevirtual 224, 3) := by decide +kernel
theorem dX6_greatestByOneParting_63 : decode cX6_greatestByOneParting 63 = .ok (.ifCond .eq 13, 3) := by decide +kernel
theorem dX6_greatestByOneParting_66 : decode cX6_greatestByOneParting 66 = .ok (.aload_n 0, 1) := by decide +kernel
theorem dX6_greatestByOneParting_67 : decode cX6_greatestByOneParting 67 = .ok (.getfield 46, 3) := by decide +kernel
theorem dX6_greatestByOneParting_70 : decode cX6_greatestByOneParting 70 = .ok (.getfield 173, 3) := by decide +kernel
theorem dX6_greatestByOneParting_73 : decode cX6_greatestByOneParting 73 = .ok (.goto 5, 3) := by decide +kernel
theorem dX6_greatestByOneParting_76 : decode cX6_greatestByOneParting 76 = .ok (.ldc 141, 2) := by decide +kernel
theorem dX6_greatestByOneParting_78 : decode cX6_greatestByOneParting 78 = .ok (.ireturn, 1) := by decide +kernel
theorem dX6_lossOfGreatestWeight_0 : decode cX6_lossOfGreatestWeight 0 = .ok (.iconst (-1), 1) := by decide +kernel
theorem dX6_lossOfGreatestWeight_1 : decode cX6_lossOfGreatestWeight 1 = .ok (.istore_n 3, 1) := by decide +kernel
theorem dX6_lossOfGreatestWeight_2 : decode cX6_lossOfGreatestWeight 2 = .ok (.ldc 141, 2) := by decide +kernel
theorem dX6_lossOfGreatestWeight_4 : decode cX6_lossOfGreatestWeight 4 = .ok (.istore 4, 2) := by decide +kernel
theorem dX6_lossOfGreatestWeight_6 : decode cX6_lossOfGreatestWeight 6 = .ok (.iconst 0, 1) := by decide +kernel
theorem dX6_lossOfGreatestWeight_7 : decode cX6_lossOfGreatestWeight 7 = .ok (.istore 5, 2) := by decide +kernel
theorem dX6_lossOfGreatestWeight_9 : decode cX6_lossOfGreatestWeight 9 = .ok (.iload 5, 2) := by decide +kernel
theorem dX6_lossOfGreatestWeight_11 : decode cX6_lossOfGreatestWeight 11 = .ok (.aload_n 0, 1) := by decide +kernel
theorem dX6_lossOfGreatestWeight_12 : decode cX6_lossOfGreatestWeight 12 = .ok (.getfield 30, 3) := by decide +kernel
theorem dX6_lossOfGreatestWeight_15 : decode cX6_lossOfGreatestWeight 15 = .ok (.getfield 97, 3) := by decide +kernel
theorem dX6_lossOfGreatestWeight_18 : decode cX6_lossOfGreatestWeight 18 = .ok (.if_icmp .ge 60, 3) := by decide +kernel
theorem dX6_lossOfGreatestWeight_21 : decode cX6_lossOfGreatestWeight 21 = .ok (.aload_n 0, 1) := by decide +kernel
theorem dX6_lossOfGreatestWeight_22 : decode cX6_lossOfGreatestWeight 22 = .ok (.aload_n 1, 1) := by decide +kernel
theorem dX6_lossOfGreatestWeight_23 : decode cX6_lossOfGreatestWeight 23 = .ok (.aload_n 0, 1) := by decide +kernel
theorem dX6_lossOfGreatestWeight_24 : decode cX6_lossOfGreatestWeight 24 = .ok (.getfield 30, 3) := by decide +kernel
theorem dX6_lossOfGreatestWeight_27 : decode cX6_lossOfGreatestWeight 27 = .ok (.invokevirtual 189, 3) := by decide +kernel
theorem dX6_lossOfGreatestWeight_30 : decode cX6_lossOfGreatestWeight 30 = .ok (.iconst 1, 1) := by decide +kernel
theorem dX6_lossOfGreatestWeight_31 : decode cX6_lossOfGreatestWeight 31 = .ok (.iload 5, 2) := by decide +kernel
theorem dX6_lossOfGreatestWeight_33 : decode cX6_lossOfGreatestWeight 33 = .ok (.ishl, 1) := by decide +kernel
theorem dX6_lossOfGreatestWeight_34 : decode cX6_lossOfGreatestWeight 34 = .ok (.ixor, 1) := by decide +kernel
theorem dX6_lossOfGreatestWeight_35 : decode cX6_lossOfGreatestWeight 35 = .ok (.invokevirtual 193, 3) := by decide +kernel
theorem dX6_lossOfGreatestWeight_38 : decode cX6_lossOfGreatestWeight 38 = .ok (.istore 6, 2) := by decide +kernel
theorem dX6_lossOfGreatestWeight_40 : decode cX6_lossOfGreatestWeight 40 = .ok (.iload 6, 2) := by decide +kernel
theorem dX6_lossOfGreatestWeight_42 : decode cX6_lossOfGreatestWeight 42 = .ok (.ldc 141, 2) := by decide +kernel
theorem dX6_lossOfGreatestWeight_44 : decode cX6_lossOfGreatestWeight 44 = .ok (.if_icmp .ne 9, 3) := by decide +kernel
theorem dX6_lossOfGreatestWeight_47 : decode cX6_lossOfGreatestWeight 47 = .ok (.iload_n 2, 1) := by decide +kernel
theorem dX6_lossOfGreatestWeight_48 : decode cX6_lossOfGreatestWeight 48 = .ok (.ifCond .eq 24, 3) := by decide +kernel
theorem dX6_lossOfGreatestWeight_51 : decode cX6_lossOfGreatestWeight 51 = .ok (.iconst (-1), 1) := by decide +kernel
theorem dX6_lossOfGreatestWeight_52 : decode cX6_lossOfGreatestWeight 52 = .ok (.ireturn, 1) := by decide +kernel
theorem dX6_lossOfGreatestWeight_53 : decode cX6_lossOfGreatestWeight 53 = .ok (.iload_n 3, 1) := by decide +kernel
theorem dX6_lossOfGreatestWeight_54 : decode cX6_lossOfGreatestWeight 54 = .ok (.iconst (-1), 1) := by decide +kernel
theorem dX6_lossOfGreatestWeight_55 : decode cX6_lossOfGreatestWeight 55 = .ok (.if_icmp .eq 10, 3) := by decide +kernel
theorem dX6_lossOfGreatestWeight_58 : decode cX6_lossOfGreatestWeight 58 = .ok (.iload 6, 2) := by decide +kernel
theorem dX6_lossOfGreatestWeight_60 : decode cX6_lossOfGreatestWeight 60 = .ok (.iload 4, 2) := by decide +kernel
theorem dX6_lossOfGreatestWeight_62 : decode cX6_lossOfGreatestWeight 62 = .ok (.if_icmp .ge 10, 3) := by decide +kernel
theorem dX6_lossOfGreatestWeight_65 : decode cX6_lossOfGreatestWeight 65 = .ok (.iload 5, 2) := by decide +kernel
theorem dX6_lossOfGreatestWeight_67 : decode cX6_lossOfGreatestWeight 67 = .ok (.istore_n 3, 1) := by decide +kernel
theorem dX6_lossOfGreatestWeight_68 : decode cX6_lossOfGreatestWeight 68 = .ok (.iload 6, 2) := by decide +kernel
theorem dX6_lossOfGreatestWeight_70 : decode cX6_lossOfGreatestWeight 70 = .ok (.istore 4, 2) := by decide +kernel
theorem dX6_lossOfGreatestWeight_72 : decode cX6_lossOfGreatestWeight 72 = .ok (.iinc 5 1, 3) := by decide +kernel
theorem dX6_lossOfGreatestWeight_75 : decode cX6_lossOfGreatestWeight 75 = .ok (.goto (-66), 3) := by decide +kernel
theorem dX6_lossOfGreatestWeight_78 : decode cX6_lossOfGreatestWeight 78 = .ok (.iload_n 3, 1) := by decide +kernel
theorem dX6_lossOfGreatestWeight_79 : decode cX6_lossOfGreatestWeight 79 = .ok (.ireturn, 1) := by decide +kernel
