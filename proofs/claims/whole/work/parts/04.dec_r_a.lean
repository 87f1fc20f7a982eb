theorem dX7_init_0 : decode cX7_init 0 = .ok (.aload_n 0, 1) := by decide +kernel
theorem dX7_init_1 : decode cX7_init 1 = .ok (.invokespecial 1, 3) := by decide +kernel
theorem dX7_init_4 : decode cX7_init 4 = .ok (.aload_n 0, 1) := by decide +kernel
theorem dX7_init_5 : decode cX7_init 5 = .ok (.bipush 120, 2) := by decide +kernel
theorem dX7_init_7 : decode cX7_init 7 = .ok (.newarray .byte, 2) := by decide +kernel
theorem dX7_init_9 : decode cX7_init 9 = .ok (.putfield 9, 3) := by decide +kernel
theorem dX7_init_12 : decode cX7_init 12 = .ok (.aload_n 0, 1) := by decide +kernel
theorem dX7_init_13 : decode cX7_init 13 = .ok (.bipush 70, 2) := by decide +kernel
theorem dX7_init_15 : decode cX7_init 15 = .ok (.newarray .int, 2) := by decide +kernel
theorem dX7_init_17 : decode cX7_init 17 = .ok (.putfield 13, 3) := by decide +kernel
theorem dX7_init_20 : decode cX7_init 20 = .ok (.aload_n 0, 1) := by decide +kernel
theorem dX7_init_21 : decode cX7_init 21 = .ok (.bipush 12, 2) := by decide +kernel
theorem dX7_init_23 : decode cX7_init 23 = .ok (.newarray .int, 2) := by decide +kernel
theorem dX7_init_25 : decode cX7_init 25 = .ok (.putfield 17, 3) := by decide +kernel
theorem dX7_init_28 : decode cX7_init 28 = .ok (.aload_n 0, 1) := by decide +kernel
theorem dX7_init_29 : decode cX7_init 29 = .ok (.bipush 12, 2) := by decide +kernel
theorem dX7_init_31 : decode cX7_init 31 = .ok (.newarray .int, 2) := by decide +kernel
theorem dX7_init_33 : decode cX7_init 33 = .ok (.putfield 20, 3) := by decide +kernel
theorem dX7_init_36 : decode cX7_init 36 = .ok (.aload_n 0, 1) := by decide +kernel
theorem dX7_init_37 : decode cX7_init 37 = .ok (.bipush 12, 2) := by decide +kernel
theorem dX7_init_39 : decode cX7_init 39 = .ok (.newarray .int, 2) := by decide +kernel
theorem dX7_init_41 : decode cX7_init 41 = .ok (.putfield 23, 3) := by decide +kernel
theorem dX7_init_44 : decode cX7_init 44 = .ok (.aload_n 0, 1) := by decide +kernel
theorem dX7_init_45 : decode cX7_init 45 = .ok (.bipush 12, 2) := by decide +kernel
theorem dX7_init_47 : decode cX7_init 47 = .ok (.newarray .int, 2) := by decide +kernel
theorem dX7_init_49 : decode cX7_init 49 = .ok (.putfield 26, 3) := by decide +kernel
theorem dX7_init_52 : decode cX7_init 52 = .ok (.aload_n 0, 1) := by decide +kernel
theorem dX7_init_53 : decode cX7_init 53 = .ok (.bipush 12, 2) := by decide +kernel
theorem dX7_init_55 : decode cX7_init 55 = .ok (.newarray .int, 2) := by decide +kernel
theorem dX7_init_57 : decode cX7_init 57 = .ok (.putfield 29, 3) := by decide +kernel
theorem dX7_init_60 : decode cX7_init 60 = .ok (.aload_n 0, 1) := by decide +kernel
theorem dX7_init_61 : decode cX7_init 61 = .ok (.bipush 12, 2) := by decide +kernel
theorem dX7_init_63 : decode cX7_init 63 = .ok (.newarray .int, 2) := by decide +kernel
theorem dX7_init_65 : decode cX7_init 65 = .ok (.putfield 32, 3) := by decide +kernel
theorem dX7_init_68 : decode cX7_init 68 = .ok (.aload_n 0, 1) := by decide +kernel
theorem dX7_init_69 : decode cX7_init 69 = .ok (.bipush 12, 2) := by decide +kernel
theorem dX7_init_71 : decode cX7_init 71 = .ok (.newarray .int, 2) := by decide +kernel
theorem dX7_init_73 : decode cX7_init 73 = .ok (.putfield 35, 3) := by decide +kernel
theorem dX7_init_76 : decode cX7_init 76 = .ok (.aload_n 0, 1) := by decide +kernel
theorem dX7_init_77 : decode cX7_init 77 = .ok (.bipush 12, 2) := by decide +kernel
theorem dX7_init_79 : decode cX7_init 79 = .ok (.newarray .int, 2) := by decide +kernel
theorem dX7_init_81 : decode cX7_init 81 = .ok (.putfield 38, 3) := by decide +kernel
theorem dX7_init_84 : decode cX7_init 84 = .ok (.aload_n 0, 1) := by decide +kernel
theorem dX7_init_85 : decode cX7_init 85 = .ok (.bipush 12, 2) := by decide +kernel
theorem dX7_init_87 : decode cX7_init 87 = .ok (.newarray .int, 2) := by decide +kernel
theorem dX7_init_89 : decode cX7_init 89 = .ok (.putfield 41, 3) := by decide +kernel
theorem dX7_init_92 : decode cX7_init 92 = .ok (.aload_n 0, 1) := by decide +kernel
theorem dX7_init_93 : decode cX7_init 93 = .ok (.bipush 12, 2) := by decide +kernel
theorem dX7_init_95 : decode cX7_init 95 = .ok (.newarray .int, 2) := by decide +kernel
theorem dX7_init_97 : decode cX7_init 97 = .ok (.putfield 44, 3) := by decide +kernel
theorem dX7_init_100 : decode cX7_init 100 = .ok (.aload_n 0, 1) := by decide +kernel
theorem dX7_init_101 : decode cX7_init 101 = .ok (.bipush 12, 2) := by decide +kernel
theorem dX7_init_103 : decode cX7_init 103 = .ok (.newarray .int, 2) := by decide +kernel
theorem dX7_init_105 : decode cX7_init 105 = .ok (.putfield 47, 3) := by decide +kernel
theorem dX7_init_108 : decode cX7_init 108 = .ok (.aload_n 0, 1) := by decide +kernel
theorem dX7_init_109 : decode cX7_init 109 = .ok (.bipush 12, 2) := by decide +kernel
theorem dX7_init_111 : decode cX7_init 111 = .ok (.newarray .int, 2) := by decide +kernel
theorem dX7_init_113 : decode cX7_init 113 = .ok (.putfield 50, 3) := by decide +kernel
theorem dX7_init_116 : decode cX7_init 116 = .ok (.aload_n 0, 1) := by decide +kernel
theorem dX7_init_117 : decode cX7_init 117 = .ok (.bipush 12, 2) := by decide +kernel
theorem dX7_init_119 : decode cX7_init 119 = .ok (.newarray .int, 2) := by decide +kernel
theorem dX7_init_121 : decode cX7_init 121 = .ok (.putfield 53, 3) := by decide +kernel
theorem dX7_init_124 : decode cX7_init 124 = .ok (.aload_n 0, 1) := by decide +kernel
theorem dX7_init_125 : decode cX7_init 125 = .ok (.bipush 12, 2) := by decide +kernel
theorem dX7_init_127 : decode cX7_init 127 = .ok (.newarray .int, 2) := by decide +kernel
theorem dX7_init_129 : decode cX7_init 129 = .ok (.putfield 56, 3) := by decide +kernel
theorem dX7_init_132 : decode cX7_init 132 = .ok (.aload_n 0, 1) := by decide +kernel
theorem dX7_init_133 : decode cX7_init 133 = .ok (.bipush 12, 2) := by decide +kernel
theorem dX7_init_135 : decode cX7_init 135 = .ok (.newarray .int, 2) := by decide +kernel
theorem dX7_init_137 : decode cX7_init 137 = .ok (.putfield 59, 3) := by decide +kernel
theorem dX7_init_140 : decode cX7_init 140 = .ok (.aload_n 0, 1) := by decide +kernel
theorem dX7_init_141 : decode cX7_init 141 = .ok (.bipush 12, 2) := by decide +kernel
theorem dX7_init_143 : decode cX7_init 143 = .ok (.newarray .int, 2) := by decide +kernel
theorem dX7_init_145 : decode cX7_init 145 = .ok (.putfield 62, 3) := by decide +kernel
theorem dX7_init_148 : decode cX7_init 148 = .ok (.aload_n 0, 1) := by decide +kernel
theorem dX7_init_149 : decode cX7_init 149 = .ok (.bipush 12, 2) := by decide +kernel
theorem dX7_init_151 : decode cX7_init 151 = .ok (.newarray .int, 2) := by decide +kernel
theorem dX7_init_153 : decode cX7_init 153 = .ok (.putfield 65, 3) := by decide +kernel
theorem dX7_init_156 : decode cX7_init 156 = .ok (.return_, 1) := by decide +kernel
theorem dX7_thrown_0 : decode cX7_thrown 0 = .ok (.aload_n 0, 1) := by decide +kernel
theorem dX7_thrown_1 : decode cX7_thrown 1 = .ok (.getfield 68, 3) := by decide +kernel
theorem dX7_thrown_4 : decode cX7_thrown 4 = .ok (.ireturn, 1) := by decide +kernel
theorem dX7_isIn_0 : decode cX7_isIn 0 = .ok (.iload_n 0, 1) := by decide +kernel
theorem dX7_isIn_1 : decode cX7_isIn 1 = .ok (.iload_n 1, 1) := by decide +kernel
theorem dX7_isIn_2 : decode cX7_isIn 2 = .ok (.if_icmp .lt 12, 3) := by decide +kernel
theorem dX7_isIn_5 : decode cX7_isIn 5 = .ok (.iload_n 0, 1) := by decide +kernel
theorem dX7_isIn_6 : decode cX7_isIn 6 = .ok (.iload_n 2, 1) := by decide +kernel
theorem dX7_isIn_7 : decode cX7_isIn 7 = .ok (.if_icmp .gt 7, 3) := by decide +kernel
theorem dX7_isIn_10 : decode cX7_isIn 10 = .ok (.iconst 1, 1) := by decide +kernel
theorem dX7_isIn_11 : decode cX7_isIn 11 = .ok (.goto 4, 3) := by decide +kernel
theorem dX7_isIn_14 : decode cX7_isIn 14 = .ok (.iconst 0, 1) := by decide +kernel
theorem dX7_isIn_15 : decode cX7_isIn 15 = .ok (.ireturn, 1) := by decide +kernel
theorem dX7_bytesIn_0 : decode cX7_bytesIn 0 = .ok (.iconst 0, 1) := by decide +kernel
theorem dX7_bytesIn_1 : decode cX7_bytesIn 1 = .ok (.istore_n 1, 1) := by decide +kernel
theorem dX7_bytesIn_2 : decode cX7_bytesIn 2 = .ok (.bipush 24, 2) := by decide +kernel
theorem dX7_bytesIn_4 : decode cX7_bytesIn 4 = .ok (.istore_n 2, 1) := by decide +kernel
theorem dX7_bytesIn_5 : decode cX7_bytesIn 5 = .ok (.iload_n 2, 1) := by decide +kernel
theorem dX7_bytesIn_6 : decode cX7_bytesIn 6 = .ok (.ifCond .lt 27, 3) := by decide +kernel
theorem dX7_bytesIn_9 : decode cX7_bytesIn 9 = .ok (.iload_n 1, 1) := by decide +kernel
theorem dX7_bytesIn_10 : decode cX7_bytesIn 10 = .ok (.iload_n 0, 1) := by decide +kernel
theorem dX7_bytesIn_11 : decode cX7_bytesIn 11 = .ok (.iload_n 2, 1) := by decide +kernel
theorem dX7_bytesIn_12 : decode cX7_bytesIn 12 = .ok (.ishr, 1) := by decide +kernel
theorem dX7_bytesIn_13 : decode cX7_bytesIn 13 = .ok (.sipush 255, 3) := by decide +kernel
theorem dX7_bytesIn_16 : decode cX7_bytesIn 16 = .ok (.iand, 1) := by decide +kernel
theorem dX7_bytesIn_17 : decode cX7_bytesIn 17 = .ok (.ifCond .eq 7, 3) := by decide +kernel
theorem dX7_bytesIn_20 : decode cX7_bytesIn 20 = .ok (.iconst 1, 1) := by decide +kernel
theorem dX7_bytesIn_21 : decode cX7_bytesIn 21 = .ok (.goto 4, 3) := by decide +kernel
theorem dX7_bytesIn_24 : decode cX7_bytesIn 24 = .ok (.iconst 0, 1) := by decide +kernel
theorem dX7_bytesIn_25 : decode cX7_bytesIn 25 = .ok (.iadd, 1) := by decide +kernel
theorem dX7_bytesIn_26 : decode cX7_bytesIn 26 = .ok (.istore_n 1, 1) := by decide +kernel
theorem dX7_bytesIn_27 : decode cX7_bytesIn 27 = .ok (.iinc 2 (-8), 3) := by decide +kernel
theorem dX7_bytesIn_30 : decode cX7_bytesIn 30 = .ok (.goto (-25), 3) := by decide +kernel
theorem dX7_bytesIn_33 : decode cX7_bytesIn 33 = .ok (.iload_n 1, 1) := by decide +kernel
theorem dX7_bytesIn_34 : decode cX7_bytesIn 34 = .ok (.ireturn, 1) := by decide +kernel
theorem dX7_put_0 : decode cX7_put 0 = .ok (.bipush 24, 2) := by decide +kernel
theorem dX7_put_2 : decode cX7_put 2 = .ok (.istore_n 2, 1) := by decide +kernel
theorem dX7_put_3 : decode cX7_put 3 = .ok (.iload_n 2, 1) := by decide +kernel
theorem dX7_put_4 : decode cX7_put 4 = .ok (.ifCond .lt 45, 3) := by decide +kernel
theorem dX7_put_7 : decode cX7_put 7 = .ok (.iload_n 1, 1) := by decide +kernel
theorem dX7_put_8 : decode cX7_put 8 = .ok (.iload_n 2, 1) := by decide +kernel
theorem dX7_put_9 : decode cX7_put 9 = .ok (.ishr, 1) := by decide +kernel
theorem dX7_put_10 : decode cX7_put 10 = .ok (.sipush 255, 3) := by decide +kernel
theorem dX7_put_13 : decode cX7_put 13 = .ok (.iand, 1) := by decide +kernel
theorem dX7_put_14 : decode cX7_put 14 = .ok (.ifCond .ne 6, 3) := by decide +kernel
theorem dX7_put_17 : decode cX7_put 17 = .ok (.goto 26, 3) := by decide +kernel
theorem dX7_put_20 : decode cX7_put 20 = .ok (.aload_n 0, 1) := by decide +kernel
theorem dX7_put_21 : decode cX7_put 21 = .ok (.getfield 9, 3) := by decide +kernel
theorem dX7_put_24 : decode cX7_put 24 = .ok (.aload_n 0, 1) := by decide +kernel
theorem dX7_put_25 : decode cX7_put 25 = .ok (.getfield 72, 3) := by decide +kernel
theorem dX7_put_28 : decode cX7_put 28 = .ok (.iload_n 1, 1) := by decide +kernel
theorem dX7_put_29 : decode cX7_put 29 = .ok (.iload_n 2, 1) := by decide +kernel
theorem dX7_put_30 : decode cX7_put 30 = .ok (.ishr, 1) := by decide +kernel
theorem dX7_put_31 : decode cX7_put 31 = .ok (.i2b, 1) := by decide +kernel
theorem dX7_put_32 : decode cX7_put 32 = .ok (.bastore, 1) := by decide +kernel
theorem dX7_put_33 : decode cX7_put 33 = .ok (.aload_n 0, 1) := by decide +kernel
theorem dX7_put_34 : decode cX7_put 34 = .ok (.dup, 1) := by decide +kernel
theorem dX7_put_35 : decode cX7_put 35 = .ok (.getfield 72, 3) := by decide +kernel
theorem dX7_put_38 : decode cX7_put 38 = .ok (.iconst 1, 1) := by decide +kernel
theorem dX7_put_39 : decode cX7_put 39 = .ok (.iadd, 1) := by decide +kernel
theorem dX7_put_40 : decode cX7_put 40 = .ok (.putfield 72, 3) := by decide +kernel
theorem dX7_put_43 : decode cX7_put 43 = .ok (.iinc 2 (-8), 3) := by decide +kernel
theorem dX7_put_46 : decode cX7_put 46 = .ok (.goto (-43), 3) := by decide +kernel
theorem dX7_put_49 : decode cX7_put 49 = .ok (.return_, 1) := by decide +kernel
theorem dX7_feed_0 : decode cX7_feed 0 = .ok (.aload_n 0, 1) := by decide +kernel
theorem dX7_feed_1 : decode cX7_feed 1 = .ok (.iconst 0, 1) := by decide +kernel
theorem dX7_feed_2 : decode cX7_feed 2 = .ok (.putfield 68, 3) := by decide +kernel
theorem dX7_feed_5 : decode cX7_feed 5 = .ok (.aload_n 0, 1) := by decide +kernel
theorem dX7_feed_6 : decode cX7_feed 6 = .ok (.getfield 72, 3) := by decide +kernel
theorem dX7_feed_9 : decode cX7_feed 9 = .ok (.iload_n 1, 1) := by decide +kernel
theorem dX7_feed_10 : decode cX7_feed 10 = .ok (.invokestatic 75, 3) := by decide +kernel
theorem dX7_feed_13 : decode cX7_feed 13 = .ok (.iadd, 1) := by decide +kernel
theorem dX7_feed_14 : decode cX7_feed 14 = .ok (.iload_n 2, 1) := by decide +kernel
theorem dX7_feed_15 : decode cX7_feed 15 = .ok (.invokestatic 75, 3) := by decide +kernel
theorem dX7_feed_18 : decode cX7_feed 18 = .ok (.iadd, 1) := by decide +kernel
theorem dX7_feed_19 : decode cX7_feed 19 = .ok (.iload_n 3, 1) := by decide +kernel
theorem dX7_feed_20 : decode cX7_feed 20 = .ok (.invokestatic 75, 3) := by decide +kernel
theorem dX7_feed_23 : decode cX7_feed 23 = .ok (.iadd, 1) := by decide +kernel
theorem dX7_feed_24 : decode cX7_feed 24 = .ok (.iload 4, 2) := by decide +kernel
theorem dX7_feed_26 : decode cX7_feed 26 = .ok (.invokestatic 75, 3) := by decide +kernel
theorem dX7_feed_29 : decode cX7_feed 29 = .ok (.iadd, 1) := by decide +kernel
theorem dX7_feed_30 : decode cX7_feed 30 = .ok (.iload 5, 2) := by decide +kernel
theorem dX7_feed_32 : decode cX7_feed 32 = .ok (.invokestatic 75, 3) := by decide +kernel
theorem dX7_feed_35 : decode cX7_feed 35 = .ok (.iadd, 1) := by decide +kernel
theorem dX7_feed_36 : decode cX7_feed 36 = .ok (.bipush 120, 2) := by decide +kernel
theorem dX7_feed_38 : decode cX7_feed 38 = .ok (.if_icmp .le 5, 3) := by decide +kernel
theorem dX7_feed_41 : decode cX7_feed 41 = .ok (.iconst (-1), 1) := by decide +kernel
theorem dX7_feed_42 : decode cX7_feed 42 = .ok (.ireturn, 1) := by decide +kernel
theorem dX7_feed_43 : decode cX7_feed 43 = .ok (.aload_n 0, 1) := by decide +kernel
theorem dX7_feed_44 : decode cX7_feed 44 = .ok (.iload_n 1, 1) := by decide +kernel
theorem dX7_feed_45 : decode cX7_feed 45 = .ok (.invokevirtual 79, 3) := by decide +kernel
theorem dX7_feed_48 : decode cX7_feed 48 = .ok (.aload_n 0, 1) := by decide +kernel
theorem dX7_feed_49 : decode cX7_feed 49 = .ok (.iload_n 2, 1) := by decide +kernel
theorem dX7_feed_50 : decode cX7_feed 50 = .ok (.invokevirtual 79, 3) := by decide +kernel
theorem dX7_feed_53 : decode cX7_feed 53 = .ok (.aload_n 0, 1) := by decide +kernel
theorem dX7_feed_54 : decode cX7_feed 54 = .ok (.iload_n 3, 1) := by decide +kernel
theorem dX7_feed_55 : decode cX7_feed 55 = .ok (.invokevirtual 79, 3) := by decide +kernel
theorem dX7_feed_58 : decode cX7_feed 58 = .ok (.aload_n 0, 1) := by decide +kernel
theorem dX7_feed_59 : decode cX7_feed 59 = .ok (.iload 4, 2) := by decide +kernel
theorem dX7_feed_61 : decode cX7_feed 61 = .ok (.invokevirtual 79, 3) := by decide +kernel
theorem dX7_feed_64 : decode cX7_feed 64 = .ok (.aload_n 0, 1) := by decide +kernel
theorem dX7_feed_65 : decode cX7_feed 65 = .ok (.iload 5, 2) := by decide +kernel
theorem dX7_feed_67 : decode cX7_feed 67 = .ok (.invokevirtual 79, 3) := by decide +kernel
theorem dX7_feed_70 : decode cX7_feed 70 = .ok (.aload_n 0, 1) := by decide +kernel
theorem dX7_feed_71 : decode cX7_feed 71 = .ok (.getfield 72, 3) := by decide +kernel
theorem dX7_feed_74 : decode cX7_feed 74 = .ok (.ireturn, 1) := by decide +kernel
theorem dX7_end_0 : decode cX7_end 0 = .ok (.aload_n 0, 1) := by decide +kernel
theorem dX7_end_1 : decode cX7_end 1 = .ok (.iconst 0, 1) := by decide +kernel
theorem dX7_end_2 : decode cX7_end 2 = .ok (.putfield 68, 3) := by decide +kernel
theorem dX7_end_5 : decode cX7_end 5 = .ok (.iload_n 1, 1) := by decide +kernel
theorem dX7_end_6 : decode cX7_end 6 = .ok (.ifCond .lt 11, 3) := by decide +kernel
theorem dX7_end_9 : decode cX7_end 9 = .ok (.iload_n 1, 1) := by decide +kernel
theorem dX7_end_10 : decode cX7_end 10 = .ok (.aload_n 0, 1) := by decide +kernel
theorem dX7_end_11 : decode cX7_end 11 = .ok (.getfield 72, 3) := by decide +kernel
theorem dX7_end_14 : decode cX7_end 14 = .ok (.if_icmp .le 5, 3) := by decide +kernel
theorem dX7_end_17 : decode cX7_end 17 = .ok (.iconst 0, 1) := by decide +kernel
theorem dX7_end_18 : decode cX7_end 18 = .ok (.ireturn, 1) := by decide +kernel
theorem dX7_end_19 : decode cX7_end 19 = .ok (.aload_n 0, 1) := by decide +kernel
theorem dX7_end_20 : decode cX7_end 20 = .ok (.iload_n 1, 1) := by decide +kernel
theorem dX7_end_21 : decode cX7_end 21 = .ok (.putfield 72, 3) := by decide +kernel
theorem dX7_end_24 : decode cX7_end 24 = .ok (.iconst 1, 1) := by decide +kernel
theorem dX7_end_25 : decode cX7_end 25 = .ok (.ireturn, 1) := by decide +kernel
theorem dX7_here_0 : decode cX7_here 0 = .ok (.aload_n 0, 1) := by decide +kernel
theorem dX7_here_1 : decode cX7_here 1 = .ok (.getfield 83, 3) := by decide +kernel
theorem dX7_here_4 : decode cX7_here 4 = .ok (.aload_n 0, 1) := by decide +kernel
theorem dX7_here_5 : decode cX7_here 5 = .ok (.getfield 72, 3) := by decide +kernel
theorem dX7_here_8 : decode cX7_here 8 = .ok (.if_icmp .ge 19, 3) := by decide +kernel
theorem dX7_here_11 : decode cX7_here 11 = .ok (.aload_n 0, 1) := by decide +kernel
theorem dX7_here_12 : decode cX7_here 12 = .ok (.getfield 9, 3) := by decide +kernel
theorem dX7_here_15 : decode cX7_here 15 = .ok (.aload_n 0, 1) := by decide +kernel
theorem dX7_here_16 : decode cX7_here 16 = .ok (.getfield 83, 3) := by decide +kernel
theorem dX7_here_19 : decode cX7_here 19 = .ok (.baload, 1) := by decide +kernel
theorem dX7_here_20 : decode cX7_here 20 = .ok (.sipush 255, 3) := by decide +kernel
theorem dX7_here_23 : decode cX7_here 23 = .ok (.iand, 1) := by decide +kernel
theorem dX7_here_24 : decode cX7_here 24 = .ok (.goto 4, 3) := by decide +kernel
theorem dX7_here_27 : decode cX7_here 27 = .ok (.iconst (-1), 1) := by decide +kernel
theorem dX7_here_28 : decode cX7_here 28 = .ok (.ireturn, 1) := by decide +kernel
theorem dX7_look_0 : decode cX7_look 0 = .ok (.aload_n 0, 1) := by decide +kernel
theorem dX7_look_1 : decode cX7_look 1 = .ok (.invokevirtual 86, 3) := by decide +kernel
theorem dX7_look_4 : decode cX7_look 4 = .ok (.bipush 32, 2) := by decide +kernel
theorem dX7_look_6 : decode cX7_look 6 = .ok (.if_icmp .ne 16, 3) := by decide +kernel
theorem dX7_look_9 : decode cX7_look 9 = .ok (.aload_n 0, 1) := by decide +kernel
theorem dX7_look_10 : decode cX7_look 10 = .ok (.dup, 1) := by decide +kernel
theorem dX7_look_11 : decode cX7_look 11 = .ok (.getfield 83, 3) := by decide +kernel
theorem dX7_look_14 : decode cX7_look 14 = .ok (.iconst 1, 1) := by decide +kernel
theorem dX7_look_15 : decode cX7_look 15 = .ok (.iadd, 1) := by decide +kernel
theorem dX7_look_16 : decode cX7_look 16 = .ok (.putfield 83, 3) := by decide +kernel
theorem dX7_look_19 : decode cX7_look 19 = .ok (.goto (-19), 3) := by decide +kernel
theorem dX7_look_22 : decode cX7_look 22 = .ok (.aload_n 0, 1) := by decide +kernel
theorem dX7_look_23 : decode cX7_look 23 = .ok (.invokevirtual 86, 3) := by decide +kernel
theorem dX7_look_26 : decode cX7_look 26 = .ok (.ireturn, 1) := by decide +kernel
theorem dX7_fails_0 : decode cX7_fails 0 = .ok (.aload_n 0, 1) := by decide +kernel
theorem dX7_fails_1 : decode cX7_fails 1 = .ok (.getfield 90, 3) := by decide +kernel
theorem dX7_fails_4 : decode cX7_fails 4 = .ok (.iconst (-1), 1) := by decide +kernel
theorem dX7_fails_5 : decode cX7_fails 5 = .ok (.if_icmp .ne 8, 3) := by decide +kernel
theorem dX7_fails_8 : decode cX7_fails 8 = .ok (.aload_n 0, 1) := by decide +kernel
theorem dX7_fails_9 : decode cX7_fails 9 = .ok (.iload_n 1, 1) := by decide +kernel
theorem dX7_fails_10 : decode cX7_fails 10 = .ok (.putfield 90, 3) := by decide +kernel
theorem dX7_fails_13 : decode cX7_fails 13 = .ok (.iconst 0, 1) := by decide +kernel
theorem dX7_fails_14 : decode cX7_fails 14 = .ok (.ireturn, 1) := by decide +kernel
theorem dX7_isDigit_0 : decode cX7_isDigit 0 = .ok (.aload_n 0, 1) := by decide +kernel
theorem dX7_isDigit_1 : decode cX7_isDigit 1 = .ok (.invokevirtual 86, 3) := by decide +kernel
theorem dX7_isDigit_4 : decode cX7_isDigit 4 = .ok (.bipush 48, 2) := by decide +kernel
theorem dX7_isDigit_6 : decode cX7_isDigit 6 = .ok (.if_icmp .lt 16, 3) := by decide +kernel
theorem dX7_isDigit_9 : decode cX7_isDigit 9 = .ok (.aload_n 0, 1) := by decide +kernel
theorem dX7_isDigit_10 : decode cX7_isDigit 10 = .ok (.invokevirtual 86, 3) := by decide +kernel
theorem dX7_isDigit_13 : decode cX7_isDigit 13 = .ok (.bipush 57, 2) := by decide +kernel
theorem dX7_isDigit_15 : decode cX7_isDigit 15 = .ok (.if_icmp .gt 7, 3) := by decide +kernel
theorem dX7_isDigit_18 : decode cX7_isDigit 18 = .ok (.iconst 1, 1) := by decide +kernel
theorem dX7_isDigit_19 : decode cX7_isDigit 19 = .ok (.goto 4, 3) := by decide +kernel
theorem dX7_isDigit_22 : decode cX7_isDigit 22 = .ok (.iconst 0, 1) := by decide +kernel
theorem dX7_isDigit_23 : decode cX7_isDigit 23 = .ok (.ireturn, 1) := by decide +kernel
theorem dX7_number_0 : decode cX7_number 0 = .ok (.aload_n 0, 1) := by decide +kernel
theorem dX7_number_1 : decode cX7_number 1 = .ok (.invokevirtual 86, 3) := by decide +kernel
theorem dX7_number_4 : decode cX7_number 4 = .ok (.bipush 32, 2) := by decide +kernel
theorem dX7_number_6 : decode cX7_number 6 = .ok (.if_icmp .eq 12, 3) := by decide +kernel
theorem dX7_number_9 : decode cX7_number 9 = .ok (.aload_n 0, 1) := by decide +kernel
theorem dX7_number_10 : decode cX7_number 10 = .ok (.aload_n 0, 1) := by decide +kernel
theorem dX7_number_11 : decode cX7_number 11 = .ok (.getfield 83, 3) := by decide +kernel
theorem dX7_number_14 : decode cX7_number 14 = .ok (.invokevirtual 93, 3) := by decide +kernel
theorem dX7_number_17 : decode cX7_number 17 = .ok (.ireturn, 1) := by decide +kernel
theorem dX7_number_18 : decode cX7_number 18 = .ok (.aload_n 0, 1) := by decide +kernel
theorem dX7_number_19 : decode cX7_number 19 = .ok (.invokevirtual 97, 3) := by decide +kernel
theorem dX7_number_22 : decode cX7_number 22 = .ok (.pop, 1) := by decide +kernel
theorem dX7_number_23 : decode cX7_number 23 = .ok (.aload_n 0, 1) := by decide +kernel
theorem dX7_number_24 : decode cX7_number 24 = .ok (.invokevirtual 100, 3) := by decide +kernel
theorem dX7_number_27 : decode cX7_number 27 = .ok (.ifCond .ne 12, 3) := by decide +kernel
theorem dX7_number_30 : decode cX7_number 30 = .ok (.aload_n 0, 1) := by decide +kernel
theorem dX7_number_31 : decode cX7_number 31 = .ok (.aload_n 0, 1) := by decide +kernel
theorem dX7_number_32 : decode cX7_number 32 = .ok (.getfield 83, 3) := by decide +kernel
theorem dX7_number_35 : decode cX7_number 35 = .ok (.invokevirtual 93, 3) := by decide +kernel
theorem dX7_number_38 : decode cX7_number 38 = .ok (.ireturn, 1) := by decide +kernel
theorem dX7_number_39 : decode cX7_number 39 = .ok (.aload_n 0, 1) := by decide +kernel
theorem dX7_number_40 : decode cX7_number 40 = .ok (.aload_n 0, 1) := by decide +kernel
theorem dX7_number_41 : decode cX7_number 41 = .ok (.invokevirtual 86, 3) := by decide +kernel
theorem dX7_number_44 : decode cX7_number 44 = .ok (.bipush 48, 2) := by decide +kernel
theorem dX7_number_46 : decode cX7_number 46 = .ok (.isub, 1) := by decide +kernel
theorem dX7_number_47 : decode cX7_number 47 = .ok (.putfield 104, 3) := by decide +kernel
theorem dX7_number_50 : decode cX7_number 50 = .ok (.aload_n 0, 1) := by decide +kernel
theorem dX7_number_51 : decode cX7_number 51 = .ok (.dup, 1) := by decide +kernel
theorem dX7_number_52 : decode cX7_number 52 = .ok (.getfield 83, 3) := by decide +kernel
theorem dX7_number_55 : decode cX7_number 55 = .ok (.iconst 1, 1) := by decide +kernel
theorem dX7_number_56 : decode cX7_number 56 = .ok (.iadd, 1) := by decide +kernel
theorem dX7_number_57 : decode cX7_number 57 = .ok (.putfield 83, 3) := by decide +kernel
theorem dX7_number_60 : decode cX7_number 60 = .ok (.aload_n 0, 1) := by decide +kernel
theorem dX7_number_61 : decode cX7_number 61 = .ok (.invokevirtual 100, 3) := by decide +kernel
theorem dX7_number_64 : decode cX7_number 64 = .ok (.ifCond .eq 32, 3) := by decide +kernel
theorem dX7_number_67 : decode cX7_number 67 = .ok (.aload_n 0, 1) := by decide +kernel
theorem dX7_number_68 : decode cX7_number 68 = .ok (.bipush 10, 2) := by decide +kernel
theorem dX7_number_70 : decode cX7_number 70 = .ok (.aload_n 0, 1) := by decide +kernel
theorem dX7_number_71 : decode cX7_number 71 = .ok (.getfield 104, 3) := by decide +kernel
theorem dX7_number_74 : decode cX7_number 74 = .ok (.imul, 1) := by decide +kernel
theorem dX7_number_75 : decode cX7_number 75 = .ok (.aload_n 0, 1) := by decide +kernel
theorem dX7_number_76 : decode cX7_number 76 = .ok (.invokevirtual 86, 3) := by decide +kernel
theorem dX7_number_79 : decode cX7_number 79 = .ok (.iadd, 1) := by decide +kernel
theorem dX7_number_80 : decode cX7_number 80 = .ok (.bipush 48, 2) := by decide +kernel
theorem dX7_number_82 : decode cX7_number 82 = .ok (.isub, 1) := by decide +kernel
theorem dX7_number_83 : decode cX7_number 83 = .ok (.putfield 104, 3) := by decide +kernel
theorem dX7_number_86 : decode cX7_number 86 = .ok (.aload_n 0, 1) := by decide +kernel
theorem dX7_number_87 : decode cX7_number 87 = .ok (.dup, 1) := by decide +kernel
theorem dX7_number_88 : decode cX7_number 88 = .ok (.getfield 83, 3) := by decide +kernel
theorem dX7_number_91 : decode cX7_number 91 = .ok (.iconst 1, 1) := by decide +kernel
theorem dX7_number_92 : decode cX7_number 92 = .ok (.iadd, 1) := by decide +kernel
theorem dX7_number_93 : decode cX7_number 93 = .ok (.putfield 83, 3) := by decide +kernel
theorem dX7_number_96 : decode cX7_number 96 = .ok (.aload_n 0, 1) := by decide +kernel
theorem dX7_number_97 : decode cX7_number 97 = .ok (.getfield 104, 3) := by decide +kernel
theorem dX7_number_100 : decode cX7_number 100 = .ok (.iload_n 1, 1) := by decide +kernel
theorem dX7_number_101 : decode cX7_number 101 = .ok (.iload_n 2, 1) := by decide +kernel
theorem dX7_number_102 : decode cX7_number 102 = .ok (.invokestatic 107, 3) := by decide +kernel
theorem dX7_number_105 : decode cX7_number 105 = .ok (.ifCond .ne 14, 3) := by decide +kernel
theorem dX7_number_108 : decode cX7_number 108 = .ok (.aload_n 0, 1) := by decide +kernel
theorem dX7_number_109 : decode cX7_number 109 = .ok (.aload_n 0, 1) := by decide +kernel
theorem dX7_number_110 : decode cX7_number 110 = .ok (.getfield 83, 3) := by decide +kernel
theorem dX7_number_113 : decode cX7_number 113 = .ok (.iconst 1, 1) := by decide +kernel
theorem dX7_number_114 : decode cX7_number 114 = .ok (.isub, 1) := by decide +kernel
theorem dX7_number_115 : decode cX7_number 115 = .ok (.invokevirtual 93, 3) := by decide +kernel
theorem dX7_number_118 : decode cX7_number 118 = .ok (.ireturn, 1) := by decide +kernel
theorem dX7_number_119 : decode cX7_number 119 = .ok (.aload_n 0, 1) := by decide +kernel
theorem dX7_number_120 : decode cX7_number 120 = .ok (.invokevirtual 100, 3) := by decide +kernel
theorem dX7_number_123 : decode cX7_number 123 = .ok (.ifCond .eq 14, 3) := by decide +kernel
theorem dX7_number_126 : decode cX7_number 126 = .ok (.aload_n 0, 1) := by decide +kernel
theorem dX7_number_127 : decode cX7_number 127 = .ok (.aload_n 0, 1) := by decide +kernel
theorem dX7_number_128 : decode cX7_number 128 = .ok (.getfield 83, 3) := by decide +kernel
theorem dX7_number_131 : decode cX7_number 131 = .ok (.invokevirtual 93, 3) := by decide +kernel
theorem dX7_number_134 : decode cX7_number 134 = .ok (.ifCond .eq 7, 3) := by decide +kernel
theorem dX7_number_137 : decode cX7_number 137 = .ok (.iconst 1, 1) := by decide +kernel
theorem dX7_number_138 : decode cX7_number 138 = .ok (.goto 4, 3) := by decide +kernel
theorem dX7_number_141 : decode cX7_number 141 = .ok (.iconst 0, 1) := by decide +kernel
theorem dX7_number_142 : decode cX7_number 142 = .ok (.ireturn, 1) := by decide +kernel
theorem dX7_leastOf_0 : decode cX7_leastOf 0 = .ok (.iload_n 0, 1) := by decide +kernel
theorem dX7_leastOf_1 : decode cX7_leastOf 1 = .ok (.ifCond .eq 15, 3) := by decide +kernel
theorem dX7_leastOf_4 : decode cX7_leastOf 4 = .ok (.iload_n 0, 1) := by decide +kernel
theorem dX7_leastOf_5 : decode cX7_leastOf 5 = .ok (.bipush 6, 2) := by decide +kernel
theorem dX7_leastOf_7 : decode cX7_leastOf 7 = .ok (.if_icmp .eq 9, 3) := by decide +kernel
theorem dX7_leastOf_10 : decode cX7_leastOf 10 = .ok (.iload_n 0, 1) := by decide +kernel
theorem dX7_leastOf_11 : decode cX7_leastOf 11 = .ok (.bipush 7, 2) := by decide +kernel
theorem dX7_leastOf_13 : decode cX7_leastOf 13 = .ok (.if_icmp .ne 7, 3) := by decide +kernel
theorem dX7_leastOf_16 : decode cX7_leastOf 16 = .ok (.iconst 1, 1) := by decide +kernel
theorem dX7_leastOf_17 : decode cX7_leastOf 17 = .ok (.goto 4, 3) := by decide +kernel
theorem dX7_leastOf_20 : decode cX7_leastOf 20 = .ok (.iconst 0, 1) := by decide +kernel
theorem dX7_leastOf_21 : decode cX7_leastOf 21 = .ok (.ireturn, 1) := by decide +kernel
theorem dX7_mostOf_0 : decode cX7_mostOf 0 = .ok (.iload_n 0, 1) := by decide +kernel
theorem dX7_mostOf_1 : decode cX7_mostOf 1 = .ok (.iconst 2, 1) := by decide +kernel
theorem dX7_mostOf_2 : decode cX7_mostOf 2 = .ok (.if_icmp .eq 8, 3) := by decide +kernel
theorem dX7_mostOf_5 : decode cX7_mostOf 5 = .ok (.iload_n 0, 1) := by decide +kernel
theorem dX7_mostOf_6 : decode cX7_mostOf 6 = .ok (.iconst 3, 1) := by decide +kernel
theorem dX7_mostOf_7 : decode cX7_mostOf 7 = .ok (.if_icmp .ne 7, 3) := by decide +kernel
theorem dX7_mostOf_10 : decode cX7_mostOf 10 = .ok (.iconst 1, 1) := by decide +kernel
theorem dX7_mostOf_11 : decode cX7_mostOf 11 = .ok (.goto 16, 3) := by decide +kernel
theorem dX7_mostOf_14 : decode cX7_mostOf 14 = .ok (.iload_n 0, 1) := by decide +kernel
theorem dX7_mostOf_15 : decode cX7_mostOf 15 = .ok (.bipush 7, 2) := by decide +kernel
theorem dX7_mostOf_17 : decode cX7_mostOf 17 = .ok (.if_icmp .ne 8, 3) := by decide +kernel
theorem dX7_mostOf_20 : decode cX7_mostOf 20 = .ok (.bipush 9, 2) := by decide +kernel
theorem dX7_mostOf_22 : decode cX7_mostOf 22 = .ok (.goto 5, 3) := by decide +kernel
theorem dX7_mostOf_25 : decode cX7_mostOf 25 = .ok (.bipush 99, 2) := by decide +kernel
theorem dX7_mostOf_27 : decode cX7_mostOf 27 = .ok (.ireturn, 1) := by decide +kernel
theorem dX7_firstOf_0 : decode cX7_firstOf 0 = .ok (.iload_n 0, 1) := by decide +kernel
theorem dX7_firstOf_1 : decode cX7_firstOf 1 = .ok (.iconst 1, 1) := by decide +kernel
theorem dX7_firstOf_2 : decode cX7_firstOf 2 = .ok (.if_icmp .ne 7, 3) := by decide +kernel
theorem dX7_firstOf_5 : decode cX7_firstOf 5 = .ok (.iconst (-1), 1) := by decide +kernel
theorem dX7_firstOf_6 : decode cX7_firstOf 6 = .ok (.goto 26, 3) := by decide +kernel
theorem dX7_firstOf_9 : decode cX7_firstOf 9 = .ok (.iload_n 0, 1) := by decide +kernel
theorem dX7_firstOf_10 : decode cX7_firstOf 10 = .ok (.bipush 6, 2) := by decide +kernel
theorem dX7_firstOf_12 : decode cX7_firstOf 12 = .ok (.if_icmp .ne 8, 3) := by decide +kernel
theorem dX7_firstOf_15 : decode cX7_firstOf 15 = .ok (.bipush 99, 2) := by decide +kernel
theorem dX7_firstOf_17 : decode cX7_firstOf 17 = .ok (.goto 15, 3) := by decide +kernel
theorem dX7_firstOf_20 : decode cX7_firstOf 20 = .ok (.iload_n 0, 1) := by decide +kernel
theorem dX7_firstOf_21 : decode cX7_firstOf 21 = .ok (.bipush 7, 2) := by decide +kernel
theorem dX7_firstOf_23 : decode cX7_firstOf 23 = .ok (.if_icmp .ne 8, 3) := by decide +kernel
theorem dX7_firstOf_26 : decode cX7_firstOf 26 = .ok (.bipush 9, 2) := by decide +kernel
theorem dX7_firstOf_28 : decode cX7_firstOf 28 = .ok (.goto 4, 3) := by decide +kernel
theorem dX7_firstOf_31 : decode cX7_firstOf 31 = .ok (.iconst 0, 1) := by decide +kernel
theorem dX7_firstOf_32 : decode cX7_firstOf 32 = .ok (.ireturn, 1) := by decide +kernel
theorem dX7_readWord_0 : decode cX7_readWord 0 = .ok (.aload_n 0, 1) := by decide +kernel
theorem dX7_readWord_1 : decode cX7_readWord 1 = .ok (.dup, 1) := by decide +kernel
theorem dX7_readWord_2 : decode cX7_readWord 2 = .ok (.getfield 83, 3) := by decide +kernel
theorem dX7_readWord_5 : decode cX7_readWord 5 = .ok (.iconst 1, 1) := by decide +kernel
theorem dX7_readWord_6 : decode cX7_readWord 6 = .ok (.iadd, 1) := by decide +kernel
theorem dX7_readWord_7 : decode cX7_readWord 7 = .ok (.putfield 83, 3) := by decide +kernel
theorem dX7_readWord_10 : decode cX7_readWord 10 = .ok (.aload_n 0, 1) := by decide +kernel
theorem dX7_readWord_11 : decode cX7_readWord 11 = .ok (.iload_n 1, 1) := by decide +kernel
theorem dX7_readWord_12 : decode cX7_readWord 12 = .ok (.invokestatic 111, 3) := by decide +kernel
theorem dX7_readWord_15 : decode cX7_readWord 15 = .ok (.iload_n 1, 1) := by decide +kernel
theorem dX7_readWord_16 : decode cX7_readWord 16 = .ok (.invokestatic 114, 3) := by decide +kernel
theorem dX7_readWord_19 : decode cX7_readWord 19 = .ok (.invokevirtual 117, 3) := by decide +kernel
theorem dX7_readWord_22 : decode cX7_readWord 22 = .ok (.ifCond .ne 5, 3) := by decide +kernel
theorem dX7_readWord_25 : decode cX7_readWord 25 = .ok (.iconst 0, 1) := by decide +kernel
theorem dX7_readWord_26 : decode cX7_readWord 26 = .ok (.ireturn, 1) := by decide +kernel
theorem dX7_readWord_27 : decode cX7_readWord 27 = .ok (.aload_n 0, 1) := by decide +kernel
theorem dX7_readWord_28 : decode cX7_readWord 28 = .ok (.getfield 13, 3) := by decide +kernel
theorem dX7_readWord_31 : decode cX7_readWord 31 = .ok (.bipush 10, 2) := by decide +kernel
theorem dX7_readWord_33 : decode cX7_readWord 33 = .ok (.aload_n 0, 1) := by decide +kernel
theorem dX7_readWord_34 : decode cX7_readWord 34 = .ok (.getfield 120, 3) := by decide +kernel
theorem dX7_readWord_37 : decode cX7_readWord 37 = .ok (.imul, 1) := by decide +kernel
theorem dX7_readWord_38 : decode cX7_readWord 38 = .ok (.iload_n 1, 1) := by decide +kernel
theorem dX7_readWord_39 : decode cX7_readWord 39 = .ok (.iadd, 1) := by decide +kernel
theorem dX7_readWord_40 : decode cX7_readWord 40 = .ok (.aload_n 0, 1) := by decide +kernel
theorem dX7_readWord_41 : decode cX7_readWord 41 = .ok (.getfield 104, 3) := by decide +kernel
theorem dX7_readWord_44 : decode cX7_readWord 44 = .ok (.iastore, 1) := by decide +kernel
theorem dX7_readWord_45 : decode cX7_readWord 45 = .ok (.iconst 1, 1) := by decide +kernel
theorem dX7_readWord_46 : decode cX7_readWord 46 = .ok (.ireturn, 1) := by decide +kernel
theorem dX7_readCover_0 : decode cX7_readCover 0 = .ok (.aload_n 0, 1) := by decide +kernel
theorem dX7_readCover_1 : decode cX7_readCover 1 = .ok (.iconst 0, 1) := by decide +kernel
theorem dX7_readCover_2 : decode cX7_readCover 2 = .ok (.putfield 83, 3) := by decide +kernel
theorem dX7_readCover_5 : decode cX7_readCover 5 = .ok (.aload_n 0, 1) := by decide +kernel
theorem dX7_readCover_6 : decode cX7_readCover 6 = .ok (.iconst (-1), 1) := by decide +kernel
theorem dX7_readCover_7 : decode cX7_readCover 7 = .ok (.putfield 90, 3) := by decide +kernel
theorem dX7_readCover_10 : decode cX7_readCover 10 = .ok (.iconst 0, 1) := by decide +kernel
theorem dX7_readCover_11 : decode cX7_readCover 11 = .ok (.istore_n 1, 1) := by decide +kernel
theorem dX7_readCover_12 : decode cX7_readCover 12 = .ok (.iload_n 1, 1) := by decide +kernel
theorem dX7_readCover_13 : decode cX7_readCover 13 = .ok (.bipush 10, 2) := by decide +kernel
theorem dX7_readCover_15 : decode cX7_readCover 15 = .ok (.if_icmp .ge 27, 3) := by decide +kernel
theorem dX7_readCover_18 : decode cX7_readCover 18 = .ok (.aload_n 0, 1) := by decide +kernel
theorem dX7_readCover_19 : decode cX7_readCover 19 = .ok (.getfield 13, 3) := by decide +kernel
theorem dX7_readCover_22 : decode cX7_readCover 22 = .ok (.bipush 10, 2) := by decide +kernel
theorem dX7_readCover_24 : decode cX7_readCover 24 = .ok (.aload_n 0, 1) := by decide +kernel
theorem dX7_readCover_25 : decode cX7_readCover 25 = .ok (.getfield 120, 3) := by decide +kernel
theorem dX7_readCover_28 : decode cX7_readCover 28 = .ok (.imul, 1) := by decide +kernel
theorem dX7_readCover_29 : decode cX7_readCover 29 = .ok (.iload_n 1, 1) := by decide +kernel
theorem dX7_readCover_30 : decode cX7_readCover 30 = .ok (.iadd, 1) := by decide +kernel
theorem dX7_readCover_31 : decode cX7_readCover 31 = .ok (.iload_n 1, 1) := by decide +kernel
theorem dX7_readCover_32 : decode cX7_readCover 32 = .ok (.invokestatic 123, 3) := by decide +kernel
theorem dX7_readCover_35 : decode cX7_readCover 35 = .ok (.iastore, 1) := by decide +kernel
theorem dX7_readCover_36 : decode cX7_readCover 36 = .ok (.iinc 1 1, 3) := by decide +kernel
theorem dX7_readCover_39 : decode cX7_readCover 39 = .ok (.goto (-27), 3) := by decide +kernel
theorem dX7_readCover_42 : decode cX7_readCover 42 = .ok (.aload_n 0, 1) := by decide +kernel
theorem dX7_readCover_43 : decode cX7_readCover 43 = .ok (.invokevirtual 97, 3) := by decide +kernel
theorem dX7_readCover_46 : decode cX7_readCover 46 = .ok (.bipush 104, 2) := by decide +kernel
theorem dX7_readCover_48 : decode cX7_readCover 48 = .ok (.if_icmp .eq 12, 3) := by decide +kernel
theorem dX7_readCover_51 : decode cX7_readCover 51 = .ok (.aload_n 0, 1) := by decide +kernel
theorem dX7_readCover_52 : decode cX7_readCover 52 = .ok (.aload_n 0, 1) := by decide +kernel
theorem dX7_readCover_53 : decode cX7_readCover 53 = .ok (.getfield 83, 3) := by decide +kernel
theorem dX7_readCover_56 : decode cX7_readCover 56 = .ok (.invokevirtual 93, 3) := by decide +kernel
theorem dX7_readCover_59 : decode cX7_readCover 59 = .ok (.ireturn, 1) := by decide +kernel
theorem dX7_readCover_60 : decode cX7_readCover 60 = .ok (.aload_n 0, 1) := by decide +kernel
theorem dX7_readCover_61 : decode cX7_readCover 61 = .ok (.iconst 0, 1) := by decide +kernel
theorem dX7_readCover_62 : decode cX7_readCover 62 = .ok (.invokevirtual 126, 3) := by decide +kernel
theorem dX7_readCover_65 : decode cX7_readCover 65 = .ok (.ifCond .ne 5, 3) := by decide +kernel
theorem dX7_readCover_68 : decode cX7_readCover 68 = .ok (.iconst 0, 1) := by decide +kernel
theorem dX7_readCover_69 : decode cX7_readCover 69 = .ok (.ireturn, 1) := by decide +kernel
theorem dX7_readCover_70 : decode cX7_readCover 70 = .ok (.aload_n 0, 1) := by decide +kernel
theorem dX7_readCover_71 : decode cX7_readCover 71 = .ok (.invokevirtual 97, 3) := by decide +kernel
theorem dX7_readCover_74 : decode cX7_readCover 74 = .ok (.bipush 59, 2) := by decide +kernel
theorem dX7_readCover_76 : decode cX7_readCover 76 = .ok (.if_icmp .ne 62, 3) := by decide +kernel
theorem dX7_readCover_79 : decode cX7_readCover 79 = .ok (.aload_n 0, 1) := by decide +kernel
theorem dX7_readCover_80 : decode cX7_readCover 80 = .ok (.dup, 1) := by decide +kernel
theorem dX7_readCover_81 : decode cX7_readCover 81 = .ok (.getfield 83, 3) := by decide +kernel
theorem dX7_readCover_84 : decode cX7_readCover 84 = .ok (.iconst 1, 1) := by decide +kernel
theorem dX7_readCover_85 : decode cX7_readCover 85 = .ok (.iadd, 1) := by decide +kernel
theorem dX7_readCover_86 : decode cX7_readCover 86 = .ok (.putfield 83, 3) := by decide +kernel
theorem dX7_readCover_89 : decode cX7_readCover 89 = .ok (.aload_n 0, 1) := by decide +kernel
theorem dX7_readCover_90 : decode cX7_readCover 90 = .ok (.invokevirtual 97, 3) := by decide +kernel
theorem dX7_readCover_93 : decode cX7_readCover 93 = .ok (.iconst (-1), 1) := by decide +kernel
theorem dX7_readCover_94 : decode cX7_readCover 94 = .ok (.if_icmp .ne 7, 3) := by decide +kernel
theorem dX7_readCover_97 : decode cX7_readCover 97 = .ok (.iconst (-1), 1) := by decide +kernel
theorem dX7_readCover_98 : decode cX7_readCover 98 = .ok (.goto 12, 3) := by decide +kernel
theorem dX7_readCover_101 : decode cX7_readCover 101 = .ok (.ldc 129, 2) := by decide +kernel
theorem dX7_readCover_103 : decode cX7_readCover 103 = .ok (.aload_n 0, 1) := by decide +kernel
theorem dX7_readCover_104 : decode cX7_readCover 104 = .ok (.invokevirtual 97, 3) := by decide +kernel
theorem dX7_readCover_107 : decode cX7_readCover 107 = .ok (.invokevirtual 131, 3) := by decide +kernel
theorem dX7_readCover_110 : decode cX7_readCover 110 = .ok (.istore_n 1, 1) := by decide +kernel
theorem dX7_readCover_111 : decode cX7_readCover 111 = .ok (.iload_n 1, 1) := by decide +kernel
theorem dX7_readCover_112 : decode cX7_readCover 112 = .ok (.iconst 1, 1) := by decide +kernel
theorem dX7_readCover_113 : decode cX7_readCover 113 = .ok (.if_icmp .ge 12, 3) := by decide +kernel
theorem dX7_readCover_116 : decode cX7_readCover 116 = .ok (.aload_n 0, 1) := by decide +kernel
theorem dX7_readCover_117 : decode cX7_readCover 117 = .ok (.aload_n 0, 1) := by decide +kernel
theorem dX7_readCover_118 : decode cX7_readCover 118 = .ok (.getfield 83, 3) := by decide +kernel
theorem dX7_readCover_121 : decode cX7_readCover 121 = .ok (.invokevirtual 93, 3) := by decide +kernel
theorem dX7_readCover_124 : decode cX7_readCover 124 = .ok (.ireturn, 1) := by decide +kernel
theorem dX7_readCover_125 : decode cX7_readCover 125 = .ok (.aload_n 0, 1) := by decide +kernel
theorem dX7_readCover_126 : decode cX7_readCover 126 = .ok (.iload_n 1, 1) := by decide +kernel
theorem dX7_readCover_127 : decode cX7_readCover 127 = .ok (.invokevirtual 126, 3) := by decide +kernel
theorem dX7_readCover_130 : decode cX7_readCover 130 = .ok (.ifCond .ne 5, 3) := by decide +kernel
theorem dX7_readCover_133 : decode cX7_readCover 133 = .ok (.iconst 0, 1) := by decide +kernel
theorem dX7_readCover_134 : decode cX7_readCover 134 = .ok (.ireturn, 1) := by decide +kernel
theorem dX7_readCover_135 : decode cX7_readCover 135 = .ok (.goto (-65), 3) := by decide +kernel
theorem dX7_readCover_138 : decode cX7_readCover 138 = .ok (.aload_n 0, 1) := by decide +kernel
theorem dX7_readCover_139 : decode cX7_readCover 139 = .ok (.getfield 83, 3) := by decide +kernel
theorem dX7_readCover_142 : decode cX7_readCover 142 = .ok (.aload_n 0, 1) := by decide +kernel
theorem dX7_readCover_143 : decode cX7_readCover 143 = .ok (.getfield 72, 3) := by decide +kernel
theorem dX7_readCover_146 : decode cX7_readCover 146 = .ok (.if_icmp .eq 14, 3) := by decide +kernel
theorem dX7_readCover_149 : decode cX7_readCover 149 = .ok (.aload_n 0, 1) := by decide +kernel
theorem dX7_readCover_150 : decode cX7_readCover 150 = .ok (.aload_n 0, 1) := by decide +kernel
theorem dX7_readCover_151 : decode cX7_readCover 151 = .ok (.getfield 83, 3) := by decide +kernel
theorem dX7_readCover_154 : decode cX7_readCover 154 = .ok (.invokevirtual 93, 3) := by decide +kernel
theorem dX7_readCover_157 : decode cX7_readCover 157 = .ok (.ifCond .eq 7, 3) := by decide +kernel
theorem dX7_readCover_160 : decode cX7_readCover 160 = .ok (.iconst 1, 1) := by decide +kernel
theorem dX7_readCover_161 : decode cX7_readCover 161 = .ok (.goto 4, 3) := by decide +kernel
theorem dX7_readCover_164 : decode cX7_readCover 164 = .ok (.iconst 0, 1) := by decide +kernel
theorem dX7_readCover_165 : decode cX7_readCover 165 = .ok (.ireturn, 1) := by decide +kernel
theorem dX7_fault_0 : decode cX7_fault 0 = .ok (.aload_n 0, 1) := by decide +kernel
theorem dX7_fault_1 : decode cX7_fault 1 = .ok (.iconst 0, 1) := by decide +kernel
theorem dX7_fault_2 : decode cX7_fault 2 = .ok (.putfield 68, 3) := by decide +kernel
theorem dX7_fault_5 : decode cX7_fault 5 = .ok (.aload_n 0, 1) := by decide +kernel
theorem dX7_fault_6 : decode cX7_fault 6 = .ok (.invokevirtual 136, 3) := by decide +kernel
theorem dX7_fault_9 : decode cX7_fault 9 = .ok (.istore_n 1, 1) := by decide +kernel
theorem dX7_fault_10 : decode cX7_fault 10 = .ok (.aload_n 0, 1) := by decide +kernel
theorem dX7_fault_11 : decode cX7_fault 11 = .ok (.getfield 90, 3) := by decide +kernel
theorem dX7_fault_14 : decode cX7_fault 14 = .ok (.ireturn, 1) := by decide +kernel
theorem dX7_cover_0 : decode cX7_cover 0 = .ok (.aload_n 0, 1) := by decide +kernel
theorem dX7_cover_1 : decode cX7_cover 1 = .ok (.iconst 0, 1) := by decide +kernel
theorem dX7_cover_2 : decode cX7_cover 2 = .ok (.putfield 68, 3) := by decide +kernel
theorem dX7_cover_5 : decode cX7_cover 5 = .ok (.aload_n 0, 1) := by decide +kernel
theorem dX7_cover_6 : decode cX7_cover 6 = .ok (.getfield 120, 3) := by decide +kernel
theorem dX7_cover_9 : decode cX7_cover 9 = .ok (.bipush 6, 2) := by decide +kernel
theorem dX7_cover_11 : decode cX7_cover 11 = .ok (.if_icmp .eq 10, 3) := by decide +kernel
theorem dX7_cover_14 : decode cX7_cover 14 = .ok (.aload_n 0, 1) := by decide +kernel
theorem dX7_cover_15 : decode cX7_cover 15 = .ok (.invokevirtual 136, 3) := by decide +kernel
theorem dX7_cover_18 : decode cX7_cover 18 = .ok (.ifCond .ne 5, 3) := by decide +kernel
theorem dX7_cover_21 : decode cX7_cover 21 = .ok (.iconst (-1), 1) := by decide +kernel
theorem dX7_cover_22 : decode cX7_cover 22 = .ok (.ireturn, 1) := by decide +kernel
theorem dX7_cover_23 : decode cX7_cover 23 = .ok (.aload_n 0, 1) := by decide +kernel
theorem dX7_cover_24 : decode cX7_cover 24 = .ok (.iconst 0, 1) := by decide +kernel
theorem dX7_cover_25 : decode cX7_cover 25 = .ok (.putfield 72, 3) := by decide +kernel
theorem dX7_cover_28 : decode cX7_cover 28 = .ok (.aload_n 0, 1) := by decide +kernel
theorem dX7_cover_29 : decode cX7_cover 29 = .ok (.dup, 1) := by decide +kernel
theorem dX7_cover_30 : decode cX7_cover 30 = .ok (.getfield 120, 3) := by decide +kernel
theorem dX7_cover_33 : decode cX7_cover 33 = .ok (.iconst 1, 1) := by decide +kernel
theorem dX7_cover_34 : decode cX7_cover 34 = .ok (.iadd, 1) := by decide +kernel
theorem dX7_cover_35 : decode cX7_cover 35 = .ok (.putfield 120, 3) := by decide +kernel
theorem dX7_cover_38 : decode cX7_cover 38 = .ok (.aload_n 0, 1) := by decide +kernel
theorem dX7_cover_39 : decode cX7_cover 39 = .ok (.getfield 120, 3) := by decide +kernel
theorem dX7_cover_42 : decode cX7_cover 42 = .ok (.iconst 1, 1) := by decide +kernel
theorem dX7_cover_43 : decode cX7_cover 43 = .ok (.isub, 1) := by decide +kernel
theorem dX7_cover_44 : decode cX7_cover 44 = .ok (.ireturn, 1) := by decide +kernel
theorem dX7_isCover_0 : decode cX7_isCover 0 = .ok (.iload_n 1, 1) := by decide +kernel
theorem dX7_isCover_1 : decode cX7_isCover 1 = .ok (.ifCond .lt 15, 3) := by decide +kernel
theorem dX7_isCover_4 : decode cX7_isCover 4 = .ok (.iload_n 1, 1) := by decide +kernel
theorem dX7_isCover_5 : decode cX7_isCover 5 = .ok (.aload_n 0, 1) := by decide +kernel
theorem dX7_isCover_6 : decode cX7_isCover 6 = .ok (.getfield 120, 3) := by decide +kernel
theorem dX7_isCover_9 : decode cX7_isCover 9 = .ok (.if_icmp .ge 7, 3) := by decide +kernel
theorem dX7_isCover_12 : decode cX7_isCover 12 = .ok (.iconst 1, 1) := by decide +kernel
theorem dX7_isCover_13 : decode cX7_isCover 13 = .ok (.goto 4, 3) := by decide +kernel
theorem dX7_isCover_16 : decode cX7_isCover 16 = .ok (.iconst 0, 1) := by decide +kernel
theorem dX7_isCover_17 : decode cX7_isCover 17 = .ok (.ireturn, 1) := by decide +kernel
theorem dX7_wordOf_0 : decode cX7_wordOf 0 = .ok (.aload_n 0, 1) := by decide +kernel
theorem dX7_wordOf_1 : decode cX7_wordOf 1 = .ok (.getfield 13, 3) := by decide +kernel
theorem dX7_wordOf_4 : decode cX7_wordOf 4 = .ok (.bipush 10, 2) := by decide +kernel
theorem dX7_wordOf_6 : decode cX7_wordOf 6 = .ok (.iload_n 1, 1) := by decide +kernel
theorem dX7_wordOf_7 : decode cX7_wordOf 7 = .ok (.imul, 1) := by decide +kernel
theorem dX7_wordOf_8 : decode cX7_wordOf 8 = .ok (.iload_n 2, 1) := by decide +kernel
theorem dX7_wordOf_9 : decode cX7_wordOf 9 = .ok (.iadd, 1) := by decide +kernel
theorem dX7_wordOf_10 : decode cX7_wordOf 10 = .ok (.iaload, 1) := by decide +kernel
theorem dX7_wordOf_11 : decode cX7_wordOf 11 = .ok (.ireturn, 1) := by decide +kernel
theorem dX7_word_0 : decode cX7_word 0 = .ok (.aload_n 0, 1) := by decide +kernel
theorem dX7_word_1 : decode cX7_word 1 = .ok (.aload_n 0, 1) := by decide +kernel
theorem dX7_word_2 : decode cX7_word 2 = .ok (.iload_n 1, 1) := by decide +kernel
theorem dX7_word_3 : decode cX7_word 3 = .ok (.invokevirtual 139, 3) := by decide +kernel
theorem dX7_word_6 : decode cX7_word 6 = .ok (.ifCond .eq 17, 3) := by decide +kernel
theorem dX7_word_9 : decode cX7_word 9 = .ok (.iload_n 2, 1) := by decide +kernel
theorem dX7_word_10 : decode cX7_word 10 = .ok (.iconst 0, 1) := by decide +kernel
theorem dX7_word_11 : decode cX7_word 11 = .ok (.bipush 9, 2) := by decide +kernel
theorem dX7_word_13 : decode cX7_word 13 = .ok (.invokestatic 107, 3) := by decide +kernel
theorem dX7_word_16 : decode cX7_word 16 = .ok (.ifCond .eq 7, 3) := by decide +kernel
theorem dX7_word_19 : decode cX7_word 19 = .ok (.iconst 0, 1) := by decide +kernel
theorem dX7_word_20 : decode cX7_word 20 = .ok (.goto 4, 3) := by decide +kernel
theorem dX7_word_23 : decode cX7_word 23 = .ok (.iconst 1, 1) := by decide +kernel
theorem dX7_word_24 : decode cX7_word 24 = .ok (.putfield 68, 3) := by decide +kernel
theorem dX7_word_27 : decode cX7_word 27 = .ok (.aload_n 0, 1) := by decide +kernel
theorem dX7_word_28 : decode cX7_word 28 = .ok (.getfield 68, 3) := by decide +kernel
theorem dX7_word_31 : decode cX7_word 31 = .ok (.ifCond .le 7, 3) := by decide +kernel
theorem dX7_word_34 : decode cX7_word 34 = .ok (.iconst 0, 1) := by decide +kernel
theorem dX7_word_35 : decode cX7_word 35 = .ok (.goto 9, 3) := by decide +kernel
theorem dX7_word_38 : decode cX7_word 38 = .ok (.aload_n 0, 1) := by decide +kernel
theorem dX7_word_39 : decode cX7_word 39 = .ok (.iload_n 1, 1) := by decide +kernel
theorem dX7_word_40 : decode cX7_word 40 = .ok (.iload_n 2, 1) := by decide +kernel
theorem dX7_word_41 : decode cX7_word 41 = .ok (.invokevirtual 142, 3) := by decide +kernel
theorem dX7_word_44 : decode cX7_word 44 = .ok (.ireturn, 1) := by decide +kernel
theorem dX7_isLoss_0 : decode cX7_isLoss 0 = .ok (.iload_n 1, 1) := by decide +kernel
theorem dX7_isLoss_1 : decode cX7_isLoss 1 = .ok (.ifCond .lt 15, 3) := by decide +kernel
theorem dX7_isLoss_4 : decode cX7_isLoss 4 = .ok (.iload_n 1, 1) := by decide +kernel
theorem dX7_isLoss_5 : decode cX7_isLoss 5 = .ok (.aload_n 0, 1) := by decide +kernel
theorem dX7_isLoss_6 : decode cX7_isLoss 6 = .ok (.getfield 146, 3) := by decide +kernel
theorem dX7_isLoss_9 : decode cX7_isLoss 9 = .ok (.if_icmp .ge 7, 3) := by decide +kernel
theorem dX7_isLoss_12 : decode cX7_isLoss 12 = .ok (.iconst 1, 1) := by decide +kernel
theorem dX7_isLoss_13 : decode cX7_isLoss 13 = .ok (.goto 4, 3) := by decide +kernel
theorem dX7_isLoss_16 : decode cX7_isLoss 16 = .ok (.iconst 0, 1) := by decide +kernel
theorem dX7_isLoss_17 : decode cX7_isLoss 17 = .ok (.ireturn, 1) := by decide +kernel
theorem dX7_isSet_0 : decode cX7_isSet 0 = .ok (.iload_n 1, 1) := by decide +kernel
theorem dX7_isSet_1 : decode cX7_isSet 1 = .ok (.ifCond .lt 17, 3) := by decide +kernel
theorem dX7_isSet_4 : decode cX7_isSet 4 = .ok (.iload_n 1, 1) := by decide +kernel
theorem dX7_isSet_5 : decode cX7_isSet 5 = .ok (.iconst 1, 1) := by decide +kernel
theorem dX7_isSet_6 : decode cX7_isSet 6 = .ok (.aload_n 0, 1) := by decide +kernel
theorem dX7_isSet_7 : decode cX7_isSet 7 = .ok (.getfield 146, 3) := by decide +kernel
theorem dX7_isSet_10 : decode cX7_isSet 10 = .ok (.ishl, 1) := by decide +kernel
theorem dX7_isSet_11 : decode cX7_isSet 11 = .ok (.if_icmp .ge 7, 3) := by decide +kernel
theorem dX7_isSet_14 : decode cX7_isSet 14 = .ok (.iconst 1, 1) := by decide +kernel
theorem dX7_isSet_15 : decode cX7_isSet 15 = .ok (.goto 4, 3) := by decide +kernel
theorem dX7_isSet_18 : decode cX7_isSet 18 = .ok (.iconst 0, 1) := by decide +kernel
theorem dX7_isSet_19 : decode cX7_isSet 19 = .ok (.ireturn, 1) := by decide +kernel
theorem dX7_every_0 : decode cX7_every 0 = .ok (.iconst 1, 1) := by decide +kernel
theorem dX7_every_1 : decode cX7_every 1 = .ok (.aload_n 0, 1) := by decide +kernel
theorem dX7_every_2 : decode cX7_every 2 = .ok (.getfield 146, 3) := by decide +kernel
theorem dX7_every_5 : decode cX7_every 5 = .ok (.ishl, 1) := by decide +kernel
theorem dX7_every_6 : decode cX7_every 6 = .ok (.iconst 1, 1) := by decide +kernel
theorem dX7_every_7 : decode cX7_every 7 = .ok (.isub, 1) := by decide +kernel
theorem dX7_every_8 : decode cX7_every 8 = .ok (.ireturn, 1) := by decide +kernel
theorem dX7_has_0 : decode cX7_has 0 = .ok (.iload_n 0, 1) := by decide +kernel
theorem dX7_has_1 : decode cX7_has 1 = .ok (.iload_n 1, 1) := by decide +kernel
theorem dX7_has_2 : decode cX7_has 2 = .ok (.ishr, 1) := by decide +kernel
theorem dX7_has_3 : decode cX7_has 3 = .ok (.iconst 1, 1) := by decide +kernel
theorem dX7_has_4 : decode cX7_has 4 = .ok (.iand, 1) := by decide +kernel
theorem dX7_has_5 : decode cX7_has 5 = .ok (.iconst 1, 1) := by decide +kernel
theorem dX7_has_6 : decode cX7_has 6 = .ok (.if_icmp .ne 7, 3) := by decide +kernel
theorem dX7_has_9 : decode cX7_has 9 = .ok (.iconst 1, 1) := by decide +kernel
theorem dX7_has_10 : decode cX7_has 10 = .ok (.goto 4, 3) := by decide +kernel
theorem dX7_has_13 : decode cX7_has 13 = .ok (.iconst 0, 1) := by decide +kernel
theorem dX7_has_14 : decode cX7_has 14 = .ok (.ireturn, 1) := by decide +kernel
theorem dX7_loss_0 : decode cX7_loss 0 = .ok (.aload_n 0, 1) := by decide +kernel
theorem dX7_loss_1 : decode cX7_loss 1 = .ok (.iconst 0, 1) := by decide +kernel
theorem dX7_loss_2 : decode cX7_loss 2 = .ok (.putfield 68, 3) := by decide +kernel
theorem dX7_loss_5 : decode cX7_loss 5 = .ok (.aload_n 0, 1) := by decide +kernel
theorem dX7_loss_6 : decode cX7_loss 6 = .ok (.getfield 146, 3) := by decide +kernel
theorem dX7_loss_9 : decode cX7_loss 9 = .ok (.bipush 12, 2) := by decide +kernel
theorem dX7_loss_11 : decode cX7_loss 11 = .ok (.if_icmp .eq 76, 3) := by decide +kernel
theorem dX7_loss_14 : decode cX7_loss 14 = .ok (.iload_n 1, 1) := by decide +kernel
theorem dX7_loss_15 : decode cX7_loss 15 = .ok (.iconst 1, 1) := by decide +kernel
theorem dX7_loss_16 : decode cX7_loss 16 = .ok (.bipush 99, 2) := by decide +kernel
theorem dX7_loss_18 : decode cX7_loss 18 = .ok (.invokestatic 107, 3) := by decide +kernel
theorem dX7_loss_21 : decode cX7_loss 21 = .ok (.ifCond .eq 66, 3) := by decide +kernel
theorem dX7_loss_24 : decode cX7_loss 24 = .ok (.iload_n 2, 1) := by decide +kernel
theorem dX7_loss_25 : decode cX7_loss 25 = .ok (.iconst 0, 1) := by decide +kernel
theorem dX7_loss_26 : decode cX7_loss 26 = .ok (.sipush 999, 3) := by decide +kernel
theorem dX7_loss_29 : decode cX7_loss 29 = .ok (.invokestatic 107, 3) := by decide +kernel
theorem dX7_loss_32 : decode cX7_loss 32 = .ok (.ifCond .eq 55, 3) := by decide +kernel
theorem dX7_loss_35 : decode cX7_loss 35 = .ok (.iload_n 3, 1) := by decide +kernel
theorem dX7_loss_36 : decode cX7_loss 36 = .ok (.iconst 0, 1) := by decide +kernel
theorem dX7_loss_37 : decode cX7_loss 37 = .ok (.bipush 99, 2) := by decide +kernel
theorem dX7_loss_39 : decode cX7_loss 39 = .ok (.invokestatic 107, 3) := by decide +kernel
theorem dX7_loss_42 : decode cX7_loss 42 = .ok (.ifCond .eq 45, 3) := by decide +kernel
theorem dX7_loss_45 : decode cX7_loss 45 = .ok (.iload_n 2, 1) := by decide +kernel
theorem dX7_loss_46 : decode cX7_loss 46 = .ok (.iload_n 3, 1) := by decide +kernel
theorem dX7_loss_47 : decode cX7_loss 47 = .ok (.iadd, 1) := by decide +kernel
theorem dX7_loss_48 : decode cX7_loss 48 = .ok (.sipush 999, 3) := by decide +kernel
theorem dX7_loss_51 : decode cX7_loss 51 = .ok (.if_icmp .gt 36, 3) := by decide +kernel
theorem dX7_loss_54 : decode cX7_loss 54 = .ok (.iload 4, 2) := by decide +kernel
theorem dX7_loss_56 : decode cX7_loss 56 = .ok (.iconst 0, 1) := by decide +kernel
theorem dX7_loss_57 : decode cX7_loss 57 = .ok (.bipush 99, 2) := by decide +kernel
theorem dX7_loss_59 : decode cX7_loss 59 = .ok (.invokestatic 107, 3) := by decide +kernel
theorem dX7_loss_62 : decode cX7_loss 62 = .ok (.ifCond .eq 25, 3) := by decide +kernel
theorem dX7_loss_65 : decode cX7_loss 65 = .ok (.iload 5, 2) := by decide +kernel
theorem dX7_loss_67 : decode cX7_loss 67 = .ok (.iconst 0, 1) := by decide +kernel
theorem dX7_loss_68 : decode cX7_loss 68 = .ok (.bipush 99, 2) := by decide +kernel
theorem dX7_loss_70 : decode cX7_loss 70 = .ok (.invokestatic 107, 3) := by decide +kernel
theorem dX7_loss_73 : decode cX7_loss 73 = .ok (.ifCond .eq 14, 3) := by decide +kernel
theorem dX7_loss_76 : decode cX7_loss 76 = .ok (.iload 6, 2) := by decide +kernel
theorem dX7_loss_78 : decode cX7_loss 78 = .ok (.iconst 1, 1) := by decide +kernel
theorem dX7_loss_79 : decode cX7_loss 79 = .ok (.bipush 63, 2) := by decide +kernel
theorem dX7_loss_81 : decode cX7_loss 81 = .ok (.invokestatic 107, 3) := by decide +kernel
theorem dX7_loss_84 : decode cX7_loss 84 = .ok (.ifCond .ne 5, 3) := by decide +kernel
theorem dX7_loss_87 : decode cX7_loss 87 = .ok (.iconst (-1), 1) := by decide +kernel
theorem dX7_loss_88 : decode cX7_loss 88 = .ok (.ireturn, 1) := by decide +kernel
theorem dX7_loss_89 : decode cX7_loss 89 = .ok (.aload_n 0, 1) := by decide +kernel
theorem dX7_loss_90 : decode cX7_loss 90 = .ok (.getfield 17, 3) := by decide +kernel
theorem dX7_loss_93 : decode cX7_loss 93 = .ok (.aload_n 0, 1) := by decide +kernel
theorem dX7_loss_94 : decode cX7_loss 94 = .ok (.getfield 146, 3) := by decide +kernel
theorem dX7_loss_97 : decode cX7_loss 97 = .ok (.iload_n 1, 1) := by decide +kernel
theorem dX7_loss_98 : decode cX7_loss 98 = .ok (.iastore, 1) := by decide +kernel
theorem dX7_loss_99 : decode cX7_loss 99 = .ok (.aload_n 0, 1) := by decide +kernel
theorem dX7_loss_100 : decode cX7_loss 100 = .ok (.getfield 20, 3) := by decide +kernel
theorem dX7_loss_103 : decode cX7_loss 103 = .ok (.aload_n 0, 1) := by decide +kernel
theorem dX7_loss_104 : decode cX7_loss 104 = .ok (.getfield 146, 3) := by decide +kernel
theorem dX7_loss_107 : decode cX7_loss 107 = .ok (.iload_n 2, 1) := by decide +kernel
theorem dX7_loss_108 : decode cX7_loss 108 = .ok (.iastore, 1) := by decide +kernel
theorem dX7_loss_109 : decode cX7_loss 109 = .ok (.aload_n 0, 1) := by decide +kernel
theorem dX7_loss_110 : decode cX7_loss 110 = .ok (.getfield 23, 3) := by decide +kernel
theorem dX7_loss_113 : decode cX7_loss 113 = .ok (.aload_n 0, 1) := by decide +kernel
theorem dX7_loss_114 : decode cX7_loss 114 = .ok (.getfield 146, 3) := by decide +kernel
theorem dX7_loss_117 : decode cX7_loss 117 = .ok (.iload_n 2, 1) := by decide +kernel
theorem dX7_loss_118 : decode cX7_loss 118 = .ok (.iload_n 3, 1) := by decide +kernel
theorem dX7_loss_119 : decode cX7_loss 119 = .ok (.iadd, 1) := by decide +kernel
theorem dX7_loss_120 : decode cX7_loss 120 = .ok (.iastore, 1) := by decide +kernel
theorem dX7_loss_121 : decode cX7_loss 121 = .ok (.aload_n 0, 1) := by decide +kernel
theorem dX7_loss_122 : decode cX7_loss 122 = .ok (.getfield 26, 3) := by decide +kernel
theorem dX7_loss_125 : decode cX7_loss 125 = .ok (.aload_n 0, 1) := by decide +kernel
theorem dX7_loss_126 : decode cX7_loss 126 = .ok (.getfield 146, 3) := by decide +kernel
theorem dX7_loss_129 : decode cX7_loss 129 = .ok (.iload 4, 2) := by decide +kernel
theorem dX7_loss_131 : decode cX7_loss 131 = .ok (.iastore, 1) := by decide +kernel
theorem dX7_loss_132 : decode cX7_loss 132 = .ok (.aload_n 0, 1) := by decide +kernel
theorem dX7_loss_133 : decode cX7_loss 133 = .ok (.getfield 29, 3) := by decide +kernel
theorem dX7_loss_136 : decode cX7_loss 136 = .ok (.aload_n 0, 1) := by decide +kernel
theorem dX7_loss_137 : decode cX7_loss 137 = .ok (.getfield 146, 3) := by decide +kernel
theorem dX7_loss_140 : decode cX7_loss 140 = .ok (.iload 5, 2) := by decide +kernel
theorem dX7_loss_142 : decode cX7_loss 142 = .ok (.iastore, 1) := by decide +kernel
theorem dX7_loss_143 : decode cX7_loss 143 = .ok (.aload_n 0, 1) := by decide +kernel
theorem dX7_loss_144 : decode cX7_loss 144 = .ok (.getfield 32, 3) := by decide +kernel
theorem dX7_loss_147 : decode cX7_loss 147 = .ok (.aload_n 0, 1) := by decide +kernel
theorem dX7_loss_148 : decode cX7_loss 148 = .ok (.getfield 146, 3) := by decide +kernel
theorem dX7_loss_151 : decode cX7_loss 151 = .ok (.iload 6, 2) := by decide +kernel
theorem dX7_loss_153 : decode cX7_loss 153 = .ok (.iastore, 1) := by decide +kernel
theorem dX7_loss_154 : decode cX7_loss 154 = .ok (.aload_n 0, 1) := by decide +kernel
theorem dX7_loss_155 : decode cX7_loss 155 = .ok (.getfield 35, 3) := by decide +kernel
theorem dX7_loss_158 : decode cX7_loss 158 = .ok (.aload_n 0, 1) := by decide +kernel
theorem dX7_loss_159 : decode cX7_loss 159 = .ok (.getfield 146, 3) := by decide +kernel
theorem dX7_loss_162 : decode cX7_loss 162 = .ok (.iconst 0, 1) := by decide +kernel
theorem dX7_loss_163 : decode cX7_loss 163 = .ok (.iastore, 1) := by decide +kernel
theorem dX7_loss_164 : decode cX7_loss 164 = .ok (.aload_n 0, 1) := by decide +kernel
theorem dX7_loss_165 : decode cX7_loss 165 = .ok (.dup, 1) := by decide +kernel
theorem dX7_loss_166 : decode cX7_loss 166 = .ok (.getfield 146, 3) := by decide +kernel
theorem dX7_loss_169 : decode cX7_loss 169 = .ok (.iconst 1, 1) := by decide +kernel
theorem dX7_loss_170 : decode cX7_loss 170 = .ok (.iadd, 1) := by decide +kernel
theorem dX7_loss_171 : decode cX7_loss 171 = .ok (.putfield 146, 3) := by decide +kernel
theorem dX7_loss_174 : decode cX7_loss 174 = .ok (.aload_n 0, 1) := by decide +kernel
theorem dX7_loss_175 : decode cX7_loss 175 = .ok (.getfield 146, 3) := by decide +kernel
theorem dX7_loss_178 : decode cX7_loss 178 = .ok (.iconst 1, 1) := by decide +kernel
theorem dX7_loss_179 : decode cX7_loss 179 = .ok (.isub, 1) := by decide +kernel
theorem dX7_loss_180 : decode cX7_loss 180 = .ok (.ireturn, 1) := by decide +kernel
theorem dX7_mend_0 : decode cX7_mend 0 = .ok (.aload_n 0, 1) := by decide +kernel
theorem dX7_mend_1 : decode cX7_mend 1 = .ok (.iconst 0, 1) := by decide +kernel
theorem dX7_mend_2 : decode cX7_mend 2 = .ok (.putfield 68, 3) := by decide +kernel
theorem dX7_mend_5 : decode cX7_mend 5 = .ok (.aload_n 0, 1) := by decide +kernel
theorem dX7_mend_6 : decode cX7_mend 6 = .ok (.iload_n 1, 1) := by decide +kernel
theorem dX7_mend_7 : decode cX7_mend 7 = .ok (.invokevirtual 149, 3) := by decide +kernel
theorem dX7_mend_10 : decode cX7_mend 10 = .ok (.ifCond .eq 24, 3) := by decide +kernel
theorem dX7_mend_13 : decode cX7_mend 13 = .ok (.iload_n 2, 1) := by decide +kernel
theorem dX7_mend_14 : decode cX7_mend 14 = .ok (.iconst 0, 1) := by decide +kernel
theorem dX7_mend_15 : decode cX7_mend 15 = .ok (.sipush 999, 3) := by decide +kernel
theorem dX7_mend_18 : decode cX7_mend 18 = .ok (.invokestatic 107, 3) := by decide +kernel
theorem dX7_mend_21 : decode cX7_mend 21 = .ok (.ifCond .eq 13, 3) := by decide +kernel
theorem dX7_mend_24 : decode cX7_mend 24 = .ok (.iload_n 3, 1) := by decide +kernel
theorem dX7_mend_25 : decode cX7_mend 25 = .ok (.iconst 1, 1) := by decide +kernel
theorem dX7_mend_26 : decode cX7_mend 26 = .ok (.bipush 99, 2) := by decide +kernel
theorem dX7_mend_28 : decode cX7_mend 28 = .ok (.invokestatic 107, 3) := by decide +kernel
theorem dX7_mend_31 : decode cX7_mend 31 = .ok (.ifCond .ne 5, 3) := by decide +kernel
theorem dX7_mend_34 : decode cX7_mend 34 = .ok (.iconst 0, 1) := by decide +kernel
theorem dX7_mend_35 : decode cX7_mend 35 = .ok (.ireturn, 1) := by decide +kernel
theorem dX7_mend_36 : decode cX7_mend 36 = .ok (.aload_n 0, 1) := by decide +kernel
theorem dX7_mend_37 : decode cX7_mend 37 = .ok (.getfield 20, 3) := by decide +kernel
theorem dX7_mend_40 : decode cX7_mend 40 = .ok (.iload_n 1, 1) := by decide +kernel
theorem dX7_mend_41 : decode cX7_mend 41 = .ok (.iload_n 2, 1) := by decide +kernel
theorem dX7_mend_42 : decode cX7_mend 42 = .ok (.iastore, 1) := by decide +kernel
theorem dX7_mend_43 : decode cX7_mend 43 = .ok (.aload_n 0, 1) := by decide +kernel
theorem dX7_mend_44 : decode cX7_mend 44 = .ok (.getfield 23, 3) := by decide +kernel
theorem dX7_mend_47 : decode cX7_mend 47 = .ok (.iload_n 1, 1) := by decide +kernel
theorem dX7_mend_48 : decode cX7_mend 48 = .ok (.aload_n 0, 1) := by decide +kernel
theorem dX7_mend_49 : decode cX7_mend 49 = .ok (.getfield 23, 3) := by decide +kernel
theorem dX7_mend_52 : decode cX7_mend 52 = .ok (.iload_n 1, 1) := by decide +kernel
theorem dX7_mend_53 : decode cX7_mend 53 = .ok (.iaload, 1) := by decide +kernel
theorem dX7_mend_54 : decode cX7_mend 54 = .ok (.iload_n 2, 1) := by decide +kernel
theorem dX7_mend_55 : decode cX7_mend 55 = .ok (.invokestatic 152, 3) := by decide +kernel
theorem dX7_mend_58 : decode cX7_mend 58 = .ok (.iastore, 1) := by decide +kernel
theorem dX7_mend_59 : decode cX7_mend 59 = .ok (.aload_n 0, 1) := by decide +kernel
theorem dX7_mend_60 : decode cX7_mend 60 = .ok (.getfield 17, 3) := by decide +kernel
theorem dX7_mend_63 : decode cX7_mend 63 = .ok (.iload_n 1, 1) := by decide +kernel
theorem dX7_mend_64 : decode cX7_mend 64 = .ok (.iload_n 3, 1) := by decide +kernel
theorem dX7_mend_65 : decode cX7_mend 65 = .ok (.iastore, 1) := by decide +kernel
theorem dX7_mend_66 : decode cX7_mend 66 = .ok (.iconst 1, 1) := by decide +kernel
theorem dX7_mend_67 : decode cX7_mend 67 = .ok (.ireturn, 1) := by decide +kernel
theorem dX7_leastHour_0 : decode cX7_leastHour 0 = .ok (.sipush 1000, 3) := by decide +kernel
theorem dX7_leastHour_3 : decode cX7_leastHour 3 = .ok (.istore_n 2, 1) := by decide +kernel
theorem dX7_leastHour_4 : decode cX7_leastHour 4 = .ok (.iconst 0, 1) := by decide +kernel
theorem dX7_leastHour_5 : decode cX7_leastHour 5 = .ok (.istore_n 3, 1) := by decide +kernel
theorem dX7_leastHour_6 : decode cX7_leastHour 6 = .ok (.iload_n 3, 1) := by decide +kernel
theorem dX7_leastHour_7 : decode cX7_leastHour 7 = .ok (.aload_n 0, 1) := by decide +kernel
theorem dX7_leastHour_8 : decode cX7_leastHour 8 = .ok (.getfield 146, 3) := by decide +kernel
theorem dX7_leastHour_11 : decode cX7_leastHour 11 = .ok (.if_icmp .ge 28, 3) := by decide +kernel
theorem dX7_leastHour_14 : decode cX7_leastHour 14 = .ok (.iload_n 1, 1) := by decide +kernel
theorem dX7_leastHour_15 : decode cX7_leastHour 15 = .ok (.iload_n 3, 1) := by decide +kernel
theorem dX7_leastHour_16 : decode cX7_leastHour 16 = .ok (.invokestatic 157, 3) := by decide +kernel
theorem dX7_leastHour_19 : decode cX7_leastHour 19 = .ok (.ifCond .eq 14, 3) := by decide +kernel
theorem dX7_leastHour_22 : decode cX7_leastHour 22 = .ok (.iload_n 2, 1) := by decide +kernel
theorem dX7_leastHour_23 : decode cX7_leastHour 23 = .ok (.aload_n 0, 1) := by decide +kernel
theorem dX7_leastHour_24 : decode cX7_leastHour 24 = .ok (.getfield 20, 3) := by decide +kernel
theorem dX7_leastHour_27 : decode cX7_leastHour 27 = .ok (.iload_n 3, 1) := by decide +kernel
theorem dX7_leastHour_28 : decode cX7_leastHour 28 = .ok (.iaload, 1) := by decide +kernel
theorem dX7_leastHour_29 : decode cX7_leastHour 29 = .ok (.invokestatic 160, 3) := by decide +kernel
theorem dX7_leastHour_32 : decode cX7_leastHour 32 = .ok (.istore_n 2, 1) := by decide +kernel
theorem dX7_leastHour_33 : decode cX7_leastHour 33 = .ok (.iinc 3 1, 3) := by decide +kernel
theorem dX7_leastHour_36 : decode cX7_leastHour 36 = .ok (.goto (-30), 3) := by decide +kernel
theorem dX7_leastHour_39 : decode cX7_leastHour 39 = .ok (.iload_n 2, 1) := by decide +kernel
theorem dX7_leastHour_40 : decode cX7_leastHour 40 = .ok (.ireturn, 1) := by decide +kernel
theorem dX7_mostHour_0 : decode cX7_mostHour 0 = .ok (.iconst (-1), 1) := by decide +kernel
theorem dX7_mostHour_1 : decode cX7_mostHour 1 = .ok (.istore_n 2, 1) := by decide +kernel
theorem dX7_mostHour_2 : decode cX7_mostHour 2 = .ok (.iconst 0, 1) := by decide +kernel
theorem dX7_mostHour_3 : decode cX7_mostHour 3 = .ok (.istore_n 3, 1) := by decide +kernel
theorem dX7_mostHour_4 : decode cX7_mostHour 4 = .ok (.iload_n 3, 1) := by decide +kernel
theorem dX7_mostHour_5 : decode cX7_mostHour 5 = .ok (.aload_n 0, 1) := by decide +kernel
theorem dX7_mostHour_6 : decode cX7_mostHour 6 = .ok (.getfield 146, 3) := by decide +kernel
theorem dX7_mostHour_9 : decode cX7_mostHour 9 = .ok (.if_icmp .ge 28, 3) := by decide +kernel
theorem dX7_mostHour_12 : decode cX7_mostHour 12 = .ok (.iload_n 1, 1) := by decide +kernel
theorem dX7_mostHour_13 : decode cX7_mostHour 13 = .ok (.iload_n 3, 1) := by decide +kernel
theorem dX7_mostHour_14 : decode cX7_mostHour 14 = .ok (.invokestatic 157, 3) := by decide +kernel
theorem dX7_mostHour_17 : decode cX7_mostHour 17 = .ok (.ifCond .eq 14, 3) := by decide +kernel
theorem dX7_mostHour_20 : decode cX7_mostHour 20 = .ok (.iload_n 2, 1) := by decide +kernel
theorem dX7_mostHour_21 : decode cX7_mostHour 21 = .ok (.aload_n 0, 1) := by decide +kernel
theorem dX7_mostHour_22 : decode cX7_mostHour 22 = .ok (.getfield 20, 3) := by decide +kernel
theorem dX7_mostHour_25 : decode cX7_mostHour 25 = .ok (.iload_n 3, 1) := by decide +kernel
theorem dX7_mostHour_26 : decode cX7_mostHour 26 = .ok (.iaload, 1) := by decide +kernel
theorem dX7_mostHour_27 : decode cX7_mostHour 27 = .ok (.invokestatic 152, 3) := by decide +kernel
theorem dX7_mostHour_30 : decode cX7_mostHour 30 = .ok (.istore_n 2, 1) := by decide +kernel
theorem dX7_mostHour_31 : decode cX7_mostHour 31 = .ok (.iinc 3 1, 3) := by decide +kernel
theorem dX7_mostHour_34 : decode cX7_mostHour 34 = .ok (.goto (-30), 3) := by decide +kernel
theorem dX7_mostHour_37 : decode cX7_mostHour 37 = .ok (.iload_n 2, 1) := by decide +kernel
theorem dX7_mostHour_38 : decode cX7_mostHour 38 = .ok (.ireturn, 1) := by decide +kernel
theorem dX7_areNear_0 : decode cX7_areNear 0 = .ok (.aload_n 0, 1) := by decide +kernel
theorem dX7_areNear_1 : decode cX7_areNear 1 = .ok (.getfield 26, 3) := by decide +kernel
theorem dX7_areNear_4 : decode cX7_areNear 4 = .ok (.iload_n 1, 1) := by decide +kernel
theorem dX7_areNear_5 : decode cX7_areNear 5 = .ok (.iaload, 1) := by decide +kernel
theorem dX7_areNear_6 : decode cX7_areNear 6 = .ok (.aload_n 0, 1) := by decide +kernel
theorem dX7_areNear_7 : decode cX7_areNear 7 = .ok (.getfield 26, 3) := by decide +kernel
theorem dX7_areNear_10 : decode cX7_areNear 10 = .ok (.iload_n 2, 1) := by decide +kernel
theorem dX7_areNear_11 : decode cX7_areNear 11 = .ok (.iaload, 1) := by decide +kernel
theorem dX7_areNear_12 : decode cX7_areNear 12 = .ok (.isub, 1) := by decide +kernel
theorem dX7_areNear_13 : decode cX7_areNear 13 = .ok (.istore 4, 2) := by decide +kernel
theorem dX7_areNear_15 : decode cX7_areNear 15 = .ok (.aload_n 0, 1) := by decide +kernel
theorem dX7_areNear_16 : decode cX7_areNear 16 = .ok (.getfield 29, 3) := by decide +kernel
theorem dX7_areNear_19 : decode cX7_areNear 19 = .ok (.iload_n 1, 1) := by decide +kernel
theorem dX7_areNear_20 : decode cX7_areNear 20 = .ok (.iaload, 1) := by decide +kernel
theorem dX7_areNear_21 : decode cX7_areNear 21 = .ok (.aload_n 0, 1) := by decide +kernel
theorem dX7_areNear_22 : decode cX7_areNear 22 = .ok (.getfield 29, 3) := by decide +kernel
theorem dX7_areNear_25 : decode cX7_areNear 25 = .ok (.iload_n 2, 1) := by decide +kernel
theorem dX7_areNear_26 : decode cX7_areNear 26 = .ok (.iaload, 1) := by decide +kernel
theorem dX7_areNear_27 : decode cX7_areNear 27 = .ok (.isub, 1) := by decide +kernel
theorem dX7_areNear_28 : decode cX7_areNear 28 = .ok (.istore 5, 2) := by decide +kernel
theorem dX7_areNear_30 : decode cX7_areNear 30 = .ok (.iload 4, 2) := by decide +kernel
theorem dX7_areNear_32 : decode cX7_areNear 32 = .ok (.iload 4, 2) := by decide +kernel
theorem dX7_areNear_34 : decode cX7_areNear 34 = .ok (.imul, 1) := by decide +kernel
theorem dX7_areNear_35 : decode cX7_areNear 35 = .ok (.iload 5, 2) := by decide +kernel
theorem dX7_areNear_37 : decode cX7_areNear 37 = .ok (.iload 5, 2) := by decide +kernel
theorem dX7_areNear_39 : decode cX7_areNear 39 = .ok (.imul, 1) := by decide +kernel
theorem dX7_areNear_40 : decode cX7_areNear 40 = .ok (.iadd, 1) := by decide +kernel
theorem dX7_areNear_41 : decode cX7_areNear 41 = .ok (.iload_n 3, 1) := by decide +kernel
theorem dX7_areNear_42 : decode cX7_areNear 42 = .ok (.iload_n 3, 1) := by decide +kernel
theorem dX7_areNear_43 : decode cX7_areNear 43 = .ok (.imul, 1) := by decide +kernel
theorem dX7_areNear_44 : decode cX7_areNear 44 = .ok (.if_icmp .gt 7, 3) := by decide +kernel
theorem dX7_areNear_47 : decode cX7_areNear 47 = .ok (.iconst 1, 1) := by decide +kernel
theorem dX7_areNear_48 : decode cX7_areNear 48 = .ok (.goto 4, 3) := by decide +kernel
theorem dX7_areNear_51 : decode cX7_areNear 51 = .ok (.iconst 0, 1) := by decide +kernel
theorem dX7_areNear_52 : decode cX7_areNear 52 = .ok (.ireturn, 1) := by decide +kernel
theorem dX7_mayBeOne_0 : decode cX7_mayBeOne 0 = .ok (.aload_n 0, 1) := by decide +kernel
theorem dX7_mayBeOne_1 : decode cX7_mayBeOne 1 = .ok (.iload_n 2, 1) := by decide +kernel
theorem dX7_mayBeOne_2 : decode cX7_mayBeOne 2 = .ok (.invokevirtual 163, 3) := by decide +kernel
theorem dX7_mayBeOne_5 : decode cX7_mayBeOne 5 = .ok (.aload_n 0, 1) := by decide +kernel
theorem dX7_mayBeOne_6 : decode cX7_mayBeOne 6 = .ok (.iload_n 2, 1) := by decide +kernel
theorem dX7_mayBeOne_7 : decode cX7_mayBeOne 7 = .ok (.invokevirtual 166, 3) := by decide +kernel
theorem dX7_mayBeOne_10 : decode cX7_mayBeOne 10 = .ok (.isub, 1) := by decide +kernel
theorem dX7_mayBeOne_11 : decode cX7_mayBeOne 11 = .ok (.aload_n 0, 1) := by decide +kernel
theorem dX7_mayBeOne_12 : decode cX7_mayBeOne 12 = .ok (.iload_n 1, 1) := by decide +kernel
theorem dX7_mayBeOne_13 : decode cX7_mayBeOne 13 = .ok (.iconst 0, 1) := by decide +kernel
theorem dX7_mayBeOne_14 : decode cX7_mayBeOne 14 = .ok (.invokevirtual 142, 3) := by decide +kernel
theorem dX7_mayBeOne_17 : decode cX7_mayBeOne 17 = .ok (.if_icmp .lt 5, 3) := by decide +kernel
theorem dX7_mayBeOne_20 : decode cX7_mayBeOne 20 = .ok (.iconst 0, 1) := by decide +kernel
theorem dX7_mayBeOne_21 : decode cX7_mayBeOne 21 = .ok (.ireturn, 1) := by decide +kernel
theorem dX7_mayBeOne_22 : decode cX7_mayBeOne 22 = .ok (.bipush 63, 2) := by decide +kernel
theorem dX7_mayBeOne_24 : decode cX7_mayBeOne 24 = .ok (.istore_n 3, 1) := by decide +kernel
theorem dX7_mayBeOne_25 : decode cX7_mayBeOne 25 = .ok (.iconst 0, 1) := by decide +kernel
theorem dX7_mayBeOne_26 : decode cX7_mayBeOne 26 = .ok (.istore 4, 2) := by decide +kernel
theorem dX7_mayBeOne_28 : decode cX7_mayBeOne 28 = .ok (.iload 4, 2) := by decide +kernel
theorem dX7_mayBeOne_30 : decode cX7_mayBeOne 30 = .ok (.aload_n 0, 1) := by decide +kernel
theorem dX7_mayBeOne_31 : decode cX7_mayBeOne 31 = .ok (.getfield 146, 3) := by decide +kernel
theorem dX7_mayBeOne_34 : decode cX7_mayBeOne 34 = .ok (.if_icmp .ge 85, 3) := by decide +kernel
theorem dX7_mayBeOne_37 : decode cX7_mayBeOne 37 = .ok (.iload_n 2, 1) := by decide +kernel
theorem dX7_mayBeOne_38 : decode cX7_mayBeOne 38 = .ok (.iload 4, 2) := by decide +kernel
theorem dX7_mayBeOne_40 : decode cX7_mayBeOne 40 = .ok (.invokestatic 157, 3) := by decide +kernel
theorem dX7_mayBeOne_43 : decode cX7_mayBeOne 43 = .ok (.ifCond .ne 6, 3) := by decide +kernel
theorem dX7_mayBeOne_46 : decode cX7_mayBeOne 46 = .ok (.goto 67, 3) := by decide +kernel
theorem dX7_mayBeOne_49 : decode cX7_mayBeOne 49 = .ok (.iload_n 3, 1) := by decide +kernel
theorem dX7_mayBeOne_50 : decode cX7_mayBeOne 50 = .ok (.aload_n 0, 1) := by decide +kernel
theorem dX7_mayBeOne_51 : decode cX7_mayBeOne 51 = .ok (.getfield 32, 3) := by decide +kernel
theorem dX7_mayBeOne_54 : decode cX7_mayBeOne 54 = .ok (.iload 4, 2) := by decide +kernel
theorem dX7_mayBeOne_56 : decode cX7_mayBeOne 56 = .ok (.iaload, 1) := by decide +kernel
theorem dX7_mayBeOne_57 : decode cX7_mayBeOne 57 = .ok (.iand, 1) := by decide +kernel
theorem dX7_mayBeOne_58 : decode cX7_mayBeOne 58 = .ok (.istore_n 3, 1) := by decide +kernel
theorem dX7_mayBeOne_59 : decode cX7_mayBeOne 59 = .ok (.iconst 0, 1) := by decide +kernel
theorem dX7_mayBeOne_60 : decode cX7_mayBeOne 60 = .ok (.istore 5, 2) := by decide +kernel
theorem dX7_mayBeOne_62 : decode cX7_mayBeOne 62 = .ok (.iload 5, 2) := by decide +kernel
theorem dX7_mayBeOne_64 : decode cX7_mayBeOne 64 = .ok (.iload 4, 2) := by decide +kernel
theorem dX7_mayBeOne_66 : decode cX7_mayBeOne 66 = .ok (.if_icmp .ge 47, 3) := by decide +kernel
theorem dX7_mayBeOne_69 : decode cX7_mayBeOne 69 = .ok (.aload_n 0, 1) := by decide +kernel
theorem dX7_mayBeOne_70 : decode cX7_mayBeOne 70 = .ok (.iload_n 1, 1) := by decide +kernel
theorem dX7_mayBeOne_71 : decode cX7_mayBeOne 71 = .ok (.iconst 1, 1) := by decide +kernel
theorem dX7_mayBeOne_72 : decode cX7_mayBeOne 72 = .ok (.invokevirtual 142, 3) := by decide +kernel
theorem dX7_mayBeOne_75 : decode cX7_mayBeOne 75 = .ok (.iconst (-1), 1) := by decide +kernel
theorem dX7_mayBeOne_76 : decode cX7_mayBeOne 76 = .ok (.if_icmp .eq 37, 3) := by decide +kernel
theorem dX7_mayBeOne_79 : decode cX7_mayBeOne 79 = .ok (.iload_n 2, 1) := by decide +kernel
theorem dX7_mayBeOne_80 : decode cX7_mayBeOne 80 = .ok (.iload 5, 2) := by decide +kernel
theorem dX7_mayBeOne_82 : decode cX7_mayBeOne 82 = .ok (.invokestatic 157, 3) := by decide +kernel
theorem dX7_mayBeOne_85 : decode cX7_mayBeOne 85 = .ok (.ifCond .eq 22, 3) := by decide +kernel
theorem dX7_mayBeOne_88 : decode cX7_mayBeOne 88 = .ok (.aload_n 0, 1) := by decide +kernel
theorem dX7_mayBeOne_89 : decode cX7_mayBeOne 89 = .ok (.iload 4, 2) := by decide +kernel
theorem dX7_mayBeOne_91 : decode cX7_mayBeOne 91 = .ok (.iload 5, 2) := by decide +kernel
theorem dX7_mayBeOne_93 : decode cX7_mayBeOne 93 = .ok (.aload_n 0, 1) := by decide +kernel
theorem dX7_mayBeOne_94 : decode cX7_mayBeOne 94 = .ok (.iload_n 1, 1) := by decide +kernel
theorem dX7_mayBeOne_95 : decode cX7_mayBeOne 95 = .ok (.iconst 1, 1) := by decide +kernel
theorem dX7_mayBeOne_96 : decode cX7_mayBeOne 96 = .ok (.invokevirtual 142, 3) := by decide +kernel
theorem dX7_mayBeOne_99 : decode cX7_mayBeOne 99 = .ok (.invokevirtual 169, 3) := by decide +kernel
theorem dX7_mayBeOne_102 : decode cX7_mayBeOne 102 = .ok (.ifCond .ne 5, 3) := by decide +kernel
theorem dX7_mayBeOne_105 : decode cX7_mayBeOne 105 = .ok (.iconst 0, 1) := by decide +kernel
theorem dX7_mayBeOne_106 : decode cX7_mayBeOne 106 = .ok (.ireturn, 1) := by decide +kernel
theorem dX7_mayBeOne_107 : decode cX7_mayBeOne 107 = .ok (.iinc 5 1, 3) := by decide +kernel
theorem dX7_mayBeOne_110 : decode cX7_mayBeOne 110 = .ok (.goto (-48), 3) := by decide +kernel
theorem dX7_mayBeOne_113 : decode cX7_mayBeOne 113 = .ok (.iinc 4 1, 3) := by decide +kernel
theorem dX7_mayBeOne_116 : decode cX7_mayBeOne 116 = .ok (.goto (-88), 3) := by decide +kernel
theorem dX7_mayBeOne_119 : decode cX7_mayBeOne 119 = .ok (.aload_n 0, 1) := by decide +kernel
theorem dX7_mayBeOne_120 : decode cX7_mayBeOne 120 = .ok (.iload_n 1, 1) := by decide +kernel
theorem dX7_mayBeOne_121 : decode cX7_mayBeOne 121 = .ok (.iconst 2, 1) := by decide +kernel
theorem dX7_mayBeOne_122 : decode cX7_mayBeOne 122 = .ok (.invokevirtual 142, 3) := by decide +kernel
theorem dX7_mayBeOne_125 : decode cX7_mayBeOne 125 = .ok (.ifCond .eq 7, 3) := by decide +kernel
theorem dX7_mayBeOne_128 : decode cX7_mayBeOne 128 = .ok (.iload_n 3, 1) := by decide +kernel
theorem dX7_mayBeOne_129 : decode cX7_mayBeOne 129 = .ok (.ifCond .eq 7, 3) := by decide +kernel
theorem dX7_mayBeOne_132 : decode cX7_mayBeOne 132 = .ok (.iconst 1, 1) := by decide +kernel
theorem dX7_mayBeOne_133 : decode cX7_mayBeOne 133 = .ok (.goto 4, 3) := by decide +kernel
theorem dX7_mayBeOne_136 : decode cX7_mayBeOne 136 = .ok (.iconst 0, 1) := by decide +kernel
theorem dX7_mayBeOne_137 : decode cX7_mayBeOne 137 = .ok (.ireturn, 1) := by decide +kernel
theorem dX7_areApart_0 : decode cX7_areApart 0 = .ok (.aload_n 0, 1) := by decide +kernel
theorem dX7_areApart_1 : decode cX7_areApart 1 = .ok (.iload_n 1, 1) := by decide +kernel
theorem dX7_areApart_2 : decode cX7_areApart 2 = .ok (.iconst 3, 1) := by decide +kernel
theorem dX7_areApart_3 : decode cX7_areApart 3 = .ok (.invokevirtual 142, 3) := by decide +kernel
theorem dX7_areApart_6 : decode cX7_areApart 6 = .ok (.iconst 1, 1) := by decide +kernel
theorem dX7_areApart_7 : decode cX7_areApart 7 = .ok (.if_icmp .eq 43, 3) := by decide +kernel
theorem dX7_areApart_10 : decode cX7_areApart 10 = .ok (.aload_n 0, 1) := by decide +kernel
theorem dX7_areApart_11 : decode cX7_areApart 11 = .ok (.iload_n 2, 1) := by decide +kernel
theorem dX7_areApart_12 : decode cX7_areApart 12 = .ok (.invokevirtual 163, 3) := by decide +kernel
theorem dX7_areApart_15 : decode cX7_areApart 15 = .ok (.aload_n 0, 1) := by decide +kernel
theorem dX7_areApart_16 : decode cX7_areApart 16 = .ok (.iload_n 1, 1) := by decide +kernel
theorem dX7_areApart_17 : decode cX7_areApart 17 = .ok (.iconst 4, 1) := by decide +kernel
theorem dX7_areApart_18 : decode cX7_areApart 18 = .ok (.invokevirtual 142, 3) := by decide +kernel
theorem dX7_areApart_21 : decode cX7_areApart 21 = .ok (.iadd, 1) := by decide +kernel
theorem dX7_areApart_22 : decode cX7_areApart 22 = .ok (.aload_n 0, 1) := by decide +kernel
theorem dX7_areApart_23 : decode cX7_areApart 23 = .ok (.iload_n 3, 1) := by decide +kernel
theorem dX7_areApart_24 : decode cX7_areApart 24 = .ok (.invokevirtual 166, 3) := by decide +kernel
theorem dX7_areApart_27 : decode cX7_areApart 27 = .ok (.if_icmp .lt 23, 3) := by decide +kernel
theorem dX7_areApart_30 : decode cX7_areApart 30 = .ok (.aload_n 0, 1) := by decide +kernel
theorem dX7_areApart_31 : decode cX7_areApart 31 = .ok (.iload_n 3, 1) := by decide +kernel
theorem dX7_areApart_32 : decode cX7_areApart 32 = .ok (.invokevirtual 163, 3) := by decide +kernel
theorem dX7_areApart_35 : decode cX7_areApart 35 = .ok (.aload_n 0, 1) := by decide +kernel
theorem dX7_areApart_36 : decode cX7_areApart 36 = .ok (.iload_n 1, 1) := by decide +kernel
theorem dX7_areApart_37 : decode cX7_areApart 37 = .ok (.iconst 4, 1) := by decide +kernel
theorem dX7_areApart_38 : decode cX7_areApart 38 = .ok (.invokevirtual 142, 3) := by decide +kernel
theorem dX7_areApart_41 : decode cX7_areApart 41 = .ok (.iadd, 1) := by decide +kernel
theorem dX7_areApart_42 : decode cX7_areApart 42 = .ok (.aload_n 0, 1) := by decide +kernel
theorem dX7_areApart_43 : decode cX7_areApart 43 = .ok (.iload_n 2, 1) := by decide +kernel
theorem dX7_areApart_44 : decode cX7_areApart 44 = .ok (.invokevirtual 166, 3) := by decide +kernel
theorem dX7_areApart_47 : decode cX7_areApart 47 = .ok (.if_icmp .ge 7, 3) := by decide +kernel
theorem dX7_areApart_50 : decode cX7_areApart 50 = .ok (.iconst 1, 1) := by decide +kernel
theorem dX7_areApart_51 : decode cX7_areApart 51 = .ok (.goto 4, 3) := by decide +kernel
theorem dX7_areApart_54 : decode cX7_areApart 54 = .ok (.iconst 0, 1) := by decide +kernel
theorem dX7_areApart_55 : decode cX7_areApart 55 = .ok (.ireturn, 1) := by decide +kernel
theorem dX7_may_0 : decode cX7_may 0 = .ok (.aload_n 0, 1) := by decide +kernel
theorem dX7_may_1 : decode cX7_may 1 = .ok (.iconst 0, 1) := by decide +kernel
theorem dX7_may_2 : decode cX7_may 2 = .ok (.putfield 68, 3) := by decide +kernel
theorem dX7_may_5 : decode cX7_may 5 = .ok (.aload_n 0, 1) := by decide +kernel
theorem dX7_may_6 : decode cX7_may 6 = .ok (.iload_n 1, 1) := by decide +kernel
theorem dX7_may_7 : decode cX7_may 7 = .ok (.invokevirtual 139, 3) := by decide +kernel
theorem dX7_may_10 : decode cX7_may 10 = .ok (.ifCond .eq 15, 3) := by decide +kernel
theorem dX7_may_13 : decode cX7_may 13 = .ok (.aload_n 0, 1) := by decide +kernel
theorem dX7_may_14 : decode cX7_may 14 = .ok (.iload_n 2, 1) := by decide +kernel
theorem dX7_may_15 : decode cX7_may 15 = .ok (.invokevirtual 172, 3) := by decide +kernel
theorem dX7_may_18 : decode cX7_may 18 = .ok (.ifCond .eq 7, 3) := by decide +kernel
theorem dX7_may_21 : decode cX7_may 21 = .ok (.iload_n 2, 1) := by decide +kernel
theorem dX7_may_22 : decode cX7_may 22 = .ok (.ifCond .ne 7, 3) := by decide +kernel
theorem dX7_may_25 : decode cX7_may 25 = .ok (.iconst (-1), 1) := by decide +kernel
theorem dX7_may_26 : decode cX7_may 26 = .ok (.goto 17, 3) := by decide +kernel
theorem dX7_may_29 : decode cX7_may 29 = .ok (.aload_n 0, 1) := by decide +kernel
theorem dX7_may_30 : decode cX7_may 30 = .ok (.iload_n 1, 1) := by decide +kernel
theorem dX7_may_31 : decode cX7_may 31 = .ok (.iload_n 2, 1) := by decide +kernel
theorem dX7_may_32 : decode cX7_may 32 = .ok (.invokevirtual 175, 3) := by decide +kernel
theorem dX7_may_35 : decode cX7_may 35 = .ok (.ifCond .eq 7, 3) := by decide +kernel
theorem dX7_may_38 : decode cX7_may 38 = .ok (.iconst 1, 1) := by decide +kernel
theorem dX7_may_39 : decode cX7_may 39 = .ok (.goto 4, 3) := by decide +kernel
theorem dX7_may_42 : decode cX7_may 42 = .ok (.iconst 0, 1) := by decide +kernel
theorem dX7_may_43 : decode cX7_may 43 = .ok (.ireturn, 1) := by decide +kernel
theorem dX7_sumOf_0 : decode cX7_sumOf 0 = .ok (.iconst 0, 1) := by decide +kernel
theorem dX7_sumOf_1 : decode cX7_sumOf 1 = .ok (.istore_n 2, 1) := by decide +kernel
theorem dX7_sumOf_2 : decode cX7_sumOf 2 = .ok (.iconst 0, 1) := by decide +kernel
theorem dX7_sumOf_3 : decode cX7_sumOf 3 = .ok (.istore_n 3, 1) := by decide +kernel
theorem dX7_sumOf_4 : decode cX7_sumOf 4 = .ok (.iload_n 3, 1) := by decide +kernel
theorem dX7_sumOf_5 : decode cX7_sumOf 5 = .ok (.aload_n 0, 1) := by decide +kernel
theorem dX7_sumOf_6 : decode cX7_sumOf 6 = .ok (.getfield 146, 3) := by decide +kernel
theorem dX7_sumOf_9 : decode cX7_sumOf 9 = .ok (.if_icmp .ge 30, 3) := by decide +kernel
theorem dX7_sumOf_12 : decode cX7_sumOf 12 = .ok (.iload_n 2, 1) := by decide +kernel
theorem dX7_sumOf_13 : decode cX7_sumOf 13 = .ok (.iload_n 1, 1) := by decide +kernel
theorem dX7_sumOf_14 : decode cX7_sumOf 14 = .ok (.iload_n 3, 1) := by decide +kernel
theorem dX7_sumOf_15 : decode cX7_sumOf 15 = .ok (.invokestatic 157, 3) := by decide +kernel
theorem dX7_sumOf_18 : decode cX7_sumOf 18 = .ok (.ifCond .eq 12, 3) := by decide +kernel
theorem dX7_sumOf_21 : decode cX7_sumOf 21 = .ok (.aload_n 0, 1) := by decide +kernel
theorem dX7_sumOf_22 : decode cX7_sumOf 22 = .ok (.getfield 17, 3) := by decide +kernel
theorem dX7_sumOf_25 : decode cX7_sumOf 25 = .ok (.iload_n 3, 1) := by decide +kernel
theorem dX7_sumOf_26 : decode cX7_sumOf 26 = .ok (.iaload, 1) := by decide +kernel
theorem dX7_sumOf_27 : decode cX7_sumOf 27 = .ok (.goto 4, 3) := by decide +kernel
theorem dX7_sumOf_30 : decode cX7_sumOf 30 = .ok (.iconst 0, 1) := by decide +kernel
theorem dX7_sumOf_31 : decode cX7_sumOf 31 = .ok (.iadd, 1) := by decide +kernel
theorem dX7_sumOf_32 : decode cX7_sumOf 32 = .ok (.istore_n 2, 1) := by decide +kernel
theorem dX7_sumOf_33 : decode cX7_sumOf 33 = .ok (.iinc 3 1, 3) := by decide +kernel
theorem dX7_sumOf_36 : decode cX7_sumOf 36 = .ok (.goto (-32), 3) := by decide +kernel
theorem dX7_sumOf_39 : decode cX7_sumOf 39 = .ok (.iload_n 2, 1) := by decide +kernel
theorem dX7_sumOf_40 : decode cX7_sumOf 40 = .ok (.ireturn, 1) := by decide +kernel
theorem dX7_paidOf_0 : decode cX7_paidOf 0 = .ok (.aload_n 0, 1) := by decide +kernel
theorem dX7_paidOf_1 : decode cX7_paidOf 1 = .ok (.iload_n 1, 1) := by decide +kernel
theorem dX7_paidOf_2 : decode cX7_paidOf 2 = .ok (.bipush 6, 2) := by decide +kernel
theorem dX7_paidOf_4 : decode cX7_paidOf 4 = .ok (.invokevirtual 142, 3) := by decide +kernel
theorem dX7_paidOf_7 : decode cX7_paidOf 7 = .ok (.iconst 0, 1) := by decide +kernel
theorem dX7_paidOf_8 : decode cX7_paidOf 8 = .ok (.iload_n 2, 1) := by decide +kernel
theorem dX7_paidOf_9 : decode cX7_paidOf 9 = .ok (.aload_n 0, 1) := by decide +kernel
theorem dX7_paidOf_10 : decode cX7_paidOf 10 = .ok (.iload_n 1, 1) := by decide +kernel
theorem dX7_paidOf_11 : decode cX7_paidOf 11 = .ok (.iconst 5, 1) := by decide +kernel
theorem dX7_paidOf_12 : decode cX7_paidOf 12 = .ok (.invokevirtual 142, 3) := by decide +kernel
theorem dX7_paidOf_15 : decode cX7_paidOf 15 = .ok (.isub, 1) := by decide +kernel
theorem dX7_paidOf_16 : decode cX7_paidOf 16 = .ok (.invokestatic 152, 3) := by decide +kernel
theorem dX7_paidOf_19 : decode cX7_paidOf 19 = .ok (.invokestatic 160, 3) := by decide +kernel
theorem dX7_paidOf_22 : decode cX7_paidOf 22 = .ok (.ireturn, 1) := by decide +kernel
theorem dX7_paid_0 : decode cX7_paid 0 = .ok (.aload_n 0, 1) := by decide +kernel
theorem dX7_paid_1 : decode cX7_paid 1 = .ok (.iconst 0, 1) := by decide +kernel
theorem dX7_paid_2 : decode cX7_paid 2 = .ok (.putfield 68, 3) := by decide +kernel
theorem dX7_paid_5 : decode cX7_paid 5 = .ok (.aload_n 0, 1) := by decide +kernel
theorem dX7_paid_6 : decode cX7_paid 6 = .ok (.iload_n 1, 1) := by decide +kernel
theorem dX7_paid_7 : decode cX7_paid 7 = .ok (.invokevirtual 139, 3) := by decide +kernel
theorem dX7_paid_10 : decode cX7_paid 10 = .ok (.ifCond .eq 15, 3) := by decide +kernel
theorem dX7_paid_13 : decode cX7_paid 13 = .ok (.aload_n 0, 1) := by decide +kernel
theorem dX7_paid_14 : decode cX7_paid 14 = .ok (.iload_n 2, 1) := by decide +kernel
theorem dX7_paid_15 : decode cX7_paid 15 = .ok (.invokevirtual 172, 3) := by decide +kernel
theorem dX7_paid_18 : decode cX7_paid 18 = .ok (.ifCond .eq 7, 3) := by decide +kernel
theorem dX7_paid_21 : decode cX7_paid 21 = .ok (.iload_n 2, 1) := by decide +kernel
theorem dX7_paid_22 : decode cX7_paid 22 = .ok (.ifCond .ne 7, 3) := by decide +kernel
theorem dX7_paid_25 : decode cX7_paid 25 = .ok (.iconst (-1), 1) := by decide +kernel
theorem dX7_paid_26 : decode cX7_paid 26 = .ok (.goto 13, 3) := by decide +kernel
theorem dX7_paid_29 : decode cX7_paid 29 = .ok (.aload_n 0, 1) := by decide +kernel
theorem dX7_paid_30 : decode cX7_paid 30 = .ok (.iload_n 1, 1) := by decide +kernel
theorem dX7_paid_31 : decode cX7_paid 31 = .ok (.aload_n 0, 1) := by decide +kernel
theorem dX7_paid_32 : decode cX7_paid 32 = .ok (.iload_n 2, 1) := by decide +kernel
theorem dX7_paid_33 : decode cX7_paid 33 = .ok (.invokevirtual 178, 3) := by decide +kernel
theorem dX7_paid_36 : decode cX7_paid 36 = .ok (.invokevirtual 181, 3) := by decide +kernel
theorem dX7_paid_39 : decode cX7_paid 39 = .ok (.ireturn, 1) := by decide +kernel
theorem dX7_isAhead_0 : decode cX7_isAhead 0 = .ok (.iload_n 2, 1) := by decide +kernel
theorem dX7_isAhead_1 : decode cX7_isAhead 1 = .ok (.aload_n 0, 1) := by decide +kernel
theorem dX7_isAhead_2 : decode cX7_isAhead 2 = .ok (.getfield 47, 3) := by decide +kernel
theorem dX7_isAhead_5 : decode cX7_isAhead 5 = .ok (.iload_n 3, 1) := by decide +kernel
theorem dX7_isAhead_6 : decode cX7_isAhead 6 = .ok (.iaload, 1) := by decide +kernel
theorem dX7_isAhead_7 : decode cX7_isAhead 7 = .ok (.if_icmp .eq 21, 3) := by decide +kernel
theorem dX7_isAhead_10 : decode cX7_isAhead 10 = .ok (.iload_n 2, 1) := by decide +kernel
theorem dX7_isAhead_11 : decode cX7_isAhead 11 = .ok (.aload_n 0, 1) := by decide +kernel
theorem dX7_isAhead_12 : decode cX7_isAhead 12 = .ok (.getfield 47, 3) := by decide +kernel
theorem dX7_isAhead_15 : decode cX7_isAhead 15 = .ok (.iload_n 3, 1) := by decide +kernel
theorem dX7_isAhead_16 : decode cX7_isAhead 16 = .ok (.iaload, 1) := by decide +kernel
theorem dX7_isAhead_17 : decode cX7_isAhead 17 = .ok (.if_icmp .ge 7, 3) := by decide +kernel
theorem dX7_isAhead_20 : decode cX7_isAhead 20 = .ok (.iconst 1, 1) := by decide +kernel
theorem dX7_isAhead_21 : decode cX7_isAhead 21 = .ok (.goto 22, 3) := by decide +kernel
theorem dX7_isAhead_24 : decode cX7_isAhead 24 = .ok (.iconst 0, 1) := by decide +kernel
theorem dX7_isAhead_25 : decode cX7_isAhead 25 = .ok (.goto 18, 3) := by decide +kernel
theorem dX7_isAhead_28 : decode cX7_isAhead 28 = .ok (.iload_n 1, 1) := by decide +kernel
theorem dX7_isAhead_29 : decode cX7_isAhead 29 = .ok (.aload_n 0, 1) := by decide +kernel
theorem dX7_isAhead_30 : decode cX7_isAhead 30 = .ok (.getfield 53, 3) := by decide +kernel
theorem dX7_isAhead_33 : decode cX7_isAhead 33 = .ok (.iload_n 3, 1) := by decide +kernel
theorem dX7_isAhead_34 : decode cX7_isAhead 34 = .ok (.iaload, 1) := by decide +kernel
theorem dX7_isAhead_35 : decode cX7_isAhead 35 = .ok (.if_icmp .ge 7, 3) := by decide +kernel
theorem dX7_isAhead_38 : decode cX7_isAhead 38 = .ok (.iconst 1, 1) := by decide +kernel
theorem dX7_isAhead_39 : decode cX7_isAhead 39 = .ok (.goto 4, 3) := by decide +kernel
theorem dX7_isAhead_42 : decode cX7_isAhead 42 = .ok (.iconst 0, 1) := by decide +kernel
theorem dX7_isAhead_43 : decode cX7_isAhead 43 = .ok (.ireturn, 1) := by decide +kernel
theorem dX7_layRow_0 : decode cX7_layRow 0 = .ok (.iconst 0, 1) := by decide +kernel
theorem dX7_layRow_1 : decode cX7_layRow 1 = .ok (.istore_n 1, 1) := by decide +kernel
theorem dX7_layRow_2 : decode cX7_layRow 2 = .ok (.iload_n 1, 1) := by decide +kernel
theorem dX7_layRow_3 : decode cX7_layRow 3 = .ok (.aload_n 0, 1) := by decide +kernel
theorem dX7_layRow_4 : decode cX7_layRow 4 = .ok (.getfield 184, 3) := by decide +kernel
theorem dX7_layRow_7 : decode cX7_layRow 7 = .ok (.if_icmp .ge 275, 3) := by decide +kernel
theorem dX7_layRow_10 : decode cX7_layRow 10 = .ok (.sipush 1000, 3) := by decide +kernel
theorem dX7_layRow_13 : decode cX7_layRow 13 = .ok (.istore_n 2, 1) := by decide +kernel
theorem dX7_layRow_14 : decode cX7_layRow 14 = .ok (.iconst (-1), 1) := by decide +kernel
theorem dX7_layRow_15 : decode cX7_layRow 15 = .ok (.istore_n 3, 1) := by decide +kernel
theorem dX7_layRow_16 : decode cX7_layRow 16 = .ok (.iconst 0, 1) := by decide +kernel
theorem dX7_layRow_17 : decode cX7_layRow 17 = .ok (.istore 4, 2) := by decide +kernel
theorem dX7_layRow_19 : decode cX7_layRow 19 = .ok (.aload_n 0, 1) := by decide +kernel
theorem dX7_layRow_20 : decode cX7_layRow 20 = .ok (.getfield 38, 3) := by decide +kernel
theorem dX7_layRow_23 : decode cX7_layRow 23 = .ok (.iload_n 1, 1) := by decide +kernel
theorem dX7_layRow_24 : decode cX7_layRow 24 = .ok (.iaload, 1) := by decide +kernel
theorem dX7_layRow_25 : decode cX7_layRow 25 = .ok (.istore 5, 2) := by decide +kernel
theorem dX7_layRow_27 : decode cX7_layRow 27 = .ok (.iload 5, 2) := by decide +kernel
theorem dX7_layRow_29 : decode cX7_layRow 29 = .ok (.ifCond .eq 58, 3) := by decide +kernel
theorem dX7_layRow_32 : decode cX7_layRow 32 = .ok (.iload 5, 2) := by decide +kernel
theorem dX7_layRow_34 : decode cX7_layRow 34 = .ok (.invokestatic 187, 3) := by decide +kernel
theorem dX7_layRow_37 : decode cX7_layRow 37 = .ok (.istore 6, 2) := by decide +kernel
theorem dX7_layRow_39 : decode cX7_layRow 39 = .ok (.iload_n 2, 1) := by decide +kernel
theorem dX7_layRow_40 : decode cX7_layRow 40 = .ok (.aload_n 0, 1) := by decide +kernel
theorem dX7_layRow_41 : decode cX7_layRow 41 = .ok (.getfield 20, 3) := by decide +kernel
theorem dX7_layRow_44 : decode cX7_layRow 44 = .ok (.iload 6, 2) := by decide +kernel
theorem dX7_layRow_46 : decode cX7_layRow 46 = .ok (.iaload, 1) := by decide +kernel
theorem dX7_layRow_47 : decode cX7_layRow 47 = .ok (.invokestatic 160, 3) := by decide +kernel
theorem dX7_layRow_50 : decode cX7_layRow 50 = .ok (.istore_n 2, 1) := by decide +kernel
theorem dX7_layRow_51 : decode cX7_layRow 51 = .ok (.iload_n 3, 1) := by decide +kernel
theorem dX7_layRow_52 : decode cX7_layRow 52 = .ok (.aload_n 0, 1) := by decide +kernel
theorem dX7_layRow_53 : decode cX7_layRow 53 = .ok (.getfield 20, 3) := by decide +kernel
theorem dX7_layRow_56 : decode cX7_layRow 56 = .ok (.iload 6, 2) := by decide +kernel
theorem dX7_layRow_58 : decode cX7_layRow 58 = .ok (.iaload, 1) := by decide +kernel
theorem dX7_layRow_59 : decode cX7_layRow 59 = .ok (.invokestatic 152, 3) := by decide +kernel
theorem dX7_layRow_62 : decode cX7_layRow 62 = .ok (.istore_n 3, 1) := by decide +kernel
theorem dX7_layRow_63 : decode cX7_layRow 63 = .ok (.iload 4, 2) := by decide +kernel
theorem dX7_layRow_65 : decode cX7_layRow 65 = .ok (.aload_n 0, 1) := by decide +kernel
theorem dX7_layRow_66 : decode cX7_layRow 66 = .ok (.getfield 17, 3) := by decide +kernel
theorem dX7_layRow_69 : decode cX7_layRow 69 = .ok (.iload 6, 2) := by decide +kernel
theorem dX7_layRow_71 : decode cX7_layRow 71 = .ok (.iaload, 1) := by decide +kernel
theorem dX7_layRow_72 : decode cX7_layRow 72 = .ok (.iadd, 1) := by decide +kernel
theorem dX7_layRow_73 : decode cX7_layRow 73 = .ok (.istore 4, 2) := by decide +kernel
theorem dX7_layRow_75 : decode cX7_layRow 75 = .ok (.iload 5, 2) := by decide +kernel
theorem dX7_layRow_77 : decode cX7_layRow 77 = .ok (.iload 5, 2) := by decide +kernel
theorem dX7_layRow_79 : decode cX7_layRow 79 = .ok (.iconst 1, 1) := by decide +kernel
theorem dX7_layRow_80 : decode cX7_layRow 80 = .ok (.isub, 1) := by decide +kernel
theorem dX7_layRow_81 : decode cX7_layRow 81 = .ok (.iand, 1) := by decide +kernel
theorem dX7_layRow_82 : decode cX7_layRow 82 = .ok (.istore 5, 2) := by decide +kernel
theorem dX7_layRow_84 : decode cX7_layRow 84 = .ok (.goto (-57), 3) := by decide +kernel
theorem dX7_layRow_87 : decode cX7_layRow 87 = .ok (.iconst 0, 1) := by decide +kernel
theorem dX7_layRow_88 : decode cX7_layRow 88 = .ok (.istore 5, 2) := by decide +kernel
theorem dX7_layRow_90 : decode cX7_layRow 90 = .ok (.aload_n 0, 1) := by decide +kernel
theorem dX7_layRow_91 : decode cX7_layRow 91 = .ok (.getfield 38, 3) := by decide +kernel
theorem dX7_layRow_94 : decode cX7_layRow 94 = .ok (.iload_n 1, 1) := by decide +kernel
theorem dX7_layRow_95 : decode cX7_layRow 95 = .ok (.iaload, 1) := by decide +kernel
theorem dX7_layRow_96 : decode cX7_layRow 96 = .ok (.iload 5, 2) := by decide +kernel
theorem dX7_layRow_98 : decode cX7_layRow 98 = .ok (.invokestatic 157, 3) := by decide +kernel
theorem dX7_layRow_101 : decode cX7_layRow 101 = .ok (.ifCond .eq 14, 3) := by decide +kernel
theorem dX7_layRow_104 : decode cX7_layRow 104 = .ok (.aload_n 0, 1) := by decide +kernel
theorem dX7_layRow_105 : decode cX7_layRow 105 = .ok (.getfield 20, 3) := by decide +kernel
theorem dX7_layRow_108 : decode cX7_layRow 108 = .ok (.iload 5, 2) := by decide +kernel
theorem dX7_layRow_110 : decode cX7_layRow 110 = .ok (.iaload, 1) := by decide +kernel
theorem dX7_layRow_111 : decode cX7_layRow 111 = .ok (.iload_n 2, 1) := by decide +kernel
theorem dX7_layRow_112 : decode cX7_layRow 112 = .ok (.if_icmp .eq 9, 3) := by decide +kernel
theorem dX7_layRow_115 : decode cX7_layRow 115 = .ok (.iinc 5 1, 3) := by decide +kernel
theorem dX7_layRow_118 : decode cX7_layRow 118 = .ok (.goto (-28), 3) := by decide +kernel
theorem dX7_layRow_121 : decode cX7_layRow 121 = .ok (.iload_n 1, 1) := by decide +kernel
theorem dX7_layRow_122 : decode cX7_layRow 122 = .ok (.istore 6, 2) := by decide +kernel
theorem dX7_layRow_124 : decode cX7_layRow 124 = .ok (.iload 6, 2) := by decide +kernel
theorem dX7_layRow_126 : decode cX7_layRow 126 = .ok (.ifCond .le 103, 3) := by decide +kernel
theorem dX7_layRow_129 : decode cX7_layRow 129 = .ok (.aload_n 0, 1) := by decide +kernel
theorem dX7_layRow_130 : decode cX7_layRow 130 = .ok (.iload 5, 2) := by decide +kernel
theorem dX7_layRow_132 : decode cX7_layRow 132 = .ok (.iload_n 2, 1) := by decide +kernel
theorem dX7_layRow_133 : decode cX7_layRow 133 = .ok (.iload 6, 2) := by decide +kernel
theorem dX7_layRow_135 : decode cX7_layRow 135 = .ok (.iconst 1, 1) := by decide +kernel
theorem dX7_layRow_136 : decode cX7_layRow 136 = .ok (.isub, 1) := by decide +kernel
theorem dX7_layRow_137 : decode cX7_layRow 137 = .ok (.invokevirtual 192, 3) := by decide +kernel
theorem dX7_layRow_140 : decode cX7_layRow 140 = .ok (.ifCond .eq 89, 3) := by decide +kernel
theorem dX7_layRow_143 : decode cX7_layRow 143 = .ok (.aload_n 0, 1) := by decide +kernel
theorem dX7_layRow_144 : decode cX7_layRow 144 = .ok (.getfield 53, 3) := by decide +kernel
theorem dX7_layRow_147 : decode cX7_layRow 147 = .ok (.iload 6, 2) := by decide +kernel
theorem dX7_layRow_149 : decode cX7_layRow 149 = .ok (.aload_n 0, 1) := by decide +kernel
theorem dX7_layRow_150 : decode cX7_layRow 150 = .ok (.getfield 53, 3) := by decide +kernel
theorem dX7_layRow_153 : decode cX7_layRow 153 = .ok (.iload 6, 2) := by decide +kernel
theorem dX7_layRow_155 : decode cX7_layRow 155 = .ok (.iconst 1, 1) := by decide +kernel
theorem dX7_layRow_156 : decode cX7_layRow 156 = .ok (.isub, 1) := by decide +kernel
theorem dX7_layRow_157 : decode cX7_layRow 157 = .ok (.iaload, 1) := by decide +kernel
theorem dX7_layRow_158 : decode cX7_layRow 158 = .ok (.iastore, 1) := by decide +kernel
theorem dX7_layRow_159 : decode cX7_layRow 159 = .ok (.aload_n 0, 1) := by decide +kernel
theorem dX7_layRow_160 : decode cX7_layRow 160 = .ok (.getfield 41, 3) := by decide +kernel
theorem dX7_layRow_163 : decode cX7_layRow 163 = .ok (.iload 6, 2) := by decide +kernel
theorem dX7_layRow_165 : decode cX7_layRow 165 = .ok (.aload_n 0, 1) := by decide +kernel
theorem dX7_layRow_166 : decode cX7_layRow 166 = .ok (.getfield 41, 3) := by decide +kernel
theorem dX7_layRow_169 : decode cX7_layRow 169 = .ok (.iload 6, 2) := by decide +kernel
theorem dX7_layRow_171 : decode cX7_layRow 171 = .ok (.iconst 1, 1) := by decide +kernel
theorem dX7_layRow_172 : decode cX7_layRow 172 = .ok (.isub, 1) := by decide +kernel
theorem dX7_layRow_173 : decode cX7_layRow 173 = .ok (.iaload, 1) := by decide +kernel
theorem dX7_layRow_174 : decode cX7_layRow 174 = .ok (.iastore, 1) := by decide +kernel
theorem dX7_layRow_175 : decode cX7_layRow 175 = .ok (.aload_n 0, 1) := by decide +kernel
theorem dX7_layRow_176 : decode cX7_layRow 176 = .ok (.getfield 44, 3) := by decide +kernel
theorem dX7_layRow_179 : decode cX7_layRow 179 = .ok (.iload 6, 2) := by decide +kernel
theorem dX7_layRow_181 : decode cX7_layRow 181 = .ok (.aload_n 0, 1) := by decide +kernel
theorem dX7_layRow_182 : decode cX7_layRow 182 = .ok (.getfield 44, 3) := by decide +kernel
theorem dX7_layRow_185 : decode cX7_layRow 185 = .ok (.iload 6, 2) := by decide +kernel
theorem dX7_layRow_187 : decode cX7_layRow 187 = .ok (.iconst 1, 1) := by decide +kernel
theorem dX7_layRow_188 : decode cX7_layRow 188 = .ok (.isub, 1) := by decide +kernel
theorem dX7_layRow_189 : decode cX7_layRow 189 = .ok (.iaload, 1) := by decide +kernel
theorem dX7_layRow_190 : decode cX7_layRow 190 = .ok (.iastore, 1) := by decide +kernel
theorem dX7_layRow_191 : decode cX7_layRow 191 = .ok (.aload_n 0, 1) := by decide +kernel
theorem dX7_layRow_192 : decode cX7_layRow 192 = .ok (.getfield 47, 3) := by decide +kernel
theorem dX7_layRow_195 : decode cX7_layRow 195 = .ok (.iload 6, 2) := by decide +kernel
theorem dX7_layRow_197 : decode cX7_layRow 197 = .ok (.aload_n 0, 1) := by decide +kernel
theorem dX7_layRow_198 : decode cX7_layRow 198 = .ok (.getfield 47, 3) := by decide +kernel
theorem dX7_layRow_201 : decode cX7_layRow 201 = .ok (.iload 6, 2) := by decide +kernel
theorem dX7_layRow_203 : decode cX7_layRow 203 = .ok (.iconst 1, 1) := by decide +kernel
theorem dX7_layRow_204 : decode cX7_layRow 204 = .ok (.isub, 1) := by decide +kernel
theorem dX7_layRow_205 : decode cX7_layRow 205 = .ok (.iaload, 1) := by decide +kernel
theorem dX7_layRow_206 : decode cX7_layRow 206 = .ok (.iastore, 1) := by decide +kernel
theorem dX7_layRow_207 : decode cX7_layRow 207 = .ok (.aload_n 0, 1) := by decide +kernel
theorem dX7_layRow_208 : decode cX7_layRow 208 = .ok (.getfield 50, 3) := by decide +kernel
theorem dX7_layRow_211 : decode cX7_layRow 211 = .ok (.iload 6, 2) := by decide +kernel
theorem dX7_layRow_213 : decode cX7_layRow 213 = .ok (.aload_n 0, 1) := by decide +kernel
theorem dX7_layRow_214 : decode cX7_layRow 214 = .ok (.getfield 50, 3) := by decide +kernel
theorem dX7_layRow_217 : decode cX7_layRow 217 = .ok (.iload 6, 2) := by decide +kernel
theorem dX7_layRow_219 : decode cX7_layRow 219 = .ok (.iconst 1, 1) := by decide +kernel
theorem dX7_layRow_220 : decode cX7_layRow 220 = .ok (.isub, 1) := by decide +kernel
theorem dX7_layRow_221 : decode cX7_layRow 221 = .ok (.iaload, 1) := by decide +kernel
theorem dX7_layRow_222 : decode cX7_layRow 222 = .ok (.iastore, 1) := by decide +kernel
theorem dX7_layRow_223 : decode cX7_layRow 223 = .ok (.iinc 6 (-1), 3) := by decide +kernel
theorem dX7_layRow_226 : decode cX7_layRow 226 = .ok (.goto (-102), 3) := by decide +kernel
theorem dX7_layRow_229 : decode cX7_layRow 229 = .ok (.aload_n 0, 1) := by decide +kernel
theorem dX7_layRow_230 : decode cX7_layRow 230 = .ok (.getfield 53, 3) := by decide +kernel
theorem dX7_layRow_233 : decode cX7_layRow 233 = .ok (.iload 6, 2) := by decide +kernel
theorem dX7_layRow_235 : decode cX7_layRow 235 = .ok (.iload 5, 2) := by decide +kernel
theorem dX7_layRow_237 : decode cX7_layRow 237 = .ok (.iastore, 1) := by decide +kernel
theorem dX7_layRow_238 : decode cX7_layRow 238 = .ok (.aload_n 0, 1) := by decide +kernel
theorem dX7_layRow_239 : decode cX7_layRow 239 = .ok (.getfield 41, 3) := by decide +kernel
theorem dX7_layRow_242 : decode cX7_layRow 242 = .ok (.iload 6, 2) := by decide +kernel
theorem dX7_layRow_244 : decode cX7_layRow 244 = .ok (.aload_n 0, 1) := by decide +kernel
theorem dX7_layRow_245 : decode cX7_layRow 245 = .ok (.getfield 38, 3) := by decide +kernel
theorem dX7_layRow_248 : decode cX7_layRow 248 = .ok (.iload_n 1, 1) := by decide +kernel
theorem dX7_layRow_249 : decode cX7_layRow 249 = .ok (.iaload, 1) := by decide +kernel
theorem dX7_layRow_250 : decode cX7_layRow 250 = .ok (.iastore, 1) := by decide +kernel
theorem dX7_layRow_251 : decode cX7_layRow 251 = .ok (.aload_n 0, 1) := by decide +kernel
theorem dX7_layRow_252 : decode cX7_layRow 252 = .ok (.getfield 44, 3) := by decide +kernel
theorem dX7_layRow_255 : decode cX7_layRow 255 = .ok (.iload 6, 2) := by decide +kernel
theorem dX7_layRow_257 : decode cX7_layRow 257 = .ok (.iload 4, 2) := by decide +kernel
theorem dX7_layRow_259 : decode cX7_layRow 259 = .ok (.iastore, 1) := by decide +kernel
theorem dX7_layRow_260 : decode cX7_layRow 260 = .ok (.aload_n 0, 1) := by decide +kernel
theorem dX7_layRow_261 : decode cX7_layRow 261 = .ok (.getfield 47, 3) := by decide +kernel
theorem dX7_layRow_264 : decode cX7_layRow 264 = .ok (.iload 6, 2) := by decide +kernel
theorem dX7_layRow_266 : decode cX7_layRow 266 = .ok (.iload_n 2, 1) := by decide +kernel
theorem dX7_layRow_267 : decode cX7_layRow 267 = .ok (.iastore, 1) := by decide +kernel
theorem dX7_layRow_268 : decode cX7_layRow 268 = .ok (.aload_n 0, 1) := by decide +kernel
theorem dX7_layRow_269 : decode cX7_layRow 269 = .ok (.getfield 50, 3) := by decide +kernel
theorem dX7_layRow_272 : decode cX7_layRow 272 = .ok (.iload 6, 2) := by decide +kernel
theorem dX7_layRow_274 : decode cX7_layRow 274 = .ok (.iload_n 3, 1) := by decide +kernel
theorem dX7_layRow_275 : decode cX7_layRow 275 = .ok (.iastore, 1) := by decide +kernel
theorem dX7_layRow_276 : decode cX7_layRow 276 = .ok (.iinc 1 1, 3) := by decide +kernel
theorem dX7_layRow_279 : decode cX7_layRow 279 = .ok (.goto (-277), 3) := by decide +kernel
theorem dX7_layRow_282 : decode cX7_layRow 282 = .ok (.return_, 1) := by decide +kernel
theorem dX7_isRowApart_0 : decode cX7_isRowApart 0 = .ok (.aload_n 0, 1) := by decide +kernel
theorem dX7_isRowApart_1 : decode cX7_isRowApart 1 = .ok (.iload_n 1, 1) := by decide +kernel
theorem dX7_isRowApart_2 : decode cX7_isRowApart 2 = .ok (.iconst 3, 1) := by decide +kernel
theorem dX7_isRowApart_3 : decode cX7_isRowApart 3 = .ok (.invokevirtual 142, 3) := by decide +kernel
theorem dX7_isRowApart_6 : decode cX7_isRowApart 6 = .ok (.iconst 1, 1) := by decide +kernel
theorem dX7_isRowApart_7 : decode cX7_isRowApart 7 = .ok (.if_icmp .ne 5, 3) := by decide +kernel
theorem dX7_isRowApart_10 : decode cX7_isRowApart 10 = .ok (.iconst 1, 1) := by decide +kernel
theorem dX7_isRowApart_11 : decode cX7_isRowApart 11 = .ok (.ireturn, 1) := by decide +kernel
theorem dX7_isRowApart_12 : decode cX7_isRowApart 12 = .ok (.iconst 1, 1) := by decide +kernel
theorem dX7_isRowApart_13 : decode cX7_isRowApart 13 = .ok (.istore_n 2, 1) := by decide +kernel
theorem dX7_isRowApart_14 : decode cX7_isRowApart 14 = .ok (.iload_n 2, 1) := by decide +kernel
theorem dX7_isRowApart_15 : decode cX7_isRowApart 15 = .ok (.aload_n 0, 1) := by decide +kernel
theorem dX7_isRowApart_16 : decode cX7_isRowApart 16 = .ok (.getfield 184, 3) := by decide +kernel
theorem dX7_isRowApart_19 : decode cX7_isRowApart 19 = .ok (.if_icmp .ge 35, 3) := by decide +kernel
theorem dX7_isRowApart_22 : decode cX7_isRowApart 22 = .ok (.aload_n 0, 1) := by decide +kernel
theorem dX7_isRowApart_23 : decode cX7_isRowApart 23 = .ok (.getfield 50, 3) := by decide +kernel
theorem dX7_isRowApart_26 : decode cX7_isRowApart 26 = .ok (.iload_n 2, 1) := by decide +kernel
theorem dX7_isRowApart_27 : decode cX7_isRowApart 27 = .ok (.iconst 1, 1) := by decide +kernel
theorem dX7_isRowApart_28 : decode cX7_isRowApart 28 = .ok (.isub, 1) := by decide +kernel
theorem dX7_isRowApart_29 : decode cX7_isRowApart 29 = .ok (.iaload, 1) := by decide +kernel
theorem dX7_isRowApart_30 : decode cX7_isRowApart 30 = .ok (.aload_n 0, 1) := by decide +kernel
theorem dX7_isRowApart_31 : decode cX7_isRowApart 31 = .ok (.iload_n 1, 1) := by decide +kernel
theorem dX7_isRowApart_32 : decode cX7_isRowApart 32 = .ok (.iconst 4, 1) := by decide +kernel
theorem dX7_isRowApart_33 : decode cX7_isRowApart 33 = .ok (.invokevirtual 142, 3) := by decide +kernel
theorem dX7_isRowApart_36 : decode cX7_isRowApart 36 = .ok (.iadd, 1) := by decide +kernel
theorem dX7_isRowApart_37 : decode cX7_isRowApart 37 = .ok (.aload_n 0, 1) := by decide +kernel
theorem dX7_isRowApart_38 : decode cX7_isRowApart 38 = .ok (.getfield 47, 3) := by decide +kernel
theorem dX7_isRowApart_41 : decode cX7_isRowApart 41 = .ok (.iload_n 2, 1) := by decide +kernel
theorem dX7_isRowApart_42 : decode cX7_isRowApart 42 = .ok (.iaload, 1) := by decide +kernel
theorem dX7_isRowApart_43 : decode cX7_isRowApart 43 = .ok (.if_icmp .lt 5, 3) := by decide +kernel
theorem dX7_isRowApart_46 : decode cX7_isRowApart 46 = .ok (.iconst 0, 1) := by decide +kernel
theorem dX7_isRowApart_47 : decode cX7_isRowApart 47 = .ok (.ireturn, 1) := by decide +kernel
theorem dX7_isRowApart_48 : decode cX7_isRowApart 48 = .ok (.iinc 2 1, 3) := by decide +kernel
theorem dX7_isRowApart_51 : decode cX7_isRowApart 51 = .ok (.goto (-37), 3) := by decide +kernel
theorem dX7_isRowApart_54 : decode cX7_isRowApart 54 = .ok (.iconst 1, 1) := by decide +kernel
theorem dX7_isRowApart_55 : decode cX7_isRowApart 55 = .ok (.ireturn, 1) := by decide +kernel
theorem dX7_bringsBy_0 : decode cX7_bringsBy 0 = .ok (.aload_n 0, 1) := by decide +kernel
theorem dX7_bringsBy_1 : decode cX7_bringsBy 1 = .ok (.iconst 0, 1) := by decide +kernel
theorem dX7_bringsBy_2 : decode cX7_bringsBy 2 = .ok (.putfield 195, 3) := by decide +kernel
theorem dX7_bringsBy_5 : decode cX7_bringsBy 5 = .ok (.aload_n 0, 1) := by decide +kernel
theorem dX7_bringsBy_6 : decode cX7_bringsBy 6 = .ok (.iconst 0, 1) := by decide +kernel
theorem dX7_bringsBy_7 : decode cX7_bringsBy 7 = .ok (.putfield 198, 3) := by decide +kernel
theorem dX7_bringsBy_10 : decode cX7_bringsBy 10 = .ok (.iconst 0, 1) := by decide +kernel
theorem dX7_bringsBy_11 : decode cX7_bringsBy 11 = .ok (.istore_n 2, 1) := by decide +kernel
theorem dX7_bringsBy_12 : decode cX7_bringsBy 12 = .ok (.iload_n 2, 1) := by decide +kernel
theorem dX7_bringsBy_13 : decode cX7_bringsBy 13 = .ok (.aload_n 0, 1) := by decide +kernel
theorem dX7_bringsBy_14 : decode cX7_bringsBy 14 = .ok (.getfield 184, 3) := by decide +kernel
theorem dX7_bringsBy_17 : decode cX7_bringsBy 17 = .ok (.if_icmp .ge 62, 3) := by decide +kernel
theorem dX7_bringsBy_20 : decode cX7_bringsBy 20 = .ok (.aload_n 0, 1) := by decide +kernel
theorem dX7_bringsBy_21 : decode cX7_bringsBy 21 = .ok (.iload_n 1, 1) := by decide +kernel
theorem dX7_bringsBy_22 : decode cX7_bringsBy 22 = .ok (.aload_n 0, 1) := by decide +kernel
theorem dX7_bringsBy_23 : decode cX7_bringsBy 23 = .ok (.getfield 44, 3) := by decide +kernel
theorem dX7_bringsBy_26 : decode cX7_bringsBy 26 = .ok (.iload_n 2, 1) := by decide +kernel
theorem dX7_bringsBy_27 : decode cX7_bringsBy 27 = .ok (.iaload, 1) := by decide +kernel
theorem dX7_bringsBy_28 : decode cX7_bringsBy 28 = .ok (.invokevirtual 181, 3) := by decide +kernel
theorem dX7_bringsBy_31 : decode cX7_bringsBy 31 = .ok (.istore_n 3, 1) := by decide +kernel
theorem dX7_bringsBy_32 : decode cX7_bringsBy 32 = .ok (.iload_n 3, 1) := by decide +kernel
theorem dX7_bringsBy_33 : decode cX7_bringsBy 33 = .ok (.ifCond .eq 40, 3) := by decide +kernel
theorem dX7_bringsBy_36 : decode cX7_bringsBy 36 = .ok (.aload_n 0, 1) := by decide +kernel
theorem dX7_bringsBy_37 : decode cX7_bringsBy 37 = .ok (.getfield 195, 3) := by decide +kernel
theorem dX7_bringsBy_40 : decode cX7_bringsBy 40 = .ok (.aload_n 0, 1) := by decide +kernel
theorem dX7_bringsBy_41 : decode cX7_bringsBy 41 = .ok (.iload_n 1, 1) := by decide +kernel
theorem dX7_bringsBy_42 : decode cX7_bringsBy 42 = .ok (.bipush 7, 2) := by decide +kernel
theorem dX7_bringsBy_44 : decode cX7_bringsBy 44 = .ok (.invokevirtual 142, 3) := by decide +kernel
theorem dX7_bringsBy_47 : decode cX7_bringsBy 47 = .ok (.if_icmp .ne 6, 3) := by decide +kernel
theorem dX7_bringsBy_50 : decode cX7_bringsBy 50 = .ok (.goto 23, 3) := by decide +kernel
theorem dX7_bringsBy_53 : decode cX7_bringsBy 53 = .ok (.aload_n 0, 1) := by decide +kernel
theorem dX7_bringsBy_54 : decode cX7_bringsBy 54 = .ok (.dup, 1) := by decide +kernel
theorem dX7_bringsBy_55 : decode cX7_bringsBy 55 = .ok (.getfield 195, 3) := by decide +kernel
theorem dX7_bringsBy_58 : decode cX7_bringsBy 58 = .ok (.iconst 1, 1) := by decide +kernel
theorem dX7_bringsBy_59 : decode cX7_bringsBy 59 = .ok (.iadd, 1) := by decide +kernel
theorem dX7_bringsBy_60 : decode cX7_bringsBy 60 = .ok (.putfield 195, 3) := by decide +kernel
theorem dX7_bringsBy_63 : decode cX7_bringsBy 63 = .ok (.aload_n 0, 1) := by decide +kernel
theorem dX7_bringsBy_64 : decode cX7_bringsBy 64 = .ok (.dup, 1) := by decide +kernel
theorem dX7_bringsBy_65 : decode cX7_bringsBy 65 = .ok (.getfield 198, 3) := by decide +kernel
theorem dX7_bringsBy_68 : decode cX7_bringsBy 68 = .ok (.iload_n 3, 1) := by decide +kernel
theorem dX7_bringsBy_69 : decode cX7_bringsBy 69 = .ok (.iadd, 1) := by decide +kernel
theorem dX7_bringsBy_70 : decode cX7_bringsBy 70 = .ok (.putfield 198, 3) := by decide +kernel
theorem dX7_bringsBy_73 : decode cX7_bringsBy 73 = .ok (.iinc 2 1, 3) := by decide +kernel
theorem dX7_bringsBy_76 : decode cX7_bringsBy 76 = .ok (.goto (-64), 3) := by decide +kernel
theorem dX7_bringsBy_79 : decode cX7_bringsBy 79 = .ok (.aload_n 0, 1) := by decide +kernel
theorem dX7_bringsBy_80 : decode cX7_bringsBy 80 = .ok (.getfield 198, 3) := by decide +kernel
theorem dX7_bringsBy_83 : decode cX7_bringsBy 83 = .ok (.bipush 100, 2) := by decide +kernel
theorem dX7_bringsBy_85 : decode cX7_bringsBy 85 = .ok (.aload_n 0, 1) := by decide +kernel
theorem dX7_bringsBy_86 : decode cX7_bringsBy 86 = .ok (.iload_n 1, 1) := by decide +kernel
theorem dX7_bringsBy_87 : decode cX7_bringsBy 87 = .ok (.bipush 8, 2) := by decide +kernel
theorem dX7_bringsBy_89 : decode cX7_bringsBy 89 = .ok (.invokevirtual 142, 3) := by decide +kernel
theorem dX7_bringsBy_92 : decode cX7_bringsBy 92 = .ok (.isub, 1) := by decide +kernel
theorem dX7_bringsBy_93 : decode cX7_bringsBy 93 = .ok (.imul, 1) := by decide +kernel
theorem dX7_bringsBy_94 : decode cX7_bringsBy 94 = .ok (.ireturn, 1) := by decide +kernel
theorem dX7_netBy_0 : decode cX7_netBy 0 = .ok (.aload_n 0, 1) := by decide +kernel
theorem dX7_netBy_1 : decode cX7_netBy 1 = .ok (.iload_n 1, 1) := by decide +kernel
theorem dX7_netBy_2 : decode cX7_netBy 2 = .ok (.invokevirtual 201, 3) := by decide +kernel
theorem dX7_netBy_5 : decode cX7_netBy 5 = .ok (.istore_n 2, 1) := by decide +kernel
theorem dX7_netBy_6 : decode cX7_netBy 6 = .ok (.aload_n 0, 1) := by decide +kernel
theorem dX7_netBy_7 : decode cX7_netBy 7 = .ok (.getfield 198, 3) := by decide +kernel
theorem dX7_netBy_10 : decode cX7_netBy 10 = .ok (.aload_n 0, 1) := by decide +kernel
theorem dX7_netBy_11 : decode cX7_netBy 11 = .ok (.iload_n 1, 1) := by decide +kernel
theorem dX7_netBy_12 : decode cX7_netBy 12 = .ok (.bipush 6, 2) := by decide +kernel
theorem dX7_netBy_14 : decode cX7_netBy 14 = .ok (.invokevirtual 142, 3) := by decide +kernel
theorem dX7_netBy_17 : decode cX7_netBy 17 = .ok (.aload_n 0, 1) := by decide +kernel
theorem dX7_netBy_18 : decode cX7_netBy 18 = .ok (.iload_n 1, 1) := by decide +kernel
theorem dX7_netBy_19 : decode cX7_netBy 19 = .ok (.bipush 7, 2) := by decide +kernel
theorem dX7_netBy_21 : decode cX7_netBy 21 = .ok (.invokevirtual 142, 3) := by decide +kernel
theorem dX7_netBy_24 : decode cX7_netBy 24 = .ok (.iconst 1, 1) := by decide +kernel
theorem dX7_netBy_25 : decode cX7_netBy 25 = .ok (.isub, 1) := by decide +kernel
theorem dX7_netBy_26 : decode cX7_netBy 26 = .ok (.imul, 1) := by decide +kernel
theorem dX7_netBy_27 : decode cX7_netBy 27 = .ok (.invokestatic 160, 3) := by decide +kernel
theorem dX7_netBy_30 : decode cX7_netBy 30 = .ok (.istore_n 3, 1) := by decide +kernel
theorem dX7_netBy_31 : decode cX7_netBy 31 = .ok (.iload_n 2, 1) := by decide +kernel
theorem dX7_netBy_32 : decode cX7_netBy 32 = .ok (.aload_n 0, 1) := by decide +kernel
theorem dX7_netBy_33 : decode cX7_netBy 33 = .ok (.iload_n 1, 1) := by decide +kernel
theorem dX7_netBy_34 : decode cX7_netBy 34 = .ok (.bipush 6, 2) := by decide +kernel
theorem dX7_netBy_36 : decode cX7_netBy 36 = .ok (.invokevirtual 142, 3) := by decide +kernel
theorem dX7_netBy_39 : decode cX7_netBy 39 = .ok (.imul, 1) := by decide +kernel
theorem dX7_netBy_40 : decode cX7_netBy 40 = .ok (.bipush 100, 2) := by decide +kernel
theorem dX7_netBy_42 : decode cX7_netBy 42 = .ok (.aload_n 0, 1) := by decide +kernel
theorem dX7_netBy_43 : decode cX7_netBy 43 = .ok (.iload_n 1, 1) := by decide +kernel
theorem dX7_netBy_44 : decode cX7_netBy 44 = .ok (.bipush 9, 2) := by decide +kernel
theorem dX7_netBy_46 : decode cX7_netBy 46 = .ok (.invokevirtual 142, 3) := by decide +kernel
theorem dX7_netBy_49 : decode cX7_netBy 49 = .ok (.imul, 1) := by decide +kernel
theorem dX7_netBy_50 : decode cX7_netBy 50 = .ok (.iload_n 3, 1) := by decide +kernel
theorem dX7_netBy_51 : decode cX7_netBy 51 = .ok (.imul, 1) := by decide +kernel
theorem dX7_netBy_52 : decode cX7_netBy 52 = .ok (.isub, 1) := by decide +kernel
theorem dX7_netBy_53 : decode cX7_netBy 53 = .ok (.ireturn, 1) := by decide +kernel
theorem dX7_put__0 : decode cX7_put_ 0 = .ok (.aload_n 0, 1) := by decide +kernel
theorem dX7_put__1 : decode cX7_put_ 1 = .ok (.iconst 0, 1) := by decide +kernel
theorem dX7_put__2 : decode cX7_put_ 2 = .ok (.putfield 68, 3) := by decide +kernel
theorem dX7_put__5 : decode cX7_put_ 5 = .ok (.aload_n 0, 1) := by decide +kernel
theorem dX7_put__6 : decode cX7_put_ 6 = .ok (.iload_n 1, 1) := by decide +kernel
theorem dX7_put__7 : decode cX7_put_ 7 = .ok (.invokevirtual 149, 3) := by decide +kernel
theorem dX7_put__10 : decode cX7_put_ 10 = .ok (.ifCond .eq 13, 3) := by decide +kernel
theorem dX7_put__13 : decode cX7_put_ 13 = .ok (.iload_n 2, 1) := by decide +kernel
theorem dX7_put__14 : decode cX7_put_ 14 = .ok (.iconst 0, 1) := by decide +kernel
theorem dX7_put__15 : decode cX7_put_ 15 = .ok (.bipush 15, 2) := by decide +kernel
theorem dX7_put__17 : decode cX7_put_ 17 = .ok (.invokestatic 107, 3) := by decide +kernel
theorem dX7_put__20 : decode cX7_put_ 20 = .ok (.ifCond .ne 5, 3) := by decide +kernel
theorem dX7_put__23 : decode cX7_put_ 23 = .ok (.iconst 0, 1) := by decide +kernel
theorem dX7_put__24 : decode cX7_put_ 24 = .ok (.ireturn, 1) := by decide +kernel
theorem dX7_put__25 : decode cX7_put_ 25 = .ok (.aload_n 0, 1) := by decide +kernel
theorem dX7_put__26 : decode cX7_put_ 26 = .ok (.getfield 35, 3) := by decide +kernel
theorem dX7_put__29 : decode cX7_put_ 29 = .ok (.iload_n 1, 1) := by decide +kernel
theorem dX7_put__30 : decode cX7_put_ 30 = .ok (.iload_n 2, 1) := by decide +kernel
theorem dX7_put__31 : decode cX7_put_ 31 = .ok (.iastore, 1) := by decide +kernel
theorem dX7_put__32 : decode cX7_put_ 32 = .ok (.iconst 1, 1) := by decide +kernel
theorem dX7_put__33 : decode cX7_put_ 33 = .ok (.ireturn, 1) := by decide +kernel
theorem dX7_toldWith_0 : decode cX7_toldWith 0 = .ok (.iconst 0, 1) := by decide +kernel
theorem dX7_toldWith_1 : decode cX7_toldWith 1 = .ok (.istore_n 2, 1) := by decide +kernel
theorem dX7_toldWith_2 : decode cX7_toldWith 2 = .ok (.iconst 0, 1) := by decide +kernel
theorem dX7_toldWith_3 : decode cX7_toldWith 3 = .ok (.istore_n 3, 1) := by decide +kernel
theorem dX7_toldWith_4 : decode cX7_toldWith 4 = .ok (.iload_n 3, 1) := by decide +kernel
theorem dX7_toldWith_5 : decode cX7_toldWith 5 = .ok (.aload_n 0, 1) := by decide +kernel
theorem dX7_toldWith_6 : decode cX7_toldWith 6 = .ok (.getfield 146, 3) := by decide +kernel
theorem dX7_toldWith_9 : decode cX7_toldWith 9 = .ok (.if_icmp .ge 34, 3) := by decide +kernel
theorem dX7_toldWith_12 : decode cX7_toldWith 12 = .ok (.iload_n 2, 1) := by decide +kernel
theorem dX7_toldWith_13 : decode cX7_toldWith 13 = .ok (.aload_n 0, 1) := by decide +kernel
theorem dX7_toldWith_14 : decode cX7_toldWith 14 = .ok (.getfield 35, 3) := by decide +kernel
theorem dX7_toldWith_17 : decode cX7_toldWith 17 = .ok (.iload_n 3, 1) := by decide +kernel
theorem dX7_toldWith_18 : decode cX7_toldWith 18 = .ok (.iaload, 1) := by decide +kernel
theorem dX7_toldWith_19 : decode cX7_toldWith 19 = .ok (.aload_n 0, 1) := by decide +kernel
theorem dX7_toldWith_20 : decode cX7_toldWith 20 = .ok (.getfield 35, 3) := by decide +kernel
theorem dX7_toldWith_23 : decode cX7_toldWith 23 = .ok (.iload_n 1, 1) := by decide +kernel
theorem dX7_toldWith_24 : decode cX7_toldWith 24 = .ok (.iaload, 1) := by decide +kernel
theorem dX7_toldWith_25 : decode cX7_toldWith 25 = .ok (.if_icmp .ne 9, 3) := by decide +kernel
theorem dX7_toldWith_28 : decode cX7_toldWith 28 = .ok (.iconst 1, 1) := by decide +kernel
theorem dX7_toldWith_29 : decode cX7_toldWith 29 = .ok (.iload_n 3, 1) := by decide +kernel
theorem dX7_toldWith_30 : decode cX7_toldWith 30 = .ok (.ishl, 1) := by decide +kernel
theorem dX7_toldWith_31 : decode cX7_toldWith 31 = .ok (.goto 4, 3) := by decide +kernel
theorem dX7_toldWith_34 : decode cX7_toldWith 34 = .ok (.iconst 0, 1) := by decide +kernel
theorem dX7_toldWith_35 : decode cX7_toldWith 35 = .ok (.ior, 1) := by decide +kernel
theorem dX7_toldWith_36 : decode cX7_toldWith 36 = .ok (.istore_n 2, 1) := by decide +kernel
theorem dX7_toldWith_37 : decode cX7_toldWith 37 = .ok (.iinc 3 1, 3) := by decide +kernel
theorem dX7_toldWith_40 : decode cX7_toldWith 40 = .ok (.goto (-36), 3) := by decide +kernel
theorem dX7_toldWith_43 : decode cX7_toldWith 43 = .ok (.iload_n 2, 1) := by decide +kernel
theorem dX7_toldWith_44 : decode cX7_toldWith 44 = .ok (.ireturn, 1) := by decide +kernel
theorem dX7_bars_0 : decode cX7_bars 0 = .ok (.aload_n 0, 1) := by decide +kernel
theorem dX7_bars_1 : decode cX7_bars 1 = .ok (.getfield 35, 3) := by decide +kernel
theorem dX7_bars_4 : decode cX7_bars 4 = .ok (.iload_n 2, 1) := by decide +kernel
theorem dX7_bars_5 : decode cX7_bars 5 = .ok (.iaload, 1) := by decide +kernel
theorem dX7_bars_6 : decode cX7_bars 6 = .ok (.aload_n 0, 1) := by decide +kernel
theorem dX7_bars_7 : decode cX7_bars 7 = .ok (.getfield 35, 3) := by decide +kernel
theorem dX7_bars_10 : decode cX7_bars 10 = .ok (.iload_n 3, 1) := by decide +kernel
theorem dX7_bars_11 : decode cX7_bars 11 = .ok (.iaload, 1) := by decide +kernel
theorem dX7_bars_12 : decode cX7_bars 12 = .ok (.if_icmp .ne 26, 3) := by decide +kernel
theorem dX7_bars_15 : decode cX7_bars 15 = .ok (.aload_n 0, 1) := by decide +kernel
theorem dX7_bars_16 : decode cX7_bars 16 = .ok (.iload_n 1, 1) := by decide +kernel
theorem dX7_bars_17 : decode cX7_bars 17 = .ok (.iconst 1, 1) := by decide +kernel
theorem dX7_bars_18 : decode cX7_bars 18 = .ok (.iload_n 2, 1) := by decide +kernel
theorem dX7_bars_19 : decode cX7_bars 19 = .ok (.ishl, 1) := by decide +kernel
theorem dX7_bars_20 : decode cX7_bars 20 = .ok (.iconst 1, 1) := by decide +kernel
theorem dX7_bars_21 : decode cX7_bars 21 = .ok (.iload_n 3, 1) := by decide +kernel
theorem dX7_bars_22 : decode cX7_bars 22 = .ok (.ishl, 1) := by decide +kernel
theorem dX7_bars_23 : decode cX7_bars 23 = .ok (.ior, 1) := by decide +kernel
theorem dX7_bars_24 : decode cX7_bars 24 = .ok (.invokevirtual 175, 3) := by decide +kernel
theorem dX7_bars_27 : decode cX7_bars 27 = .ok (.ifCond .ne 7, 3) := by decide +kernel
theorem dX7_bars_30 : decode cX7_bars 30 = .ok (.iconst 1, 1) := by decide +kernel
theorem dX7_bars_31 : decode cX7_bars 31 = .ok (.goto 30, 3) := by decide +kernel
theorem dX7_bars_34 : decode cX7_bars 34 = .ok (.iconst 0, 1) := by decide +kernel
theorem dX7_bars_35 : decode cX7_bars 35 = .ok (.goto 26, 3) := by decide +kernel
theorem dX7_bars_38 : decode cX7_bars 38 = .ok (.aload_n 0, 1) := by decide +kernel
theorem dX7_bars_39 : decode cX7_bars 39 = .ok (.iload_n 1, 1) := by decide +kernel
theorem dX7_bars_40 : decode cX7_bars 40 = .ok (.aload_n 0, 1) := by decide +kernel
theorem dX7_bars_41 : decode cX7_bars 41 = .ok (.iload_n 2, 1) := by decide +kernel
theorem dX7_bars_42 : decode cX7_bars 42 = .ok (.invokevirtual 204, 3) := by decide +kernel
theorem dX7_bars_45 : decode cX7_bars 45 = .ok (.aload_n 0, 1) := by decide +kernel
theorem dX7_bars_46 : decode cX7_bars 46 = .ok (.iload_n 3, 1) := by decide +kernel
theorem dX7_bars_47 : decode cX7_bars 47 = .ok (.invokevirtual 204, 3) := by decide +kernel
theorem dX7_bars_50 : decode cX7_bars 50 = .ok (.invokevirtual 207, 3) := by decide +kernel
theorem dX7_bars_53 : decode cX7_bars 53 = .ok (.ifCond .ne 7, 3) := by decide +kernel
theorem dX7_bars_56 : decode cX7_bars 56 = .ok (.iconst 1, 1) := by decide +kernel
theorem dX7_bars_57 : decode cX7_bars 57 = .ok (.goto 4, 3) := by decide +kernel
theorem dX7_bars_60 : decode cX7_bars 60 = .ok (.iconst 0, 1) := by decide +kernel
theorem dX7_bars_61 : decode cX7_bars 61 = .ok (.ireturn, 1) := by decide +kernel
theorem dX7_judged_0 : decode cX7_judged 0 = .ok (.iconst 0, 1) := by decide +kernel
theorem dX7_judged_1 : decode cX7_judged 1 = .ok (.istore_n 2, 1) := by decide +kernel
theorem dX7_judged_2 : decode cX7_judged 2 = .ok (.iload_n 2, 1) := by decide +kernel
theorem dX7_judged_3 : decode cX7_judged 3 = .ok (.aload_n 0, 1) := by decide +kernel
theorem dX7_judged_4 : decode cX7_judged 4 = .ok (.getfield 146, 3) := by decide +kernel
theorem dX7_judged_7 : decode cX7_judged 7 = .ok (.if_icmp .ge 44, 3) := by decide +kernel
theorem dX7_judged_10 : decode cX7_judged 10 = .ok (.iload_n 2, 1) := by decide +kernel
theorem dX7_judged_11 : decode cX7_judged 11 = .ok (.iconst 1, 1) := by decide +kernel
theorem dX7_judged_12 : decode cX7_judged 12 = .ok (.iadd, 1) := by decide +kernel
theorem dX7_judged_13 : decode cX7_judged 13 = .ok (.istore_n 3, 1) := by decide +kernel
theorem dX7_judged_14 : decode cX7_judged 14 = .ok (.iload_n 3, 1) := by decide +kernel
theorem dX7_judged_15 : decode cX7_judged 15 = .ok (.aload_n 0, 1) := by decide +kernel
theorem dX7_judged_16 : decode cX7_judged 16 = .ok (.getfield 146, 3) := by decide +kernel
theorem dX7_judged_19 : decode cX7_judged 19 = .ok (.if_icmp .ge 26, 3) := by decide +kernel
theorem dX7_judged_22 : decode cX7_judged 22 = .ok (.aload_n 0, 1) := by decide +kernel
theorem dX7_judged_23 : decode cX7_judged 23 = .ok (.iload_n 1, 1) := by decide +kernel
theorem dX7_judged_24 : decode cX7_judged 24 = .ok (.iload_n 2, 1) := by decide +kernel
theorem dX7_judged_25 : decode cX7_judged 25 = .ok (.iload_n 3, 1) := by decide +kernel
theorem dX7_judged_26 : decode cX7_judged 26 = .ok (.invokevirtual 210, 3) := by decide +kernel
theorem dX7_judged_29 : decode cX7_judged 29 = .ok (.ifCond .eq 10, 3) := by decide +kernel
theorem dX7_judged_32 : decode cX7_judged 32 = .ok (.bipush 16, 2) := by decide +kernel
theorem dX7_judged_34 : decode cX7_judged 34 = .ok (.iload_n 2, 1) := by decide +kernel
theorem dX7_judged_35 : decode cX7_judged 35 = .ok (.imul, 1) := by decide +kernel
theorem dX7_judged_36 : decode cX7_judged 36 = .ok (.iload_n 3, 1) := by decide +kernel
theorem dX7_judged_37 : decode cX7_judged 37 = .ok (.iadd, 1) := by decide +kernel
theorem dX7_judged_38 : decode cX7_judged 38 = .ok (.ireturn, 1) := by decide +kernel
theorem dX7_judged_39 : decode cX7_judged 39 = .ok (.iinc 3 1, 3) := by decide +kernel
theorem dX7_judged_42 : decode cX7_judged 42 = .ok (.goto (-28), 3) := by decide +kernel
theorem dX7_judged_45 : decode cX7_judged 45 = .ok (.iinc 2 1, 3) := by decide +kernel
theorem dX7_judged_48 : decode cX7_judged 48 = .ok (.goto (-46), 3) := by decide +kernel
theorem dX7_judged_51 : decode cX7_judged 51 = .ok (.iconst 0, 1) := by decide +kernel
theorem dX7_judged_52 : decode cX7_judged 52 = .ok (.istore_n 2, 1) := by decide +kernel
theorem dX7_judged_53 : decode cX7_judged 53 = .ok (.iload_n 2, 1) := by decide +kernel
theorem dX7_judged_54 : decode cX7_judged 54 = .ok (.aload_n 0, 1) := by decide +kernel
theorem dX7_judged_55 : decode cX7_judged 55 = .ok (.getfield 146, 3) := by decide +kernel
theorem dX7_judged_58 : decode cX7_judged 58 = .ok (.if_icmp .ge 53, 3) := by decide +kernel
theorem dX7_judged_61 : decode cX7_judged 61 = .ok (.aload_n 0, 1) := by decide +kernel
theorem dX7_judged_62 : decode cX7_judged 62 = .ok (.iload_n 2, 1) := by decide +kernel
theorem dX7_judged_63 : decode cX7_judged 63 = .ok (.invokevirtual 204, 3) := by decide +kernel
theorem dX7_judged_66 : decode cX7_judged 66 = .ok (.istore_n 3, 1) := by decide +kernel
theorem dX7_judged_67 : decode cX7_judged 67 = .ok (.iload_n 3, 1) := by decide +kernel
theorem dX7_judged_68 : decode cX7_judged 68 = .ok (.invokestatic 187, 3) := by decide +kernel
theorem dX7_judged_71 : decode cX7_judged 71 = .ok (.iload_n 2, 1) := by decide +kernel
theorem dX7_judged_72 : decode cX7_judged 72 = .ok (.if_icmp .ne 33, 3) := by decide +kernel
theorem dX7_judged_75 : decode cX7_judged 75 = .ok (.aload_n 0, 1) := by decide +kernel
theorem dX7_judged_76 : decode cX7_judged 76 = .ok (.iload_n 1, 1) := by decide +kernel
theorem dX7_judged_77 : decode cX7_judged 77 = .ok (.iload_n 3, 1) := by decide +kernel
theorem dX7_judged_78 : decode cX7_judged 78 = .ok (.invokevirtual 175, 3) := by decide +kernel
theorem dX7_judged_81 : decode cX7_judged 81 = .ok (.ifCond .eq 6, 3) := by decide +kernel
theorem dX7_judged_84 : decode cX7_judged 84 = .ok (.goto 21, 3) := by decide +kernel
theorem dX7_judged_87 : decode cX7_judged 87 = .ok (.iload_n 3, 1) := by decide +kernel
theorem dX7_judged_88 : decode cX7_judged 88 = .ok (.iload_n 3, 1) := by decide +kernel
theorem dX7_judged_89 : decode cX7_judged 89 = .ok (.iconst 1, 1) := by decide +kernel
theorem dX7_judged_90 : decode cX7_judged 90 = .ok (.isub, 1) := by decide +kernel
theorem dX7_judged_91 : decode cX7_judged 91 = .ok (.iand, 1) := by decide +kernel
theorem dX7_judged_92 : decode cX7_judged 92 = .ok (.istore 4, 2) := by decide +kernel
theorem dX7_judged_94 : decode cX7_judged 94 = .ok (.bipush 16, 2) := by decide +kernel
theorem dX7_judged_96 : decode cX7_judged 96 = .ok (.iload_n 2, 1) := by decide +kernel
theorem dX7_judged_97 : decode cX7_judged 97 = .ok (.imul, 1) := by decide +kernel
theorem dX7_judged_98 : decode cX7_judged 98 = .ok (.iload 4, 2) := by decide +kernel
theorem dX7_judged_100 : decode cX7_judged 100 = .ok (.invokestatic 187, 3) := by decide +kernel
theorem dX7_judged_103 : decode cX7_judged 103 = .ok (.iadd, 1) := by decide +kernel
theorem dX7_judged_104 : decode cX7_judged 104 = .ok (.ireturn, 1) := by decide +kernel
theorem dX7_judged_105 : decode cX7_judged 105 = .ok (.iinc 2 1, 3) := by decide +kernel
theorem dX7_judged_108 : decode cX7_judged 108 = .ok (.goto (-55), 3) := by decide +kernel
theorem dX7_judged_111 : decode cX7_judged 111 = .ok (.iconst (-1), 1) := by decide +kernel
theorem dX7_judged_112 : decode cX7_judged 112 = .ok (.ireturn, 1) := by decide +kernel
theorem dX7_judge_0 : decode cX7_judge 0 = .ok (.aload_n 0, 1) := by decide +kernel
theorem dX7_judge_1 : decode cX7_judge 1 = .ok (.iconst 0, 1) := by decide +kernel
theorem dX7_judge_2 : decode cX7_judge 2 = .ok (.putfield 68, 3) := by decide +kernel
theorem dX7_judge_5 : decode cX7_judge 5 = .ok (.aload_n 0, 1) := by decide +kernel
theorem dX7_judge_6 : decode cX7_judge 6 = .ok (.iload_n 1, 1) := by decide +kernel
theorem dX7_judge_7 : decode cX7_judge 7 = .ok (.invokevirtual 139, 3) := by decide +kernel
theorem dX7_judge_10 : decode cX7_judge 10 = .ok (.ifCond .eq 11, 3) := by decide +kernel
theorem dX7_judge_13 : decode cX7_judge 13 = .ok (.aload_n 0, 1) := by decide +kernel
theorem dX7_judge_14 : decode cX7_judge 14 = .ok (.iload_n 1, 1) := by decide +kernel
theorem dX7_judge_15 : decode cX7_judge 15 = .ok (.invokevirtual 213, 3) := by decide +kernel
theorem dX7_judge_18 : decode cX7_judge 18 = .ok (.goto 4, 3) := by decide +kernel
theorem dX7_judge_21 : decode cX7_judge 21 = .ok (.iconst (-1), 1) := by decide +kernel
theorem dX7_judge_22 : decode cX7_judge 22 = .ok (.ireturn, 1) := by decide +kernel
theorem dX7_brings_0 : decode cX7_brings 0 = .ok (.aload_n 0, 1) := by decide +kernel
theorem dX7_brings_1 : decode cX7_brings 1 = .ok (.iconst 0, 1) := by decide +kernel
theorem dX7_brings_2 : decode cX7_brings 2 = .ok (.putfield 68, 3) := by decide +kernel
theorem dX7_brings_5 : decode cX7_brings 5 = .ok (.aload_n 0, 1) := by decide +kernel
theorem dX7_brings_6 : decode cX7_brings 6 = .ok (.iload_n 1, 1) := by decide +kernel
theorem dX7_brings_7 : decode cX7_brings 7 = .ok (.invokevirtual 139, 3) := by decide +kernel
theorem dX7_brings_10 : decode cX7_brings 10 = .ok (.ifCond .eq 21, 3) := by decide +kernel
theorem dX7_brings_13 : decode cX7_brings 13 = .ok (.iload_n 2, 1) := by decide +kernel
theorem dX7_brings_14 : decode cX7_brings 14 = .ok (.iconst 0, 1) := by decide +kernel
theorem dX7_brings_15 : decode cX7_brings 15 = .ok (.iconst 3, 1) := by decide +kernel
theorem dX7_brings_16 : decode cX7_brings 16 = .ok (.invokestatic 107, 3) := by decide +kernel
theorem dX7_brings_19 : decode cX7_brings 19 = .ok (.ifCond .eq 12, 3) := by decide +kernel
theorem dX7_brings_22 : decode cX7_brings 22 = .ok (.aload_n 0, 1) := by decide +kernel
theorem dX7_brings_23 : decode cX7_brings 23 = .ok (.iload_n 1, 1) := by decide +kernel
theorem dX7_brings_24 : decode cX7_brings 24 = .ok (.invokevirtual 213, 3) := by decide +kernel
theorem dX7_brings_27 : decode cX7_brings 27 = .ok (.iconst (-1), 1) := by decide +kernel
theorem dX7_brings_28 : decode cX7_brings 28 = .ok (.if_icmp .eq 6, 3) := by decide +kernel
theorem dX7_brings_31 : decode cX7_brings 31 = .ok (.ldc 216, 2) := by decide +kernel
theorem dX7_brings_33 : decode cX7_brings 33 = .ok (.ireturn, 1) := by decide +kernel
theorem dX7_brings_34 : decode cX7_brings 34 = .ok (.aload_n 0, 1) := by decide +kernel
theorem dX7_brings_35 : decode cX7_brings 35 = .ok (.iconst 0, 1) := by decide +kernel
theorem dX7_brings_36 : decode cX7_brings 36 = .ok (.putfield 184, 3) := by decide +kernel
theorem dX7_brings_39 : decode cX7_brings 39 = .ok (.iconst 0, 1) := by decide +kernel
theorem dX7_brings_40 : decode cX7_brings 40 = .ok (.istore_n 3, 1) := by decide +kernel
theorem dX7_brings_41 : decode cX7_brings 41 = .ok (.iload_n 3, 1) := by decide +kernel
theorem dX7_brings_42 : decode cX7_brings 42 = .ok (.aload_n 0, 1) := by decide +kernel
theorem dX7_brings_43 : decode cX7_brings 43 = .ok (.getfield 146, 3) := by decide +kernel
theorem dX7_brings_46 : decode cX7_brings 46 = .ok (.if_icmp .ge 49, 3) := by decide +kernel
theorem dX7_brings_49 : decode cX7_brings 49 = .ok (.aload_n 0, 1) := by decide +kernel
theorem dX7_brings_50 : decode cX7_brings 50 = .ok (.iload_n 3, 1) := by decide +kernel
theorem dX7_brings_51 : decode cX7_brings 51 = .ok (.invokevirtual 204, 3) := by decide +kernel
theorem dX7_brings_54 : decode cX7_brings 54 = .ok (.istore 4, 2) := by decide +kernel
theorem dX7_brings_56 : decode cX7_brings 56 = .ok (.iload 4, 2) := by decide +kernel
theorem dX7_brings_58 : decode cX7_brings 58 = .ok (.invokestatic 187, 3) := by decide +kernel
theorem dX7_brings_61 : decode cX7_brings 61 = .ok (.iload_n 3, 1) := by decide +kernel
theorem dX7_brings_62 : decode cX7_brings 62 = .ok (.if_icmp .eq 6, 3) := by decide +kernel
theorem dX7_brings_65 : decode cX7_brings 65 = .ok (.goto 24, 3) := by decide +kernel
theorem dX7_brings_68 : decode cX7_brings 68 = .ok (.aload_n 0, 1) := by decide +kernel
theorem dX7_brings_69 : decode cX7_brings 69 = .ok (.getfield 38, 3) := by decide +kernel
theorem dX7_brings_72 : decode cX7_brings 72 = .ok (.aload_n 0, 1) := by decide +kernel
theorem dX7_brings_73 : decode cX7_brings 73 = .ok (.getfield 184, 3) := by decide +kernel
theorem dX7_brings_76 : decode cX7_brings 76 = .ok (.iload 4, 2) := by decide +kernel
theorem dX7_brings_78 : decode cX7_brings 78 = .ok (.iastore, 1) := by decide +kernel
theorem dX7_brings_79 : decode cX7_brings 79 = .ok (.aload_n 0, 1) := by decide +kernel
theorem dX7_brings_80 : decode cX7_brings 80 = .ok (.dup, 1) := by decide +kernel
theorem dX7_brings_81 : decode cX7_brings 81 = .ok (.getfield 184, 3) := by decide +kernel
theorem dX7_brings_84 : decode cX7_brings 84 = .ok (.iconst 1, 1) := by decide +kernel
theorem dX7_brings_85 : decode cX7_brings 85 = .ok (.iadd, 1) := by decide +kernel
theorem dX7_brings_86 : decode cX7_brings 86 = .ok (.putfield 184, 3) := by decide +kernel
theorem dX7_brings_89 : decode cX7_brings 89 = .ok (.iinc 3 1, 3) := by decide +kernel
theorem dX7_brings_92 : decode cX7_brings 92 = .ok (.goto (-51), 3) := by decide +kernel
theorem dX7_brings_95 : decode cX7_brings 95 = .ok (.aload_n 0, 1) := by decide +kernel
theorem dX7_brings_96 : decode cX7_brings 96 = .ok (.invokevirtual 217, 3) := by decide +kernel
theorem dX7_brings_99 : decode cX7_brings 99 = .ok (.aload_n 0, 1) := by decide +kernel
theorem dX7_brings_100 : decode cX7_brings 100 = .ok (.iload_n 1, 1) := by decide +kernel
theorem dX7_brings_101 : decode cX7_brings 101 = .ok (.invokevirtual 201, 3) := by decide +kernel
theorem dX7_brings_104 : decode cX7_brings 104 = .ok (.istore_n 3, 1) := by decide +kernel
theorem dX7_brings_105 : decode cX7_brings 105 = .ok (.iload_n 2, 1) := by decide +kernel
theorem dX7_brings_106 : decode cX7_brings 106 = .ok (.ifCond .ne 7, 3) := by decide +kernel
theorem dX7_brings_109 : decode cX7_brings 109 = .ok (.iload_n 3, 1) := by decide +kernel
theorem dX7_brings_110 : decode cX7_brings 110 = .ok (.goto 32, 3) := by decide +kernel
theorem dX7_brings_113 : decode cX7_brings 113 = .ok (.iload_n 2, 1) := by decide +kernel
theorem dX7_brings_114 : decode cX7_brings 114 = .ok (.iconst 1, 1) := by decide +kernel
theorem dX7_brings_115 : decode cX7_brings 115 = .ok (.if_icmp .ne 11, 3) := by decide +kernel
theorem dX7_brings_118 : decode cX7_brings 118 = .ok (.aload_n 0, 1) := by decide +kernel
theorem dX7_brings_119 : decode cX7_brings 119 = .ok (.iload_n 1, 1) := by decide +kernel
theorem dX7_brings_120 : decode cX7_brings 120 = .ok (.invokevirtual 220, 3) := by decide +kernel
theorem dX7_brings_123 : decode cX7_brings 123 = .ok (.goto 19, 3) := by decide +kernel
theorem dX7_brings_126 : decode cX7_brings 126 = .ok (.iload_n 2, 1) := by decide +kernel
theorem dX7_brings_127 : decode cX7_brings 127 = .ok (.iconst 2, 1) := by decide +kernel
theorem dX7_brings_128 : decode cX7_brings 128 = .ok (.if_icmp .ne 10, 3) := by decide +kernel
theorem dX7_brings_131 : decode cX7_brings 131 = .ok (.aload_n 0, 1) := by decide +kernel
theorem dX7_brings_132 : decode cX7_brings 132 = .ok (.getfield 184, 3) := by decide +kernel
theorem dX7_brings_135 : decode cX7_brings 135 = .ok (.goto 7, 3) := by decide +kernel
theorem dX7_brings_138 : decode cX7_brings 138 = .ok (.aload_n 0, 1) := by decide +kernel
theorem dX7_brings_139 : decode cX7_brings 139 = .ok (.getfield 195, 3) := by decide +kernel
theorem dX7_brings_142 : decode cX7_brings 142 = .ok (.ireturn, 1) := by decide +kernel
theorem dX7_year_0 : decode cX7_year 0 = .ok (.aload_n 0, 1) := by decide +kernel
theorem dX7_year_1 : decode cX7_year 1 = .ok (.iconst 0, 1) := by decide +kernel
theorem dX7_year_2 : decode cX7_year 2 = .ok (.putfield 68, 3) := by decide +kernel
theorem dX7_year_5 : decode cX7_year 5 = .ok (.aload_n 0, 1) := by decide +kernel
theorem dX7_year_6 : decode cX7_year 6 = .ok (.iload_n 1, 1) := by decide +kernel
theorem dX7_year_7 : decode cX7_year 7 = .ok (.invokevirtual 149, 3) := by decide +kernel
theorem dX7_year_10 : decode cX7_year 10 = .ok (.ifCond .eq 14, 3) := by decide +kernel
theorem dX7_year_13 : decode cX7_year 13 = .ok (.iload_n 2, 1) := by decide +kernel
theorem dX7_year_14 : decode cX7_year 14 = .ok (.iconst 0, 1) := by decide +kernel
theorem dX7_year_15 : decode cX7_year 15 = .ok (.sipush 999, 3) := by decide +kernel
theorem dX7_year_18 : decode cX7_year 18 = .ok (.invokestatic 107, 3) := by decide +kernel
theorem dX7_year_21 : decode cX7_year 21 = .ok (.ifCond .ne 5, 3) := by decide +kernel
theorem dX7_year_24 : decode cX7_year 24 = .ok (.iconst (-1), 1) := by decide +kernel
theorem dX7_year_25 : decode cX7_year 25 = .ok (.ireturn, 1) := by decide +kernel
theorem dX7_year_26 : decode cX7_year 26 = .ok (.aload_n 0, 1) := by decide +kernel
theorem dX7_year_27 : decode cX7_year 27 = .ok (.iload_n 1, 1) := by decide +kernel
theorem dX7_year_28 : decode cX7_year 28 = .ok (.invokevirtual 204, 3) := by decide +kernel
theorem dX7_year_31 : decode cX7_year 31 = .ok (.istore 4, 2) := by decide +kernel
theorem dX7_year_33 : decode cX7_year 33 = .ok (.iload_n 3, 1) := by decide +kernel
theorem dX7_year_34 : decode cX7_year 34 = .ok (.ifCond .ne 19, 3) := by decide +kernel
