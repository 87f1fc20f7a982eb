theorem dX0_init_0 : decode cX0_init 0 = .ok (.aload_n 0, 1) := by decide +kernel
theorem dX0_init_1 : decode cX0_init 1 = .ok (.invokespecial 3, 3) := by decide +kernel
theorem dX0_init_4 : decode cX0_init 4 = .ok (.aload_n 0, 1) := by decide +kernel
theorem dX0_init_5 : decode cX0_init 5 = .ok (.bipush 10, 2) := by decide +kernel
theorem dX0_init_7 : decode cX0_init 7 = .ok (.newarray .int, 2) := by decide +kernel
theorem dX0_init_9 : decode cX0_init 9 = .ok (.putfield 9, 3) := by decide +kernel
theorem dX0_init_12 : decode cX0_init 12 = .ok (.return_, 1) := by decide +kernel
theorem dX0_whatOf_0 : decode cX0_whatOf 0 = .ok (.ldc 15, 2) := by decide +kernel
theorem dX0_whatOf_2 : decode cX0_whatOf 2 = .ok (.iload_n 0, 1) := by decide +kernel
theorem dX0_whatOf_3 : decode cX0_whatOf 3 = .ok (.i2c, 1) := by decide +kernel
theorem dX0_whatOf_4 : decode cX0_whatOf 4 = .ok (.invokevirtual 17, 3) := by decide +kernel
theorem dX0_whatOf_7 : decode cX0_whatOf 7 = .ok (.ireturn, 1) := by decide +kernel
theorem dX0_forget_0 : decode cX0_forget 0 = .ok (.getstatic 23, 3) := by decide +kernel
theorem dX0_forget_3 : decode cX0_forget 3 = .ok (.iconst 0, 1) := by decide +kernel
theorem dX0_forget_4 : decode cX0_forget 4 = .ok (.aload_n 0, 1) := by decide +kernel
theorem dX0_forget_5 : decode cX0_forget 5 = .ok (.getfield 9, 3) := by decide +kernel
theorem dX0_forget_8 : decode cX0_forget 8 = .ok (.iconst 0, 1) := by decide +kernel
theorem dX0_forget_9 : decode cX0_forget 9 = .ok (.bipush 10, 2) := by decide +kernel
theorem dX0_forget_11 : decode cX0_forget 11 = .ok (.invokestatic 26, 3) := by decide +kernel
theorem dX0_forget_14 : decode cX0_forget 14 = .ok (.return_, 1) := by decide +kernel
theorem dX0_copyFrom_0 : decode cX0_copyFrom 0 = .ok (.aload_n 1, 1) := by decide +kernel
theorem dX0_copyFrom_1 : decode cX0_copyFrom 1 = .ok (.getfield 9, 3) := by decide +kernel
theorem dX0_copyFrom_4 : decode cX0_copyFrom 4 = .ok (.iconst 0, 1) := by decide +kernel
theorem dX0_copyFrom_5 : decode cX0_copyFrom 5 = .ok (.aload_n 0, 1) := by decide +kernel
theorem dX0_copyFrom_6 : decode cX0_copyFrom 6 = .ok (.getfield 9, 3) := by decide +kernel
theorem dX0_copyFrom_9 : decode cX0_copyFrom 9 = .ok (.iconst 0, 1) := by decide +kernel
theorem dX0_copyFrom_10 : decode cX0_copyFrom 10 = .ok (.bipush 10, 2) := by decide +kernel
theorem dX0_copyFrom_12 : decode cX0_copyFrom 12 = .ok (.invokestatic 26, 3) := by decide +kernel
theorem dX0_copyFrom_15 : decode cX0_copyFrom 15 = .ok (.return_, 1) := by decide +kernel
theorem dX0_tell_0 : decode cX0_tell 0 = .ok (.iload_n 1, 1) := by decide +kernel
theorem dX0_tell_1 : decode cX0_tell 1 = .ok (.iconst 0, 1) := by decide +kernel
theorem dX0_tell_2 : decode cX0_tell 2 = .ok (.bipush 9, 2) := by decide +kernel
theorem dX0_tell_4 : decode cX0_tell 4 = .ok (.invokestatic 32, 3) := by decide +kernel
theorem dX0_tell_7 : decode cX0_tell 7 = .ok (.ifCond .eq 20, 3) := by decide +kernel
theorem dX0_tell_10 : decode cX0_tell 10 = .ok (.iload_n 2, 1) := by decide +kernel
theorem dX0_tell_11 : decode cX0_tell 11 = .ok (.getstatic 36, 3) := by decide +kernel
theorem dX0_tell_14 : decode cX0_tell 14 = .ok (.iload_n 1, 1) := by decide +kernel
theorem dX0_tell_15 : decode cX0_tell 15 = .ok (.iaload, 1) := by decide +kernel
theorem dX0_tell_16 : decode cX0_tell 16 = .ok (.getstatic 39, 3) := by decide +kernel
theorem dX0_tell_19 : decode cX0_tell 19 = .ok (.iload_n 1, 1) := by decide +kernel
theorem dX0_tell_20 : decode cX0_tell 20 = .ok (.iaload, 1) := by decide +kernel
theorem dX0_tell_21 : decode cX0_tell 21 = .ok (.invokestatic 32, 3) := by decide +kernel
theorem dX0_tell_24 : decode cX0_tell 24 = .ok (.ifCond .ne 5, 3) := by decide +kernel
theorem dX0_tell_27 : decode cX0_tell 27 = .ok (.iconst 0, 1) := by decide +kernel
theorem dX0_tell_28 : decode cX0_tell 28 = .ok (.ireturn, 1) := by decide +kernel
theorem dX0_tell_29 : decode cX0_tell 29 = .ok (.aload_n 0, 1) := by decide +kernel
theorem dX0_tell_30 : decode cX0_tell 30 = .ok (.getfield 9, 3) := by decide +kernel
theorem dX0_tell_33 : decode cX0_tell 33 = .ok (.iload_n 1, 1) := by decide +kernel
theorem dX0_tell_34 : decode cX0_tell 34 = .ok (.iload_n 2, 1) := by decide +kernel
theorem dX0_tell_35 : decode cX0_tell 35 = .ok (.iastore, 1) := by decide +kernel
theorem dX0_tell_36 : decode cX0_tell 36 = .ok (.iconst 1, 1) := by decide +kernel
theorem dX0_tell_37 : decode cX0_tell 37 = .ok (.ireturn, 1) := by decide +kernel
theorem dX0_overlaps_0 : decode cX0_overlaps 0 = .ok (.aload_n 0, 1) := by decide +kernel
theorem dX0_overlaps_1 : decode cX0_overlaps 1 = .ok (.getfield 9, 3) := by decide +kernel
theorem dX0_overlaps_4 : decode cX0_overlaps 4 = .ok (.iconst 3, 1) := by decide +kernel
theorem dX0_overlaps_5 : decode cX0_overlaps 5 = .ok (.iaload, 1) := by decide +kernel
theorem dX0_overlaps_6 : decode cX0_overlaps 6 = .ok (.iconst 1, 1) := by decide +kernel
theorem dX0_overlaps_7 : decode cX0_overlaps 7 = .ok (.if_icmp .ne 7, 3) := by decide +kernel
theorem dX0_overlaps_10 : decode cX0_overlaps 10 = .ok (.iconst 1, 1) := by decide +kernel
theorem dX0_overlaps_11 : decode cX0_overlaps 11 = .ok (.goto 4, 3) := by decide +kernel
theorem dX0_overlaps_14 : decode cX0_overlaps 14 = .ok (.iconst 0, 1) := by decide +kernel
theorem dX0_overlaps_15 : decode cX0_overlaps 15 = .ok (.ireturn, 1) := by decide +kernel
theorem dX0_asksCauses_0 : decode cX0_asksCauses 0 = .ok (.aload_n 0, 1) := by decide +kernel
theorem dX0_asksCauses_1 : decode cX0_asksCauses 1 = .ok (.getfield 9, 3) := by decide +kernel
theorem dX0_asksCauses_4 : decode cX0_asksCauses 4 = .ok (.iconst 2, 1) := by decide +kernel
theorem dX0_asksCauses_5 : decode cX0_asksCauses 5 = .ok (.iaload, 1) := by decide +kernel
theorem dX0_asksCauses_6 : decode cX0_asksCauses 6 = .ok (.iconst 1, 1) := by decide +kernel
theorem dX0_asksCauses_7 : decode cX0_asksCauses 7 = .ok (.if_icmp .ne 7, 3) := by decide +kernel
theorem dX0_asksCauses_10 : decode cX0_asksCauses 10 = .ok (.iconst 1, 1) := by decide +kernel
theorem dX0_asksCauses_11 : decode cX0_asksCauses 11 = .ok (.goto 4, 3) := by decide +kernel
theorem dX0_asksCauses_14 : decode cX0_asksCauses 14 = .ok (.iconst 0, 1) := by decide +kernel
theorem dX0_asksCauses_15 : decode cX0_asksCauses 15 = .ok (.ireturn, 1) := by decide +kernel
theorem dX0_payFor_0 : decode cX0_payFor 0 = .ok (.iload_n 1, 1) := by decide +kernel
theorem dX0_payFor_1 : decode cX0_payFor 1 = .ok (.aload_n 0, 1) := by decide +kernel
theorem dX0_payFor_2 : decode cX0_payFor 2 = .ok (.getfield 9, 3) := by decide +kernel
theorem dX0_payFor_5 : decode cX0_payFor 5 = .ok (.iconst 5, 1) := by decide +kernel
theorem dX0_payFor_6 : decode cX0_payFor 6 = .ok (.iaload, 1) := by decide +kernel
theorem dX0_payFor_7 : decode cX0_payFor 7 = .ok (.if_icmp .le 14, 3) := by decide +kernel
theorem dX0_payFor_10 : decode cX0_payFor 10 = .ok (.iload_n 1, 1) := by decide +kernel
theorem dX0_payFor_11 : decode cX0_payFor 11 = .ok (.aload_n 0, 1) := by decide +kernel
theorem dX0_payFor_12 : decode cX0_payFor 12 = .ok (.getfield 9, 3) := by decide +kernel
theorem dX0_payFor_15 : decode cX0_payFor 15 = .ok (.iconst 5, 1) := by decide +kernel
theorem dX0_payFor_16 : decode cX0_payFor 16 = .ok (.iaload, 1) := by decide +kernel
theorem dX0_payFor_17 : decode cX0_payFor 17 = .ok (.isub, 1) := by decide +kernel
theorem dX0_payFor_18 : decode cX0_payFor 18 = .ok (.goto 4, 3) := by decide +kernel
theorem dX0_payFor_21 : decode cX0_payFor 21 = .ok (.iconst 0, 1) := by decide +kernel
theorem dX0_payFor_22 : decode cX0_payFor 22 = .ok (.istore_n 2, 1) := by decide +kernel
theorem dX0_payFor_23 : decode cX0_payFor 23 = .ok (.iload_n 2, 1) := by decide +kernel
theorem dX0_payFor_24 : decode cX0_payFor 24 = .ok (.aload_n 0, 1) := by decide +kernel
theorem dX0_payFor_25 : decode cX0_payFor 25 = .ok (.getfield 9, 3) := by decide +kernel
theorem dX0_payFor_28 : decode cX0_payFor 28 = .ok (.bipush 6, 2) := by decide +kernel
theorem dX0_payFor_30 : decode cX0_payFor 30 = .ok (.iaload, 1) := by decide +kernel
theorem dX0_payFor_31 : decode cX0_payFor 31 = .ok (.if_icmp .ge 7, 3) := by decide +kernel
theorem dX0_payFor_34 : decode cX0_payFor 34 = .ok (.iload_n 2, 1) := by decide +kernel
theorem dX0_payFor_35 : decode cX0_payFor 35 = .ok (.goto 10, 3) := by decide +kernel
theorem dX0_payFor_38 : decode cX0_payFor 38 = .ok (.aload_n 0, 1) := by decide +kernel
theorem dX0_payFor_39 : decode cX0_payFor 39 = .ok (.getfield 9, 3) := by decide +kernel
theorem dX0_payFor_42 : decode cX0_payFor 42 = .ok (.bipush 6, 2) := by decide +kernel
theorem dX0_payFor_44 : decode cX0_payFor 44 = .ok (.iaload, 1) := by decide +kernel
theorem dX0_payFor_45 : decode cX0_payFor 45 = .ok (.ireturn, 1) := by decide +kernel
theorem dX0_share_0 : decode cX0_share 0 = .ok (.bipush 100, 2) := by decide +kernel
theorem dX0_share_2 : decode cX0_share 2 = .ok (.aload_n 0, 1) := by decide +kernel
theorem dX0_share_3 : decode cX0_share 3 = .ok (.getfield 9, 3) := by decide +kernel
theorem dX0_share_6 : decode cX0_share 6 = .ok (.bipush 8, 2) := by decide +kernel
theorem dX0_share_8 : decode cX0_share 8 = .ok (.iaload, 1) := by decide +kernel
theorem dX0_share_9 : decode cX0_share 9 = .ok (.isub, 1) := by decide +kernel
theorem dX0_share_10 : decode cX0_share 10 = .ok (.ireturn, 1) := by decide +kernel
theorem dX0_bringFor_0 : decode cX0_bringFor 0 = .ok (.iload_n 1, 1) := by decide +kernel
theorem dX0_bringFor_1 : decode cX0_bringFor 1 = .ok (.aload_n 0, 1) := by decide +kernel
theorem dX0_bringFor_2 : decode cX0_bringFor 2 = .ok (.invokevirtual 42, 3) := by decide +kernel
theorem dX0_bringFor_5 : decode cX0_bringFor 5 = .ok (.imul, 1) := by decide +kernel
theorem dX0_bringFor_6 : decode cX0_bringFor 6 = .ok (.ireturn, 1) := by decide +kernel
theorem dX0_netOf_0 : decode cX0_netOf 0 = .ok (.aload_n 0, 1) := by decide +kernel
theorem dX0_netOf_1 : decode cX0_netOf 1 = .ok (.invokevirtual 42, 3) := by decide +kernel
theorem dX0_netOf_4 : decode cX0_netOf 4 = .ok (.istore_n 2, 1) := by decide +kernel
theorem dX0_netOf_5 : decode cX0_netOf 5 = .ok (.iload_n 2, 1) := by decide +kernel
theorem dX0_netOf_6 : decode cX0_netOf 6 = .ok (.ifCond .le 9, 3) := by decide +kernel
theorem dX0_netOf_9 : decode cX0_netOf 9 = .ok (.iload_n 1, 1) := by decide +kernel
theorem dX0_netOf_10 : decode cX0_netOf 10 = .ok (.iload_n 2, 1) := by decide +kernel
theorem dX0_netOf_11 : decode cX0_netOf 11 = .ok (.idiv, 1) := by decide +kernel
theorem dX0_netOf_12 : decode cX0_netOf 12 = .ok (.goto 4, 3) := by decide +kernel
theorem dX0_netOf_15 : decode cX0_netOf 15 = .ok (.iconst 0, 1) := by decide +kernel
theorem dX0_netOf_16 : decode cX0_netOf 16 = .ok (.istore_n 3, 1) := by decide +kernel
theorem dX0_netOf_17 : decode cX0_netOf 17 = .ok (.iload_n 3, 1) := by decide +kernel
theorem dX0_netOf_18 : decode cX0_netOf 18 = .ok (.aload_n 0, 1) := by decide +kernel
theorem dX0_netOf_19 : decode cX0_netOf 19 = .ok (.getfield 9, 3) := by decide +kernel
theorem dX0_netOf_22 : decode cX0_netOf 22 = .ok (.bipush 6, 2) := by decide +kernel
theorem dX0_netOf_24 : decode cX0_netOf 24 = .ok (.iaload, 1) := by decide +kernel
theorem dX0_netOf_25 : decode cX0_netOf 25 = .ok (.aload_n 0, 1) := by decide +kernel
theorem dX0_netOf_26 : decode cX0_netOf 26 = .ok (.getfield 9, 3) := by decide +kernel
theorem dX0_netOf_29 : decode cX0_netOf 29 = .ok (.bipush 7, 2) := by decide +kernel
theorem dX0_netOf_31 : decode cX0_netOf 31 = .ok (.iaload, 1) := by decide +kernel
theorem dX0_netOf_32 : decode cX0_netOf 32 = .ok (.iconst 1, 1) := by decide +kernel
theorem dX0_netOf_33 : decode cX0_netOf 33 = .ok (.isub, 1) := by decide +kernel
theorem dX0_netOf_34 : decode cX0_netOf 34 = .ok (.imul, 1) := by decide +kernel
theorem dX0_netOf_35 : decode cX0_netOf 35 = .ok (.invokestatic 46, 3) := by decide +kernel
theorem dX0_netOf_38 : decode cX0_netOf 38 = .ok (.istore 4, 2) := by decide +kernel
theorem dX0_netOf_40 : decode cX0_netOf 40 = .ok (.iload_n 1, 1) := by decide +kernel
theorem dX0_netOf_41 : decode cX0_netOf 41 = .ok (.aload_n 0, 1) := by decide +kernel
theorem dX0_netOf_42 : decode cX0_netOf 42 = .ok (.getfield 9, 3) := by decide +kernel
theorem dX0_netOf_45 : decode cX0_netOf 45 = .ok (.bipush 6, 2) := by decide +kernel
theorem dX0_netOf_47 : decode cX0_netOf 47 = .ok (.iaload, 1) := by decide +kernel
theorem dX0_netOf_48 : decode cX0_netOf 48 = .ok (.imul, 1) := by decide +kernel
theorem dX0_netOf_49 : decode cX0_netOf 49 = .ok (.bipush 100, 2) := by decide +kernel
theorem dX0_netOf_51 : decode cX0_netOf 51 = .ok (.aload_n 0, 1) := by decide +kernel
theorem dX0_netOf_52 : decode cX0_netOf 52 = .ok (.getfield 9, 3) := by decide +kernel
theorem dX0_netOf_55 : decode cX0_netOf 55 = .ok (.bipush 9, 2) := by decide +kernel
theorem dX0_netOf_57 : decode cX0_netOf 57 = .ok (.iaload, 1) := by decide +kernel
theorem dX0_netOf_58 : decode cX0_netOf 58 = .ok (.imul, 1) := by decide +kernel
theorem dX0_netOf_59 : decode cX0_netOf 59 = .ok (.iload 4, 2) := by decide +kernel
theorem dX0_netOf_61 : decode cX0_netOf 61 = .ok (.imul, 1) := by decide +kernel
theorem dX0_netOf_62 : decode cX0_netOf 62 = .ok (.isub, 1) := by decide +kernel
theorem dX0_netOf_63 : decode cX0_netOf 63 = .ok (.ireturn, 1) := by decide +kernel
theorem dX0_narrowBy_0 : decode cX0_narrowBy 0 = .ok (.aload_n 0, 1) := by decide +kernel
theorem dX0_narrowBy_1 : decode cX0_narrowBy 1 = .ok (.invokevirtual 52, 3) := by decide +kernel
theorem dX0_narrowBy_4 : decode cX0_narrowBy 4 = .ok (.ifCond .eq 14, 3) := by decide +kernel
theorem dX0_narrowBy_7 : decode cX0_narrowBy 7 = .ok (.aload_n 1, 1) := by decide +kernel
theorem dX0_narrowBy_8 : decode cX0_narrowBy 8 = .ok (.invokevirtual 52, 3) := by decide +kernel
theorem dX0_narrowBy_11 : decode cX0_narrowBy 11 = .ok (.ifCond .eq 7, 3) := by decide +kernel
theorem dX0_narrowBy_14 : decode cX0_narrowBy 14 = .ok (.iconst 1, 1) := by decide +kernel
theorem dX0_narrowBy_15 : decode cX0_narrowBy 15 = .ok (.goto 4, 3) := by decide +kernel
theorem dX0_narrowBy_18 : decode cX0_narrowBy 18 = .ok (.iconst 0, 1) := by decide +kernel
theorem dX0_narrowBy_19 : decode cX0_narrowBy 19 = .ok (.istore_n 2, 1) := by decide +kernel
theorem dX0_narrowBy_20 : decode cX0_narrowBy 20 = .ok (.aload_n 0, 1) := by decide +kernel
theorem dX0_narrowBy_21 : decode cX0_narrowBy 21 = .ok (.invokevirtual 52, 3) := by decide +kernel
theorem dX0_narrowBy_24 : decode cX0_narrowBy 24 = .ok (.ifCond .eq 7, 3) := by decide +kernel
theorem dX0_narrowBy_27 : decode cX0_narrowBy 27 = .ok (.iconst 0, 1) := by decide +kernel
theorem dX0_narrowBy_28 : decode cX0_narrowBy 28 = .ok (.goto 9, 3) := by decide +kernel
theorem dX0_narrowBy_31 : decode cX0_narrowBy 31 = .ok (.aload_n 0, 1) := by decide +kernel
theorem dX0_narrowBy_32 : decode cX0_narrowBy 32 = .ok (.getfield 9, 3) := by decide +kernel
theorem dX0_narrowBy_35 : decode cX0_narrowBy 35 = .ok (.iconst 4, 1) := by decide +kernel
theorem dX0_narrowBy_36 : decode cX0_narrowBy 36 = .ok (.iaload, 1) := by decide +kernel
theorem dX0_narrowBy_37 : decode cX0_narrowBy 37 = .ok (.istore_n 3, 1) := by decide +kernel
theorem dX0_narrowBy_38 : decode cX0_narrowBy 38 = .ok (.aload_n 1, 1) := by decide +kernel
theorem dX0_narrowBy_39 : decode cX0_narrowBy 39 = .ok (.invokevirtual 52, 3) := by decide +kernel
theorem dX0_narrowBy_42 : decode cX0_narrowBy 42 = .ok (.ifCond .eq 7, 3) := by decide +kernel
theorem dX0_narrowBy_45 : decode cX0_narrowBy 45 = .ok (.iconst 0, 1) := by decide +kernel
theorem dX0_narrowBy_46 : decode cX0_narrowBy 46 = .ok (.goto 9, 3) := by decide +kernel
theorem dX0_narrowBy_49 : decode cX0_narrowBy 49 = .ok (.aload_n 1, 1) := by decide +kernel
theorem dX0_narrowBy_50 : decode cX0_narrowBy 50 = .ok (.getfield 9, 3) := by decide +kernel
theorem dX0_narrowBy_53 : decode cX0_narrowBy 53 = .ok (.iconst 4, 1) := by decide +kernel
theorem dX0_narrowBy_54 : decode cX0_narrowBy 54 = .ok (.iaload, 1) := by decide +kernel
theorem dX0_narrowBy_55 : decode cX0_narrowBy 55 = .ok (.istore 4, 2) := by decide +kernel
theorem dX0_narrowBy_57 : decode cX0_narrowBy 57 = .ok (.aload_n 0, 1) := by decide +kernel
theorem dX0_narrowBy_58 : decode cX0_narrowBy 58 = .ok (.getfield 9, 3) := by decide +kernel
theorem dX0_narrowBy_61 : decode cX0_narrowBy 61 = .ok (.iconst 1, 1) := by decide +kernel
theorem dX0_narrowBy_62 : decode cX0_narrowBy 62 = .ok (.iaload, 1) := by decide +kernel
theorem dX0_narrowBy_63 : decode cX0_narrowBy 63 = .ok (.istore 5, 2) := by decide +kernel
theorem dX0_narrowBy_65 : decode cX0_narrowBy 65 = .ok (.aload_n 1, 1) := by decide +kernel
theorem dX0_narrowBy_66 : decode cX0_narrowBy 66 = .ok (.getfield 9, 3) := by decide +kernel
theorem dX0_narrowBy_69 : decode cX0_narrowBy 69 = .ok (.iconst 1, 1) := by decide +kernel
theorem dX0_narrowBy_70 : decode cX0_narrowBy 70 = .ok (.iaload, 1) := by decide +kernel
theorem dX0_narrowBy_71 : decode cX0_narrowBy 71 = .ok (.istore 6, 2) := by decide +kernel
theorem dX0_narrowBy_73 : decode cX0_narrowBy 73 = .ok (.aload_n 0, 1) := by decide +kernel
theorem dX0_narrowBy_74 : decode cX0_narrowBy 74 = .ok (.getfield 9, 3) := by decide +kernel
theorem dX0_narrowBy_77 : decode cX0_narrowBy 77 = .ok (.iconst 0, 1) := by decide +kernel
theorem dX0_narrowBy_78 : decode cX0_narrowBy 78 = .ok (.aload_n 0, 1) := by decide +kernel
theorem dX0_narrowBy_79 : decode cX0_narrowBy 79 = .ok (.getfield 9, 3) := by decide +kernel
theorem dX0_narrowBy_82 : decode cX0_narrowBy 82 = .ok (.iconst 0, 1) := by decide +kernel
theorem dX0_narrowBy_83 : decode cX0_narrowBy 83 = .ok (.iaload, 1) := by decide +kernel
theorem dX0_narrowBy_84 : decode cX0_narrowBy 84 = .ok (.aload_n 1, 1) := by decide +kernel
theorem dX0_narrowBy_85 : decode cX0_narrowBy 85 = .ok (.getfield 9, 3) := by decide +kernel
theorem dX0_narrowBy_88 : decode cX0_narrowBy 88 = .ok (.iconst 0, 1) := by decide +kernel
theorem dX0_narrowBy_89 : decode cX0_narrowBy 89 = .ok (.iaload, 1) := by decide +kernel
theorem dX0_narrowBy_90 : decode cX0_narrowBy 90 = .ok (.invokestatic 46, 3) := by decide +kernel
theorem dX0_narrowBy_93 : decode cX0_narrowBy 93 = .ok (.iastore, 1) := by decide +kernel
theorem dX0_narrowBy_94 : decode cX0_narrowBy 94 = .ok (.iload 5, 2) := by decide +kernel
theorem dX0_narrowBy_96 : decode cX0_narrowBy 96 = .ok (.iconst (-1), 1) := by decide +kernel
theorem dX0_narrowBy_97 : decode cX0_narrowBy 97 = .ok (.if_icmp .eq 16, 3) := by decide +kernel
theorem dX0_narrowBy_100 : decode cX0_narrowBy 100 = .ok (.iload 6, 2) := by decide +kernel
theorem dX0_narrowBy_102 : decode cX0_narrowBy 102 = .ok (.iconst (-1), 1) := by decide +kernel
theorem dX0_narrowBy_103 : decode cX0_narrowBy 103 = .ok (.if_icmp .eq 18, 3) := by decide +kernel
theorem dX0_narrowBy_106 : decode cX0_narrowBy 106 = .ok (.iload 6, 2) := by decide +kernel
theorem dX0_narrowBy_108 : decode cX0_narrowBy 108 = .ok (.iload 5, 2) := by decide +kernel
theorem dX0_narrowBy_110 : decode cX0_narrowBy 110 = .ok (.if_icmp .ge 11, 3) := by decide +kernel
theorem dX0_narrowBy_113 : decode cX0_narrowBy 113 = .ok (.aload_n 0, 1) := by decide +kernel
theorem dX0_narrowBy_114 : decode cX0_narrowBy 114 = .ok (.getfield 9, 3) := by decide +kernel
theorem dX0_narrowBy_117 : decode cX0_narrowBy 117 = .ok (.iconst 1, 1) := by decide +kernel
theorem dX0_narrowBy_118 : decode cX0_narrowBy 118 = .ok (.iload 6, 2) := by decide +kernel
theorem dX0_narrowBy_120 : decode cX0_narrowBy 120 = .ok (.iastore, 1) := by decide +kernel
theorem dX0_narrowBy_121 : decode cX0_narrowBy 121 = .ok (.aload_n 0, 1) := by decide +kernel
theorem dX0_narrowBy_122 : decode cX0_narrowBy 122 = .ok (.getfield 9, 3) := by decide +kernel
theorem dX0_narrowBy_125 : decode cX0_narrowBy 125 = .ok (.iconst 2, 1) := by decide +kernel
theorem dX0_narrowBy_126 : decode cX0_narrowBy 126 = .ok (.aload_n 0, 1) := by decide +kernel
theorem dX0_narrowBy_127 : decode cX0_narrowBy 127 = .ok (.getfield 9, 3) := by decide +kernel
theorem dX0_narrowBy_130 : decode cX0_narrowBy 130 = .ok (.iconst 2, 1) := by decide +kernel
theorem dX0_narrowBy_131 : decode cX0_narrowBy 131 = .ok (.iaload, 1) := by decide +kernel
theorem dX0_narrowBy_132 : decode cX0_narrowBy 132 = .ok (.aload_n 1, 1) := by decide +kernel
theorem dX0_narrowBy_133 : decode cX0_narrowBy 133 = .ok (.getfield 9, 3) := by decide +kernel
theorem dX0_narrowBy_136 : decode cX0_narrowBy 136 = .ok (.iconst 2, 1) := by decide +kernel
theorem dX0_narrowBy_137 : decode cX0_narrowBy 137 = .ok (.iaload, 1) := by decide +kernel
theorem dX0_narrowBy_138 : decode cX0_narrowBy 138 = .ok (.invokestatic 56, 3) := by decide +kernel
theorem dX0_narrowBy_141 : decode cX0_narrowBy 141 = .ok (.iastore, 1) := by decide +kernel
theorem dX0_narrowBy_142 : decode cX0_narrowBy 142 = .ok (.aload_n 0, 1) := by decide +kernel
theorem dX0_narrowBy_143 : decode cX0_narrowBy 143 = .ok (.getfield 9, 3) := by decide +kernel
theorem dX0_narrowBy_146 : decode cX0_narrowBy 146 = .ok (.iconst 3, 1) := by decide +kernel
theorem dX0_narrowBy_147 : decode cX0_narrowBy 147 = .ok (.iload_n 2, 1) := by decide +kernel
theorem dX0_narrowBy_148 : decode cX0_narrowBy 148 = .ok (.ifCond .eq 7, 3) := by decide +kernel
theorem dX0_narrowBy_151 : decode cX0_narrowBy 151 = .ok (.iconst 1, 1) := by decide +kernel
theorem dX0_narrowBy_152 : decode cX0_narrowBy 152 = .ok (.goto 4, 3) := by decide +kernel
theorem dX0_narrowBy_155 : decode cX0_narrowBy 155 = .ok (.iconst 0, 1) := by decide +kernel
theorem dX0_narrowBy_156 : decode cX0_narrowBy 156 = .ok (.iastore, 1) := by decide +kernel
theorem dX0_narrowBy_157 : decode cX0_narrowBy 157 = .ok (.aload_n 0, 1) := by decide +kernel
theorem dX0_narrowBy_158 : decode cX0_narrowBy 158 = .ok (.getfield 9, 3) := by decide +kernel
theorem dX0_narrowBy_161 : decode cX0_narrowBy 161 = .ok (.iconst 4, 1) := by decide +kernel
theorem dX0_narrowBy_162 : decode cX0_narrowBy 162 = .ok (.iload_n 3, 1) := by decide +kernel
theorem dX0_narrowBy_163 : decode cX0_narrowBy 163 = .ok (.iload 4, 2) := by decide +kernel
theorem dX0_narrowBy_165 : decode cX0_narrowBy 165 = .ok (.invokestatic 56, 3) := by decide +kernel
theorem dX0_narrowBy_168 : decode cX0_narrowBy 168 = .ok (.iastore, 1) := by decide +kernel
theorem dX0_narrowBy_169 : decode cX0_narrowBy 169 = .ok (.return_, 1) := by decide +kernel
theorem dX1_init_0 : decode cX1_init 0 = .ok (.aload_n 0, 1) := by decide +kernel
theorem dX1_init_1 : decode cX1_init 1 = .ok (.invokespecial 3, 3) := by decide +kernel
theorem dX1_init_4 : decode cX1_init 4 = .ok (.aload_n 0, 1) := by decide +kernel
theorem dX1_init_5 : decode cX1_init 5 = .ok (.bipush 12, 2) := by decide +kernel
theorem dX1_init_7 : decode cX1_init 7 = .ok (.newarray .int, 2) := by decide +kernel
theorem dX1_init_9 : decode cX1_init 9 = .ok (.putfield 9, 3) := by decide +kernel
theorem dX1_init_12 : decode cX1_init 12 = .ok (.aload_n 0, 1) := by decide +kernel
theorem dX1_init_13 : decode cX1_init 13 = .ok (.bipush 12, 2) := by decide +kernel
theorem dX1_init_15 : decode cX1_init 15 = .ok (.newarray .int, 2) := by decide +kernel
theorem dX1_init_17 : decode cX1_init 17 = .ok (.putfield 15, 3) := by decide +kernel
theorem dX1_init_20 : decode cX1_init 20 = .ok (.aload_n 0, 1) := by decide +kernel
theorem dX1_init_21 : decode cX1_init 21 = .ok (.bipush 12, 2) := by decide +kernel
theorem dX1_init_23 : decode cX1_init 23 = .ok (.newarray .int, 2) := by decide +kernel
theorem dX1_init_25 : decode cX1_init 25 = .ok (.putfield 18, 3) := by decide +kernel
theorem dX1_init_28 : decode cX1_init 28 = .ok (.aload_n 0, 1) := by decide +kernel
theorem dX1_init_29 : decode cX1_init 29 = .ok (.bipush 12, 2) := by decide +kernel
theorem dX1_init_31 : decode cX1_init 31 = .ok (.newarray .int, 2) := by decide +kernel
theorem dX1_init_33 : decode cX1_init 33 = .ok (.putfield 21, 3) := by decide +kernel
theorem dX1_init_36 : decode cX1_init 36 = .ok (.aload_n 0, 1) := by decide +kernel
theorem dX1_init_37 : decode cX1_init 37 = .ok (.bipush 12, 2) := by decide +kernel
theorem dX1_init_39 : decode cX1_init 39 = .ok (.newarray .int, 2) := by decide +kernel
theorem dX1_init_41 : decode cX1_init 41 = .ok (.putfield 24, 3) := by decide +kernel
theorem dX1_init_44 : decode cX1_init 44 = .ok (.aload_n 0, 1) := by decide +kernel
theorem dX1_init_45 : decode cX1_init 45 = .ok (.bipush 12, 2) := by decide +kernel
theorem dX1_init_47 : decode cX1_init 47 = .ok (.newarray .int, 2) := by decide +kernel
theorem dX1_init_49 : decode cX1_init 49 = .ok (.putfield 27, 3) := by decide +kernel
theorem dX1_init_52 : decode cX1_init 52 = .ok (.aload_n 0, 1) := by decide +kernel
theorem dX1_init_53 : decode cX1_init 53 = .ok (.iconst 0, 1) := by decide +kernel
theorem dX1_init_54 : decode cX1_init 54 = .ok (.putfield 30, 3) := by decide +kernel
theorem dX1_init_57 : decode cX1_init 57 = .ok (.return_, 1) := by decide +kernel
theorem dX1_has_0 : decode cX1_has 0 = .ok (.iload_n 1, 1) := by decide +kernel
theorem dX1_has_1 : decode cX1_has 1 = .ok (.ifCond .lt 15, 3) := by decide +kernel
theorem dX1_has_4 : decode cX1_has 4 = .ok (.iload_n 1, 1) := by decide +kernel
theorem dX1_has_5 : decode cX1_has 5 = .ok (.aload_n 0, 1) := by decide +kernel
theorem dX1_has_6 : decode cX1_has 6 = .ok (.getfield 30, 3) := by decide +kernel
theorem dX1_has_9 : decode cX1_has 9 = .ok (.if_icmp .ge 7, 3) := by decide +kernel
theorem dX1_has_12 : decode cX1_has 12 = .ok (.iconst 1, 1) := by decide +kernel
theorem dX1_has_13 : decode cX1_has 13 = .ok (.goto 4, 3) := by decide +kernel
theorem dX1_has_16 : decode cX1_has 16 = .ok (.iconst 0, 1) := by decide +kernel
theorem dX1_has_17 : decode cX1_has 17 = .ok (.ireturn, 1) := by decide +kernel
theorem dX1_all_0 : decode cX1_all 0 = .ok (.iconst 1, 1) := by decide +kernel
theorem dX1_all_1 : decode cX1_all 1 = .ok (.aload_n 0, 1) := by decide +kernel
theorem dX1_all_2 : decode cX1_all 2 = .ok (.getfield 30, 3) := by decide +kernel
theorem dX1_all_5 : decode cX1_all 5 = .ok (.ishl, 1) := by decide +kernel
theorem dX1_all_6 : decode cX1_all 6 = .ok (.iconst 1, 1) := by decide +kernel
theorem dX1_all_7 : decode cX1_all 7 = .ok (.isub, 1) := by decide +kernel
theorem dX1_all_8 : decode cX1_all 8 = .ok (.ireturn, 1) := by decide +kernel
theorem dX1_hasAll_0 : decode cX1_hasAll 0 = .ok (.iload_n 1, 1) := by decide +kernel
theorem dX1_hasAll_1 : decode cX1_hasAll 1 = .ok (.aload_n 0, 1) := by decide +kernel
theorem dX1_hasAll_2 : decode cX1_hasAll 2 = .ok (.invokevirtual 34, 3) := by decide +kernel
theorem dX1_hasAll_5 : decode cX1_hasAll 5 = .ok (.iconst (-1), 1) := by decide +kernel
theorem dX1_hasAll_6 : decode cX1_hasAll 6 = .ok (.ixor, 1) := by decide +kernel
theorem dX1_hasAll_7 : decode cX1_hasAll 7 = .ok (.iand, 1) := by decide +kernel
theorem dX1_hasAll_8 : decode cX1_hasAll 8 = .ok (.ifCond .ne 7, 3) := by decide +kernel
theorem dX1_hasAll_11 : decode cX1_hasAll 11 = .ok (.iconst 1, 1) := by decide +kernel
theorem dX1_hasAll_12 : decode cX1_hasAll 12 = .ok (.goto 4, 3) := by decide +kernel
theorem dX1_hasAll_15 : decode cX1_hasAll 15 = .ok (.iconst 0, 1) := by decide +kernel
theorem dX1_hasAll_16 : decode cX1_hasAll 16 = .ok (.ireturn, 1) := by decide +kernel
theorem dX1_isIn_0 : decode cX1_isIn 0 = .ok (.iload_n 1, 1) := by decide +kernel
theorem dX1_isIn_1 : decode cX1_isIn 1 = .ok (.iconst 1, 1) := by decide +kernel
theorem dX1_isIn_2 : decode cX1_isIn 2 = .ok (.iload_n 0, 1) := by decide +kernel
theorem dX1_isIn_3 : decode cX1_isIn 3 = .ok (.ishl, 1) := by decide +kernel
theorem dX1_isIn_4 : decode cX1_isIn 4 = .ok (.iand, 1) := by decide +kernel
theorem dX1_isIn_5 : decode cX1_isIn 5 = .ok (.ifCond .eq 7, 3) := by decide +kernel
theorem dX1_isIn_8 : decode cX1_isIn 8 = .ok (.iconst 1, 1) := by decide +kernel
theorem dX1_isIn_9 : decode cX1_isIn 9 = .ok (.goto 4, 3) := by decide +kernel
theorem dX1_isIn_12 : decode cX1_isIn 12 = .ok (.iconst 0, 1) := by decide +kernel
theorem dX1_isIn_13 : decode cX1_isIn 13 = .ok (.ireturn, 1) := by decide +kernel
theorem dX1_sumOf_0 : decode cX1_sumOf 0 = .ok (.aload_n 0, 1) := by decide +kernel
theorem dX1_sumOf_1 : decode cX1_sumOf 1 = .ok (.iload_n 1, 1) := by decide +kernel
theorem dX1_sumOf_2 : decode cX1_sumOf 2 = .ok (.sipush 1000, 3) := by decide +kernel
theorem dX1_sumOf_5 : decode cX1_sumOf 5 = .ok (.invokevirtual 38, 3) := by decide +kernel
theorem dX1_sumOf_8 : decode cX1_sumOf 8 = .ok (.ireturn, 1) := by decide +kernel
theorem dX1_sumBefore_0 : decode cX1_sumBefore 0 = .ok (.iconst 0, 1) := by decide +kernel
theorem dX1_sumBefore_1 : decode cX1_sumBefore 1 = .ok (.istore_n 3, 1) := by decide +kernel
theorem dX1_sumBefore_2 : decode cX1_sumBefore 2 = .ok (.iconst 0, 1) := by decide +kernel
theorem dX1_sumBefore_3 : decode cX1_sumBefore 3 = .ok (.istore 4, 2) := by decide +kernel
theorem dX1_sumBefore_5 : decode cX1_sumBefore 5 = .ok (.iload 4, 2) := by decide +kernel
theorem dX1_sumBefore_7 : decode cX1_sumBefore 7 = .ok (.aload_n 0, 1) := by decide +kernel
theorem dX1_sumBefore_8 : decode cX1_sumBefore 8 = .ok (.getfield 30, 3) := by decide +kernel
theorem dX1_sumBefore_11 : decode cX1_sumBefore 11 = .ok (.if_icmp .ge 39, 3) := by decide +kernel
theorem dX1_sumBefore_14 : decode cX1_sumBefore 14 = .ok (.iload 4, 2) := by decide +kernel
theorem dX1_sumBefore_16 : decode cX1_sumBefore 16 = .ok (.iload_n 1, 1) := by decide +kernel
theorem dX1_sumBefore_17 : decode cX1_sumBefore 17 = .ok (.invokestatic 42, 3) := by decide +kernel
theorem dX1_sumBefore_20 : decode cX1_sumBefore 20 = .ok (.ifCond .eq 24, 3) := by decide +kernel
theorem dX1_sumBefore_23 : decode cX1_sumBefore 23 = .ok (.aload_n 0, 1) := by decide +kernel
theorem dX1_sumBefore_24 : decode cX1_sumBefore 24 = .ok (.getfield 15, 3) := by decide +kernel
theorem dX1_sumBefore_27 : decode cX1_sumBefore 27 = .ok (.iload 4, 2) := by decide +kernel
theorem dX1_sumBefore_29 : decode cX1_sumBefore 29 = .ok (.iaload, 1) := by decide +kernel
theorem dX1_sumBefore_30 : decode cX1_sumBefore 30 = .ok (.iload_n 2, 1) := by decide +kernel
theorem dX1_sumBefore_31 : decode cX1_sumBefore 31 = .ok (.if_icmp .ge 13, 3) := by decide +kernel
theorem dX1_sumBefore_34 : decode cX1_sumBefore 34 = .ok (.iload_n 3, 1) := by decide +kernel
theorem dX1_sumBefore_35 : decode cX1_sumBefore 35 = .ok (.aload_n 0, 1) := by decide +kernel
theorem dX1_sumBefore_36 : decode cX1_sumBefore 36 = .ok (.getfield 9, 3) := by decide +kernel
theorem dX1_sumBefore_39 : decode cX1_sumBefore 39 = .ok (.iload 4, 2) := by decide +kernel
theorem dX1_sumBefore_41 : decode cX1_sumBefore 41 = .ok (.iaload, 1) := by decide +kernel
theorem dX1_sumBefore_42 : decode cX1_sumBefore 42 = .ok (.iadd, 1) := by decide +kernel
theorem dX1_sumBefore_43 : decode cX1_sumBefore 43 = .ok (.istore_n 3, 1) := by decide +kernel
theorem dX1_sumBefore_44 : decode cX1_sumBefore 44 = .ok (.iinc 4 1, 3) := by decide +kernel
theorem dX1_sumBefore_47 : decode cX1_sumBefore 47 = .ok (.goto (-42), 3) := by decide +kernel
theorem dX1_sumBefore_50 : decode cX1_sumBefore 50 = .ok (.iload_n 3, 1) := by decide +kernel
theorem dX1_sumBefore_51 : decode cX1_sumBefore 51 = .ok (.ireturn, 1) := by decide +kernel
theorem dX1_leastHourOf_0 : decode cX1_leastHourOf 0 = .ok (.sipush 999, 3) := by decide +kernel
theorem dX1_leastHourOf_3 : decode cX1_leastHourOf 3 = .ok (.istore_n 2, 1) := by decide +kernel
theorem dX1_leastHourOf_4 : decode cX1_leastHourOf 4 = .ok (.iconst 0, 1) := by decide +kernel
theorem dX1_leastHourOf_5 : decode cX1_leastHourOf 5 = .ok (.istore_n 3, 1) := by decide +kernel
theorem dX1_leastHourOf_6 : decode cX1_leastHourOf 6 = .ok (.iload_n 3, 1) := by decide +kernel
theorem dX1_leastHourOf_7 : decode cX1_leastHourOf 7 = .ok (.aload_n 0, 1) := by decide +kernel
theorem dX1_leastHourOf_8 : decode cX1_leastHourOf 8 = .ok (.getfield 30, 3) := by decide +kernel
theorem dX1_leastHourOf_11 : decode cX1_leastHourOf 11 = .ok (.if_icmp .ge 28, 3) := by decide +kernel
theorem dX1_leastHourOf_14 : decode cX1_leastHourOf 14 = .ok (.iload_n 3, 1) := by decide +kernel
theorem dX1_leastHourOf_15 : decode cX1_leastHourOf 15 = .ok (.iload_n 1, 1) := by decide +kernel
theorem dX1_leastHourOf_16 : decode cX1_leastHourOf 16 = .ok (.invokestatic 42, 3) := by decide +kernel
theorem dX1_leastHourOf_19 : decode cX1_leastHourOf 19 = .ok (.ifCond .eq 14, 3) := by decide +kernel
theorem dX1_leastHourOf_22 : decode cX1_leastHourOf 22 = .ok (.iload_n 2, 1) := by decide +kernel
theorem dX1_leastHourOf_23 : decode cX1_leastHourOf 23 = .ok (.aload_n 0, 1) := by decide +kernel
theorem dX1_leastHourOf_24 : decode cX1_leastHourOf 24 = .ok (.getfield 15, 3) := by decide +kernel
theorem dX1_leastHourOf_27 : decode cX1_leastHourOf 27 = .ok (.iload_n 3, 1) := by decide +kernel
theorem dX1_leastHourOf_28 : decode cX1_leastHourOf 28 = .ok (.iaload, 1) := by decide +kernel
theorem dX1_leastHourOf_29 : decode cX1_leastHourOf 29 = .ok (.invokestatic 46, 3) := by decide +kernel
theorem dX1_leastHourOf_32 : decode cX1_leastHourOf 32 = .ok (.istore_n 2, 1) := by decide +kernel
theorem dX1_leastHourOf_33 : decode cX1_leastHourOf 33 = .ok (.iinc 3 1, 3) := by decide +kernel
theorem dX1_leastHourOf_36 : decode cX1_leastHourOf 36 = .ok (.goto (-30), 3) := by decide +kernel
theorem dX1_leastHourOf_39 : decode cX1_leastHourOf 39 = .ok (.iload_n 2, 1) := by decide +kernel
theorem dX1_leastHourOf_40 : decode cX1_leastHourOf 40 = .ok (.ireturn, 1) := by decide +kernel
theorem dX1_greatestHourOf_0 : decode cX1_greatestHourOf 0 = .ok (.iconst 0, 1) := by decide +kernel
theorem dX1_greatestHourOf_1 : decode cX1_greatestHourOf 1 = .ok (.istore_n 2, 1) := by decide +kernel
theorem dX1_greatestHourOf_2 : decode cX1_greatestHourOf 2 = .ok (.iconst 0, 1) := by decide +kernel
theorem dX1_greatestHourOf_3 : decode cX1_greatestHourOf 3 = .ok (.istore_n 3, 1) := by decide +kernel
theorem dX1_greatestHourOf_4 : decode cX1_greatestHourOf 4 = .ok (.iload_n 3, 1) := by decide +kernel
theorem dX1_greatestHourOf_5 : decode cX1_greatestHourOf 5 = .ok (.aload_n 0, 1) := by decide +kernel
theorem dX1_greatestHourOf_6 : decode cX1_greatestHourOf 6 = .ok (.getfield 30, 3) := by decide +kernel
theorem dX1_greatestHourOf_9 : decode cX1_greatestHourOf 9 = .ok (.if_icmp .ge 28, 3) := by decide +kernel
theorem dX1_greatestHourOf_12 : decode cX1_greatestHourOf 12 = .ok (.iload_n 3, 1) := by decide +kernel
theorem dX1_greatestHourOf_13 : decode cX1_greatestHourOf 13 = .ok (.iload_n 1, 1) := by decide +kernel
theorem dX1_greatestHourOf_14 : decode cX1_greatestHourOf 14 = .ok (.invokestatic 42, 3) := by decide +kernel
theorem dX1_greatestHourOf_17 : decode cX1_greatestHourOf 17 = .ok (.ifCond .eq 14, 3) := by decide +kernel
theorem dX1_greatestHourOf_20 : decode cX1_greatestHourOf 20 = .ok (.iload_n 2, 1) := by decide +kernel
theorem dX1_greatestHourOf_21 : decode cX1_greatestHourOf 21 = .ok (.aload_n 0, 1) := by decide +kernel
theorem dX1_greatestHourOf_22 : decode cX1_greatestHourOf 22 = .ok (.getfield 15, 3) := by decide +kernel
theorem dX1_greatestHourOf_25 : decode cX1_greatestHourOf 25 = .ok (.iload_n 3, 1) := by decide +kernel
theorem dX1_greatestHourOf_26 : decode cX1_greatestHourOf 26 = .ok (.iaload, 1) := by decide +kernel
theorem dX1_greatestHourOf_27 : decode cX1_greatestHourOf 27 = .ok (.invokestatic 51, 3) := by decide +kernel
theorem dX1_greatestHourOf_30 : decode cX1_greatestHourOf 30 = .ok (.istore_n 2, 1) := by decide +kernel
theorem dX1_greatestHourOf_31 : decode cX1_greatestHourOf 31 = .ok (.iinc 3 1, 3) := by decide +kernel
theorem dX1_greatestHourOf_34 : decode cX1_greatestHourOf 34 = .ok (.goto (-30), 3) := by decide +kernel
theorem dX1_greatestHourOf_37 : decode cX1_greatestHourOf 37 = .ok (.iload_n 2, 1) := by decide +kernel
theorem dX1_greatestHourOf_38 : decode cX1_greatestHourOf 38 = .ok (.ireturn, 1) := by decide +kernel
theorem dX1_someAreApartBy_0 : decode cX1_someAreApartBy 0 = .ok (.iconst 0, 1) := by decide +kernel
theorem dX1_someAreApartBy_1 : decode cX1_someAreApartBy 1 = .ok (.istore_n 2, 1) := by decide +kernel
theorem dX1_someAreApartBy_2 : decode cX1_someAreApartBy 2 = .ok (.iload_n 2, 1) := by decide +kernel
theorem dX1_someAreApartBy_3 : decode cX1_someAreApartBy 3 = .ok (.aload_n 0, 1) := by decide +kernel
theorem dX1_someAreApartBy_4 : decode cX1_someAreApartBy 4 = .ok (.getfield 30, 3) := by decide +kernel
theorem dX1_someAreApartBy_7 : decode cX1_someAreApartBy 7 = .ok (.if_icmp .ge 44, 3) := by decide +kernel
theorem dX1_someAreApartBy_10 : decode cX1_someAreApartBy 10 = .ok (.iconst 0, 1) := by decide +kernel
theorem dX1_someAreApartBy_11 : decode cX1_someAreApartBy 11 = .ok (.istore_n 3, 1) := by decide +kernel
theorem dX1_someAreApartBy_12 : decode cX1_someAreApartBy 12 = .ok (.iload_n 3, 1) := by decide +kernel
theorem dX1_someAreApartBy_13 : decode cX1_someAreApartBy 13 = .ok (.aload_n 0, 1) := by decide +kernel
theorem dX1_someAreApartBy_14 : decode cX1_someAreApartBy 14 = .ok (.getfield 30, 3) := by decide +kernel
theorem dX1_someAreApartBy_17 : decode cX1_someAreApartBy 17 = .ok (.if_icmp .ge 28, 3) := by decide +kernel
theorem dX1_someAreApartBy_20 : decode cX1_someAreApartBy 20 = .ok (.aload_n 0, 1) := by decide +kernel
theorem dX1_someAreApartBy_21 : decode cX1_someAreApartBy 21 = .ok (.getfield 15, 3) := by decide +kernel
theorem dX1_someAreApartBy_24 : decode cX1_someAreApartBy 24 = .ok (.iload_n 3, 1) := by decide +kernel
theorem dX1_someAreApartBy_25 : decode cX1_someAreApartBy 25 = .ok (.iaload, 1) := by decide +kernel
theorem dX1_someAreApartBy_26 : decode cX1_someAreApartBy 26 = .ok (.aload_n 0, 1) := by decide +kernel
theorem dX1_someAreApartBy_27 : decode cX1_someAreApartBy 27 = .ok (.getfield 15, 3) := by decide +kernel
theorem dX1_someAreApartBy_30 : decode cX1_someAreApartBy 30 = .ok (.iload_n 2, 1) := by decide +kernel
theorem dX1_someAreApartBy_31 : decode cX1_someAreApartBy 31 = .ok (.iaload, 1) := by decide +kernel
theorem dX1_someAreApartBy_32 : decode cX1_someAreApartBy 32 = .ok (.isub, 1) := by decide +kernel
theorem dX1_someAreApartBy_33 : decode cX1_someAreApartBy 33 = .ok (.iload_n 1, 1) := by decide +kernel
theorem dX1_someAreApartBy_34 : decode cX1_someAreApartBy 34 = .ok (.if_icmp .ne 5, 3) := by decide +kernel
theorem dX1_someAreApartBy_37 : decode cX1_someAreApartBy 37 = .ok (.iconst 1, 1) := by decide +kernel
theorem dX1_someAreApartBy_38 : decode cX1_someAreApartBy 38 = .ok (.ireturn, 1) := by decide +kernel
theorem dX1_someAreApartBy_39 : decode cX1_someAreApartBy 39 = .ok (.iinc 3 1, 3) := by decide +kernel
theorem dX1_someAreApartBy_42 : decode cX1_someAreApartBy 42 = .ok (.goto (-30), 3) := by decide +kernel
theorem dX1_someAreApartBy_45 : decode cX1_someAreApartBy 45 = .ok (.iinc 2 1, 3) := by decide +kernel
theorem dX1_someAreApartBy_48 : decode cX1_someAreApartBy 48 = .ok (.goto (-46), 3) := by decide +kernel
theorem dX1_someAreApartBy_51 : decode cX1_someAreApartBy 51 = .ok (.iconst 0, 1) := by decide +kernel
theorem dX1_someAreApartBy_52 : decode cX1_someAreApartBy 52 = .ok (.ireturn, 1) := by decide +kernel
theorem dX1_standsAnewAt_0 : decode cX1_standsAnewAt 0 = .ok (.aload_n 3, 1) := by decide +kernel
theorem dX1_standsAnewAt_1 : decode cX1_standsAnewAt 1 = .ok (.getfield 54, 3) := by decide +kernel
theorem dX1_standsAnewAt_4 : decode cX1_standsAnewAt 4 = .ok (.iconst 0, 1) := by decide +kernel
theorem dX1_standsAnewAt_5 : decode cX1_standsAnewAt 5 = .ok (.iaload, 1) := by decide +kernel
theorem dX1_standsAnewAt_6 : decode cX1_standsAnewAt 6 = .ok (.istore 4, 2) := by decide +kernel
theorem dX1_standsAnewAt_8 : decode cX1_standsAnewAt 8 = .ok (.aload_n 3, 1) := by decide +kernel
theorem dX1_standsAnewAt_9 : decode cX1_standsAnewAt 9 = .ok (.getfield 54, 3) := by decide +kernel
theorem dX1_standsAnewAt_12 : decode cX1_standsAnewAt 12 = .ok (.iconst 4, 1) := by decide +kernel
theorem dX1_standsAnewAt_13 : decode cX1_standsAnewAt 13 = .ok (.iaload, 1) := by decide +kernel
theorem dX1_standsAnewAt_14 : decode cX1_standsAnewAt 14 = .ok (.istore 5, 2) := by decide +kernel
theorem dX1_standsAnewAt_16 : decode cX1_standsAnewAt 16 = .ok (.iconst 0, 1) := by decide +kernel
theorem dX1_standsAnewAt_17 : decode cX1_standsAnewAt 17 = .ok (.istore 6, 2) := by decide +kernel
theorem dX1_standsAnewAt_19 : decode cX1_standsAnewAt 19 = .ok (.iload 6, 2) := by decide +kernel
theorem dX1_standsAnewAt_21 : decode cX1_standsAnewAt 21 = .ok (.aload_n 0, 1) := by decide +kernel
theorem dX1_standsAnewAt_22 : decode cX1_standsAnewAt 22 = .ok (.getfield 30, 3) := by decide +kernel
theorem dX1_standsAnewAt_25 : decode cX1_standsAnewAt 25 = .ok (.if_icmp .ge 108, 3) := by decide +kernel
theorem dX1_standsAnewAt_28 : decode cX1_standsAnewAt 28 = .ok (.iload_n 1, 1) := by decide +kernel
theorem dX1_standsAnewAt_29 : decode cX1_standsAnewAt 29 = .ok (.aload_n 0, 1) := by decide +kernel
theorem dX1_standsAnewAt_30 : decode cX1_standsAnewAt 30 = .ok (.getfield 15, 3) := by decide +kernel
theorem dX1_standsAnewAt_33 : decode cX1_standsAnewAt 33 = .ok (.iload 6, 2) := by decide +kernel
theorem dX1_standsAnewAt_35 : decode cX1_standsAnewAt 35 = .ok (.iaload, 1) := by decide +kernel
theorem dX1_standsAnewAt_36 : decode cX1_standsAnewAt 36 = .ok (.isub, 1) := by decide +kernel
theorem dX1_standsAnewAt_37 : decode cX1_standsAnewAt 37 = .ok (.istore 7, 2) := by decide +kernel
theorem dX1_standsAnewAt_39 : decode cX1_standsAnewAt 39 = .ok (.iload 7, 2) := by decide +kernel
theorem dX1_standsAnewAt_41 : decode cX1_standsAnewAt 41 = .ok (.ifCond .eq 9, 3) := by decide +kernel
theorem dX1_standsAnewAt_44 : decode cX1_standsAnewAt 44 = .ok (.iload 7, 2) := by decide +kernel
theorem dX1_standsAnewAt_46 : decode cX1_standsAnewAt 46 = .ok (.iconst 1, 1) := by decide +kernel
theorem dX1_standsAnewAt_47 : decode cX1_standsAnewAt 47 = .ok (.if_icmp .ne 7, 3) := by decide +kernel
theorem dX1_standsAnewAt_50 : decode cX1_standsAnewAt 50 = .ok (.iconst 1, 1) := by decide +kernel
theorem dX1_standsAnewAt_51 : decode cX1_standsAnewAt 51 = .ok (.goto 4, 3) := by decide +kernel
theorem dX1_standsAnewAt_54 : decode cX1_standsAnewAt 54 = .ok (.iconst 0, 1) := by decide +kernel
theorem dX1_standsAnewAt_55 : decode cX1_standsAnewAt 55 = .ok (.istore 8, 2) := by decide +kernel
theorem dX1_standsAnewAt_57 : decode cX1_standsAnewAt 57 = .ok (.iload 7, 2) := by decide +kernel
theorem dX1_standsAnewAt_59 : decode cX1_standsAnewAt 59 = .ok (.iconst 1, 1) := by decide +kernel
theorem dX1_standsAnewAt_60 : decode cX1_standsAnewAt 60 = .ok (.iload 4, 2) := by decide +kernel
theorem dX1_standsAnewAt_62 : decode cX1_standsAnewAt 62 = .ok (.isub, 1) := by decide +kernel
theorem dX1_standsAnewAt_63 : decode cX1_standsAnewAt 63 = .ok (.if_icmp .eq 10, 3) := by decide +kernel
theorem dX1_standsAnewAt_66 : decode cX1_standsAnewAt 66 = .ok (.iload 7, 2) := by decide +kernel
theorem dX1_standsAnewAt_68 : decode cX1_standsAnewAt 68 = .ok (.iload 4, 2) := by decide +kernel
theorem dX1_standsAnewAt_70 : decode cX1_standsAnewAt 70 = .ok (.if_icmp .ne 7, 3) := by decide +kernel
theorem dX1_standsAnewAt_73 : decode cX1_standsAnewAt 73 = .ok (.iconst 1, 1) := by decide +kernel
theorem dX1_standsAnewAt_74 : decode cX1_standsAnewAt 74 = .ok (.goto 4, 3) := by decide +kernel
theorem dX1_standsAnewAt_77 : decode cX1_standsAnewAt 77 = .ok (.iconst 0, 1) := by decide +kernel
theorem dX1_standsAnewAt_78 : decode cX1_standsAnewAt 78 = .ok (.istore 9, 2) := by decide +kernel
theorem dX1_standsAnewAt_80 : decode cX1_standsAnewAt 80 = .ok (.iload 7, 2) := by decide +kernel
theorem dX1_standsAnewAt_82 : decode cX1_standsAnewAt 82 = .ok (.iload 5, 2) := by decide +kernel
theorem dX1_standsAnewAt_84 : decode cX1_standsAnewAt 84 = .ok (.ineg, 1) := by decide +kernel
theorem dX1_standsAnewAt_85 : decode cX1_standsAnewAt 85 = .ok (.if_icmp .eq 12, 3) := by decide +kernel
theorem dX1_standsAnewAt_88 : decode cX1_standsAnewAt 88 = .ok (.iload 7, 2) := by decide +kernel
theorem dX1_standsAnewAt_90 : decode cX1_standsAnewAt 90 = .ok (.iload 5, 2) := by decide +kernel
theorem dX1_standsAnewAt_92 : decode cX1_standsAnewAt 92 = .ok (.iconst 1, 1) := by decide +kernel
theorem dX1_standsAnewAt_93 : decode cX1_standsAnewAt 93 = .ok (.iadd, 1) := by decide +kernel
theorem dX1_standsAnewAt_94 : decode cX1_standsAnewAt 94 = .ok (.if_icmp .ne 7, 3) := by decide +kernel
theorem dX1_standsAnewAt_97 : decode cX1_standsAnewAt 97 = .ok (.iconst 1, 1) := by decide +kernel
theorem dX1_standsAnewAt_98 : decode cX1_standsAnewAt 98 = .ok (.goto 4, 3) := by decide +kernel
theorem dX1_standsAnewAt_101 : decode cX1_standsAnewAt 101 = .ok (.iconst 0, 1) := by decide +kernel
theorem dX1_standsAnewAt_102 : decode cX1_standsAnewAt 102 = .ok (.istore 10, 2) := by decide +kernel
theorem dX1_standsAnewAt_104 : decode cX1_standsAnewAt 104 = .ok (.iload 6, 2) := by decide +kernel
theorem dX1_standsAnewAt_106 : decode cX1_standsAnewAt 106 = .ok (.iload_n 2, 1) := by decide +kernel
theorem dX1_standsAnewAt_107 : decode cX1_standsAnewAt 107 = .ok (.if_icmp .eq 20, 3) := by decide +kernel
theorem dX1_standsAnewAt_110 : decode cX1_standsAnewAt 110 = .ok (.iload 8, 2) := by decide +kernel
theorem dX1_standsAnewAt_112 : decode cX1_standsAnewAt 112 = .ok (.ifCond .ne 13, 3) := by decide +kernel
theorem dX1_standsAnewAt_115 : decode cX1_standsAnewAt 115 = .ok (.iload 9, 2) := by decide +kernel
theorem dX1_standsAnewAt_117 : decode cX1_standsAnewAt 117 = .ok (.ifCond .ne 8, 3) := by decide +kernel
theorem dX1_standsAnewAt_120 : decode cX1_standsAnewAt 120 = .ok (.iload 10, 2) := by decide +kernel
theorem dX1_standsAnewAt_122 : decode cX1_standsAnewAt 122 = .ok (.ifCond .eq 5, 3) := by decide +kernel
theorem dX1_standsAnewAt_125 : decode cX1_standsAnewAt 125 = .ok (.iconst 1, 1) := by decide +kernel
theorem dX1_standsAnewAt_126 : decode cX1_standsAnewAt 126 = .ok (.ireturn, 1) := by decide +kernel
theorem dX1_standsAnewAt_127 : decode cX1_standsAnewAt 127 = .ok (.iinc 6 1, 3) := by decide +kernel
theorem dX1_standsAnewAt_130 : decode cX1_standsAnewAt 130 = .ok (.goto (-111), 3) := by decide +kernel
theorem dX1_standsAnewAt_133 : decode cX1_standsAnewAt 133 = .ok (.iconst 0, 1) := by decide +kernel
theorem dX1_standsAnewAt_134 : decode cX1_standsAnewAt 134 = .ok (.ireturn, 1) := by decide +kernel
theorem dX1_areNear_0 : decode cX1_areNear 0 = .ok (.aload_n 0, 1) := by decide +kernel
theorem dX1_areNear_1 : decode cX1_areNear 1 = .ok (.getfield 15, 3) := by decide +kernel
theorem dX1_areNear_4 : decode cX1_areNear 4 = .ok (.iload_n 2, 1) := by decide +kernel
theorem dX1_areNear_5 : decode cX1_areNear 5 = .ok (.iaload, 1) := by decide +kernel
theorem dX1_areNear_6 : decode cX1_areNear 6 = .ok (.aload_n 0, 1) := by decide +kernel
theorem dX1_areNear_7 : decode cX1_areNear 7 = .ok (.getfield 15, 3) := by decide +kernel
theorem dX1_areNear_10 : decode cX1_areNear 10 = .ok (.iload_n 3, 1) := by decide +kernel
theorem dX1_areNear_11 : decode cX1_areNear 11 = .ok (.iaload, 1) := by decide +kernel
theorem dX1_areNear_12 : decode cX1_areNear 12 = .ok (.isub, 1) := by decide +kernel
theorem dX1_areNear_13 : decode cX1_areNear 13 = .ok (.invokestatic 59, 3) := by decide +kernel
theorem dX1_areNear_16 : decode cX1_areNear 16 = .ok (.aload_n 1, 1) := by decide +kernel
theorem dX1_areNear_17 : decode cX1_areNear 17 = .ok (.getfield 54, 3) := by decide +kernel
theorem dX1_areNear_20 : decode cX1_areNear 20 = .ok (.iconst 0, 1) := by decide +kernel
theorem dX1_areNear_21 : decode cX1_areNear 21 = .ok (.iaload, 1) := by decide +kernel
theorem dX1_areNear_22 : decode cX1_areNear 22 = .ok (.if_icmp .lt 5, 3) := by decide +kernel
theorem dX1_areNear_25 : decode cX1_areNear 25 = .ok (.iconst 0, 1) := by decide +kernel
theorem dX1_areNear_26 : decode cX1_areNear 26 = .ok (.ireturn, 1) := by decide +kernel
theorem dX1_areNear_27 : decode cX1_areNear 27 = .ok (.aload_n 1, 1) := by decide +kernel
theorem dX1_areNear_28 : decode cX1_areNear 28 = .ok (.getfield 54, 3) := by decide +kernel
theorem dX1_areNear_31 : decode cX1_areNear 31 = .ok (.iconst 1, 1) := by decide +kernel
theorem dX1_areNear_32 : decode cX1_areNear 32 = .ok (.iaload, 1) := by decide +kernel
theorem dX1_areNear_33 : decode cX1_areNear 33 = .ok (.istore 4, 2) := by decide +kernel
theorem dX1_areNear_35 : decode cX1_areNear 35 = .ok (.aload_n 0, 1) := by decide +kernel
theorem dX1_areNear_36 : decode cX1_areNear 36 = .ok (.getfield 21, 3) := by decide +kernel
theorem dX1_areNear_39 : decode cX1_areNear 39 = .ok (.iload_n 2, 1) := by decide +kernel
theorem dX1_areNear_40 : decode cX1_areNear 40 = .ok (.iaload, 1) := by decide +kernel
theorem dX1_areNear_41 : decode cX1_areNear 41 = .ok (.aload_n 0, 1) := by decide +kernel
theorem dX1_areNear_42 : decode cX1_areNear 42 = .ok (.getfield 21, 3) := by decide +kernel
theorem dX1_areNear_45 : decode cX1_areNear 45 = .ok (.iload_n 3, 1) := by decide +kernel
theorem dX1_areNear_46 : decode cX1_areNear 46 = .ok (.iaload, 1) := by decide +kernel
theorem dX1_areNear_47 : decode cX1_areNear 47 = .ok (.isub, 1) := by decide +kernel
theorem dX1_areNear_48 : decode cX1_areNear 48 = .ok (.istore 5, 2) := by decide +kernel
theorem dX1_areNear_50 : decode cX1_areNear 50 = .ok (.aload_n 0, 1) := by decide +kernel
theorem dX1_areNear_51 : decode cX1_areNear 51 = .ok (.getfield 24, 3) := by decide +kernel
theorem dX1_areNear_54 : decode cX1_areNear 54 = .ok (.iload_n 2, 1) := by decide +kernel
theorem dX1_areNear_55 : decode cX1_areNear 55 = .ok (.iaload, 1) := by decide +kernel
theorem dX1_areNear_56 : decode cX1_areNear 56 = .ok (.aload_n 0, 1) := by decide +kernel
theorem dX1_areNear_57 : decode cX1_areNear 57 = .ok (.getfield 24, 3) := by decide +kernel
theorem dX1_areNear_60 : decode cX1_areNear 60 = .ok (.iload_n 3, 1) := by decide +kernel
theorem dX1_areNear_61 : decode cX1_areNear 61 = .ok (.iaload, 1) := by decide +kernel
theorem dX1_areNear_62 : decode cX1_areNear 62 = .ok (.isub, 1) := by decide +kernel
theorem dX1_areNear_63 : decode cX1_areNear 63 = .ok (.istore 6, 2) := by decide +kernel
theorem dX1_areNear_65 : decode cX1_areNear 65 = .ok (.iload 4, 2) := by decide +kernel
theorem dX1_areNear_67 : decode cX1_areNear 67 = .ok (.iconst (-1), 1) := by decide +kernel
theorem dX1_areNear_68 : decode cX1_areNear 68 = .ok (.if_icmp .eq 22, 3) := by decide +kernel
theorem dX1_areNear_71 : decode cX1_areNear 71 = .ok (.iload 5, 2) := by decide +kernel
theorem dX1_areNear_73 : decode cX1_areNear 73 = .ok (.iload 5, 2) := by decide +kernel
theorem dX1_areNear_75 : decode cX1_areNear 75 = .ok (.imul, 1) := by decide +kernel
theorem dX1_areNear_76 : decode cX1_areNear 76 = .ok (.iload 6, 2) := by decide +kernel
theorem dX1_areNear_78 : decode cX1_areNear 78 = .ok (.iload 6, 2) := by decide +kernel
theorem dX1_areNear_80 : decode cX1_areNear 80 = .ok (.imul, 1) := by decide +kernel
theorem dX1_areNear_81 : decode cX1_areNear 81 = .ok (.iadd, 1) := by decide +kernel
theorem dX1_areNear_82 : decode cX1_areNear 82 = .ok (.iload 4, 2) := by decide +kernel
theorem dX1_areNear_84 : decode cX1_areNear 84 = .ok (.iload 4, 2) := by decide +kernel
theorem dX1_areNear_86 : decode cX1_areNear 86 = .ok (.imul, 1) := by decide +kernel
theorem dX1_areNear_87 : decode cX1_areNear 87 = .ok (.if_icmp .gt 7, 3) := by decide +kernel
theorem dX1_areNear_90 : decode cX1_areNear 90 = .ok (.iconst 1, 1) := by decide +kernel
theorem dX1_areNear_91 : decode cX1_areNear 91 = .ok (.goto 4, 3) := by decide +kernel
theorem dX1_areNear_94 : decode cX1_areNear 94 = .ok (.iconst 0, 1) := by decide +kernel
theorem dX1_areNear_95 : decode cX1_areNear 95 = .ok (.ireturn, 1) := by decide +kernel
theorem dX1_areOne_0 : decode cX1_areOne 0 = .ok (.iconst (-1), 1) := by decide +kernel
theorem dX1_areOne_1 : decode cX1_areOne 1 = .ok (.istore_n 3, 1) := by decide +kernel
theorem dX1_areOne_2 : decode cX1_areOne 2 = .ok (.iconst 0, 1) := by decide +kernel
theorem dX1_areOne_3 : decode cX1_areOne 3 = .ok (.istore 4, 2) := by decide +kernel
theorem dX1_areOne_5 : decode cX1_areOne 5 = .ok (.iload 4, 2) := by decide +kernel
theorem dX1_areOne_7 : decode cX1_areOne 7 = .ok (.aload_n 0, 1) := by decide +kernel
theorem dX1_areOne_8 : decode cX1_areOne 8 = .ok (.getfield 30, 3) := by decide +kernel
theorem dX1_areOne_11 : decode cX1_areOne 11 = .ok (.if_icmp .ge 75, 3) := by decide +kernel
theorem dX1_areOne_14 : decode cX1_areOne 14 = .ok (.iload 4, 2) := by decide +kernel
theorem dX1_areOne_16 : decode cX1_areOne 16 = .ok (.iload_n 2, 1) := by decide +kernel
theorem dX1_areOne_17 : decode cX1_areOne 17 = .ok (.invokestatic 42, 3) := by decide +kernel
theorem dX1_areOne_20 : decode cX1_areOne 20 = .ok (.ifCond .ne 6, 3) := by decide +kernel
theorem dX1_areOne_23 : decode cX1_areOne 23 = .ok (.goto 57, 3) := by decide +kernel
theorem dX1_areOne_26 : decode cX1_areOne 26 = .ok (.iload_n 3, 1) := by decide +kernel
theorem dX1_areOne_27 : decode cX1_areOne 27 = .ok (.aload_n 0, 1) := by decide +kernel
theorem dX1_areOne_28 : decode cX1_areOne 28 = .ok (.getfield 27, 3) := by decide +kernel
theorem dX1_areOne_31 : decode cX1_areOne 31 = .ok (.iload 4, 2) := by decide +kernel
theorem dX1_areOne_33 : decode cX1_areOne 33 = .ok (.iaload, 1) := by decide +kernel
theorem dX1_areOne_34 : decode cX1_areOne 34 = .ok (.iand, 1) := by decide +kernel
theorem dX1_areOne_35 : decode cX1_areOne 35 = .ok (.istore_n 3, 1) := by decide +kernel
theorem dX1_areOne_36 : decode cX1_areOne 36 = .ok (.iload 4, 2) := by decide +kernel
theorem dX1_areOne_38 : decode cX1_areOne 38 = .ok (.iconst 1, 1) := by decide +kernel
theorem dX1_areOne_39 : decode cX1_areOne 39 = .ok (.iadd, 1) := by decide +kernel
theorem dX1_areOne_40 : decode cX1_areOne 40 = .ok (.istore 5, 2) := by decide +kernel
theorem dX1_areOne_42 : decode cX1_areOne 42 = .ok (.iload 5, 2) := by decide +kernel
theorem dX1_areOne_44 : decode cX1_areOne 44 = .ok (.aload_n 0, 1) := by decide +kernel
theorem dX1_areOne_45 : decode cX1_areOne 45 = .ok (.getfield 30, 3) := by decide +kernel
theorem dX1_areOne_48 : decode cX1_areOne 48 = .ok (.if_icmp .ge 32, 3) := by decide +kernel
theorem dX1_areOne_51 : decode cX1_areOne 51 = .ok (.iload 5, 2) := by decide +kernel
theorem dX1_areOne_53 : decode cX1_areOne 53 = .ok (.iload_n 2, 1) := by decide +kernel
theorem dX1_areOne_54 : decode cX1_areOne 54 = .ok (.invokestatic 42, 3) := by decide +kernel
theorem dX1_areOne_57 : decode cX1_areOne 57 = .ok (.ifCond .eq 17, 3) := by decide +kernel
theorem dX1_areOne_60 : decode cX1_areOne 60 = .ok (.aload_n 0, 1) := by decide +kernel
theorem dX1_areOne_61 : decode cX1_areOne 61 = .ok (.aload_n 1, 1) := by decide +kernel
theorem dX1_areOne_62 : decode cX1_areOne 62 = .ok (.iload 4, 2) := by decide +kernel
theorem dX1_areOne_64 : decode cX1_areOne 64 = .ok (.iload 5, 2) := by decide +kernel
theorem dX1_areOne_66 : decode cX1_areOne 66 = .ok (.invokevirtual 63, 3) := by decide +kernel
theorem dX1_areOne_69 : decode cX1_areOne 69 = .ok (.ifCond .ne 5, 3) := by decide +kernel
theorem dX1_areOne_72 : decode cX1_areOne 72 = .ok (.iconst 0, 1) := by decide +kernel
theorem dX1_areOne_73 : decode cX1_areOne 73 = .ok (.ireturn, 1) := by decide +kernel
theorem dX1_areOne_74 : decode cX1_areOne 74 = .ok (.iinc 5 1, 3) := by decide +kernel
theorem dX1_areOne_77 : decode cX1_areOne 77 = .ok (.goto (-35), 3) := by decide +kernel
theorem dX1_areOne_80 : decode cX1_areOne 80 = .ok (.iinc 4 1, 3) := by decide +kernel
theorem dX1_areOne_83 : decode cX1_areOne 83 = .ok (.goto (-78), 3) := by decide +kernel
theorem dX1_areOne_86 : decode cX1_areOne 86 = .ok (.iload_n 3, 1) := by decide +kernel
theorem dX1_areOne_87 : decode cX1_areOne 87 = .ok (.ifCond .ne 10, 3) := by decide +kernel
theorem dX1_areOne_90 : decode cX1_areOne 90 = .ok (.aload_n 1, 1) := by decide +kernel
theorem dX1_areOne_91 : decode cX1_areOne 91 = .ok (.invokevirtual 67, 3) := by decide +kernel
theorem dX1_areOne_94 : decode cX1_areOne 94 = .ok (.ifCond .ne 7, 3) := by decide +kernel
theorem dX1_areOne_97 : decode cX1_areOne 97 = .ok (.iconst 1, 1) := by decide +kernel
theorem dX1_areOne_98 : decode cX1_areOne 98 = .ok (.goto 4, 3) := by decide +kernel
theorem dX1_areOne_101 : decode cX1_areOne 101 = .ok (.iconst 0, 1) := by decide +kernel
theorem dX1_areOne_102 : decode cX1_areOne 102 = .ok (.ireturn, 1) := by decide +kernel
theorem dX1_putInRow_0 : decode cX1_putInRow 0 = .ok (.iconst 0, 1) := by decide +kernel
theorem dX1_putInRow_1 : decode cX1_putInRow 1 = .ok (.istore_n 3, 1) := by decide +kernel
theorem dX1_putInRow_2 : decode cX1_putInRow 2 = .ok (.iconst 0, 1) := by decide +kernel
theorem dX1_putInRow_3 : decode cX1_putInRow 3 = .ok (.istore 4, 2) := by decide +kernel
theorem dX1_putInRow_5 : decode cX1_putInRow 5 = .ok (.iload 4, 2) := by decide +kernel
theorem dX1_putInRow_7 : decode cX1_putInRow 7 = .ok (.aload_n 0, 1) := by decide +kernel
theorem dX1_putInRow_8 : decode cX1_putInRow 8 = .ok (.getfield 30, 3) := by decide +kernel
theorem dX1_putInRow_11 : decode cX1_putInRow 11 = .ok (.if_icmp .ge 81, 3) := by decide +kernel
theorem dX1_putInRow_14 : decode cX1_putInRow 14 = .ok (.iload_n 3, 1) := by decide +kernel
theorem dX1_putInRow_15 : decode cX1_putInRow 15 = .ok (.aload_n 2, 1) := by decide +kernel
theorem dX1_putInRow_16 : decode cX1_putInRow 16 = .ok (.arraylength, 1) := by decide +kernel
theorem dX1_putInRow_17 : decode cX1_putInRow 17 = .ok (.if_icmp .ge 75, 3) := by decide +kernel
theorem dX1_putInRow_20 : decode cX1_putInRow 20 = .ok (.iload 4, 2) := by decide +kernel
theorem dX1_putInRow_22 : decode cX1_putInRow 22 = .ok (.iload_n 1, 1) := by decide +kernel
theorem dX1_putInRow_23 : decode cX1_putInRow 23 = .ok (.invokestatic 42, 3) := by decide +kernel
theorem dX1_putInRow_26 : decode cX1_putInRow 26 = .ok (.ifCond .ne 6, 3) := by decide +kernel
theorem dX1_putInRow_29 : decode cX1_putInRow 29 = .ok (.goto 57, 3) := by decide +kernel
theorem dX1_putInRow_32 : decode cX1_putInRow 32 = .ok (.iload_n 3, 1) := by decide +kernel
theorem dX1_putInRow_33 : decode cX1_putInRow 33 = .ok (.istore 5, 2) := by decide +kernel
theorem dX1_putInRow_35 : decode cX1_putInRow 35 = .ok (.iload 5, 2) := by decide +kernel
theorem dX1_putInRow_37 : decode cX1_putInRow 37 = .ok (.ifCond .le 40, 3) := by decide +kernel
theorem dX1_putInRow_40 : decode cX1_putInRow 40 = .ok (.aload_n 0, 1) := by decide +kernel
theorem dX1_putInRow_41 : decode cX1_putInRow 41 = .ok (.getfield 15, 3) := by decide +kernel
theorem dX1_putInRow_44 : decode cX1_putInRow 44 = .ok (.aload_n 2, 1) := by decide +kernel
theorem dX1_putInRow_45 : decode cX1_putInRow 45 = .ok (.iload 5, 2) := by decide +kernel
theorem dX1_putInRow_47 : decode cX1_putInRow 47 = .ok (.iconst 1, 1) := by decide +kernel
theorem dX1_putInRow_48 : decode cX1_putInRow 48 = .ok (.isub, 1) := by decide +kernel
theorem dX1_putInRow_49 : decode cX1_putInRow 49 = .ok (.iaload, 1) := by decide +kernel
theorem dX1_putInRow_50 : decode cX1_putInRow 50 = .ok (.iaload, 1) := by decide +kernel
theorem dX1_putInRow_51 : decode cX1_putInRow 51 = .ok (.aload_n 0, 1) := by decide +kernel
theorem dX1_putInRow_52 : decode cX1_putInRow 52 = .ok (.getfield 15, 3) := by decide +kernel
theorem dX1_putInRow_55 : decode cX1_putInRow 55 = .ok (.iload 4, 2) := by decide +kernel
theorem dX1_putInRow_57 : decode cX1_putInRow 57 = .ok (.iaload, 1) := by decide +kernel
theorem dX1_putInRow_58 : decode cX1_putInRow 58 = .ok (.if_icmp .le 19, 3) := by decide +kernel
theorem dX1_putInRow_61 : decode cX1_putInRow 61 = .ok (.aload_n 2, 1) := by decide +kernel
theorem dX1_putInRow_62 : decode cX1_putInRow 62 = .ok (.iload 5, 2) := by decide +kernel
theorem dX1_putInRow_64 : decode cX1_putInRow 64 = .ok (.aload_n 2, 1) := by decide +kernel
theorem dX1_putInRow_65 : decode cX1_putInRow 65 = .ok (.iload 5, 2) := by decide +kernel
theorem dX1_putInRow_67 : decode cX1_putInRow 67 = .ok (.iconst 1, 1) := by decide +kernel
theorem dX1_putInRow_68 : decode cX1_putInRow 68 = .ok (.isub, 1) := by decide +kernel
theorem dX1_putInRow_69 : decode cX1_putInRow 69 = .ok (.iaload, 1) := by decide +kernel
theorem dX1_putInRow_70 : decode cX1_putInRow 70 = .ok (.iastore, 1) := by decide +kernel
theorem dX1_putInRow_71 : decode cX1_putInRow 71 = .ok (.iinc 5 (-1), 3) := by decide +kernel
theorem dX1_putInRow_74 : decode cX1_putInRow 74 = .ok (.goto (-39), 3) := by decide +kernel
theorem dX1_putInRow_77 : decode cX1_putInRow 77 = .ok (.aload_n 2, 1) := by decide +kernel
theorem dX1_putInRow_78 : decode cX1_putInRow 78 = .ok (.iload 5, 2) := by decide +kernel
theorem dX1_putInRow_80 : decode cX1_putInRow 80 = .ok (.iload 4, 2) := by decide +kernel
theorem dX1_putInRow_82 : decode cX1_putInRow 82 = .ok (.iastore, 1) := by decide +kernel
theorem dX1_putInRow_83 : decode cX1_putInRow 83 = .ok (.iinc 3 1, 3) := by decide +kernel
theorem dX1_putInRow_86 : decode cX1_putInRow 86 = .ok (.iinc 4 1, 3) := by decide +kernel
theorem dX1_putInRow_89 : decode cX1_putInRow 89 = .ok (.goto (-84), 3) := by decide +kernel
theorem dX1_putInRow_92 : decode cX1_putInRow 92 = .ok (.iload_n 3, 1) := by decide +kernel
theorem dX1_putInRow_93 : decode cX1_putInRow 93 = .ok (.ireturn, 1) := by decide +kernel
theorem dX2_init_0 : decode cX2_init 0 = .ok (.aload_n 0, 1) := by decide +kernel
theorem dX2_init_1 : decode cX2_init 1 = .ok (.invokespecial 3, 3) := by decide +kernel
theorem dX2_init_4 : decode cX2_init 4 = .ok (.aload_n 0, 1) := by decide +kernel
theorem dX2_init_5 : decode cX2_init 5 = .ok (.sipush 1536, 3) := by decide +kernel
theorem dX2_init_8 : decode cX2_init 8 = .ok (.newarray .int, 2) := by decide +kernel
theorem dX2_init_10 : decode cX2_init 10 = .ok (.putfield 11, 3) := by decide +kernel
theorem dX2_init_13 : decode cX2_init 13 = .ok (.aload_n 0, 1) := by decide +kernel
theorem dX2_init_14 : decode cX2_init 14 = .ok (.bipush 6, 2) := by decide +kernel
theorem dX2_init_16 : decode cX2_init 16 = .ok (.newarray .int, 2) := by decide +kernel
theorem dX2_init_18 : decode cX2_init 18 = .ok (.putfield 17, 3) := by decide +kernel
theorem dX2_init_21 : decode cX2_init 21 = .ok (.aload_n 0, 1) := by decide +kernel
theorem dX2_init_22 : decode cX2_init 22 = .ok (.bipush 6, 2) := by decide +kernel
theorem dX2_init_24 : decode cX2_init 24 = .ok (.newarray .int, 2) := by decide +kernel
theorem dX2_init_26 : decode cX2_init 26 = .ok (.putfield 20, 3) := by decide +kernel
theorem dX2_init_29 : decode cX2_init 29 = .ok (.aload_n 0, 1) := by decide +kernel
theorem dX2_init_30 : decode cX2_init 30 = .ok (.bipush 78, 2) := by decide +kernel
theorem dX2_init_32 : decode cX2_init 32 = .ok (.newarray .int, 2) := by decide +kernel
theorem dX2_init_34 : decode cX2_init 34 = .ok (.putfield 23, 3) := by decide +kernel
theorem dX2_init_37 : decode cX2_init 37 = .ok (.aload_n 0, 1) := by decide +kernel
theorem dX2_init_38 : decode cX2_init 38 = .ok (.bipush 6, 2) := by decide +kernel
theorem dX2_init_40 : decode cX2_init 40 = .ok (.anewarray 26, 3) := by decide +kernel
theorem dX2_init_43 : decode cX2_init 43 = .ok (.putfield 28, 3) := by decide +kernel
theorem dX2_init_46 : decode cX2_init 46 = .ok (.aload_n 0, 1) := by decide +kernel
theorem dX2_init_47 : decode cX2_init 47 = .ok (.iconst 0, 1) := by decide +kernel
theorem dX2_init_48 : decode cX2_init 48 = .ok (.putfield 32, 3) := by decide +kernel
theorem dX2_init_51 : decode cX2_init 51 = .ok (.return_, 1) := by decide +kernel
theorem dX2_clear_0 : decode cX2_clear 0 = .ok (.aload_n 0, 1) := by decide +kernel
theorem dX2_clear_1 : decode cX2_clear 1 = .ok (.iconst 0, 1) := by decide +kernel
theorem dX2_clear_2 : decode cX2_clear 2 = .ok (.putfield 32, 3) := by decide +kernel
theorem dX2_clear_5 : decode cX2_clear 5 = .ok (.return_, 1) := by decide +kernel
theorem dX2_isEmpty_0 : decode cX2_isEmpty 0 = .ok (.aload_n 0, 1) := by decide +kernel
theorem dX2_isEmpty_1 : decode cX2_isEmpty 1 = .ok (.getfield 32, 3) := by decide +kernel
theorem dX2_isEmpty_4 : decode cX2_isEmpty 4 = .ok (.ifCond .ne 7, 3) := by decide +kernel
theorem dX2_isEmpty_7 : decode cX2_isEmpty 7 = .ok (.iconst 1, 1) := by decide +kernel
theorem dX2_isEmpty_8 : decode cX2_isEmpty 8 = .ok (.goto 4, 3) := by decide +kernel
theorem dX2_isEmpty_11 : decode cX2_isEmpty 11 = .ok (.iconst 0, 1) := by decide +kernel
theorem dX2_isEmpty_12 : decode cX2_isEmpty 12 = .ok (.ireturn, 1) := by decide +kernel
theorem dX2_join_0 : decode cX2_join 0 = .ok (.aload_n 0, 1) := by decide +kernel
theorem dX2_join_1 : decode cX2_join 1 = .ok (.getfield 32, 3) := by decide +kernel
theorem dX2_join_4 : decode cX2_join 4 = .ok (.bipush 6, 2) := by decide +kernel
theorem dX2_join_6 : decode cX2_join 6 = .ok (.if_icmp .ge 62, 3) := by decide +kernel
theorem dX2_join_9 : decode cX2_join 9 = .ok (.aload_n 0, 1) := by decide +kernel
theorem dX2_join_10 : decode cX2_join 10 = .ok (.getfield 28, 3) := by decide +kernel
theorem dX2_join_13 : decode cX2_join 13 = .ok (.aload_n 0, 1) := by decide +kernel
theorem dX2_join_14 : decode cX2_join 14 = .ok (.getfield 32, 3) := by decide +kernel
theorem dX2_join_17 : decode cX2_join 17 = .ok (.aload_n 1, 1) := by decide +kernel
theorem dX2_join_18 : decode cX2_join 18 = .ok (.aastore, 1) := by decide +kernel
theorem dX2_join_19 : decode cX2_join 19 = .ok (.aload_n 0, 1) := by decide +kernel
theorem dX2_join_20 : decode cX2_join 20 = .ok (.getfield 17, 3) := by decide +kernel
theorem dX2_join_23 : decode cX2_join 23 = .ok (.aload_n 0, 1) := by decide +kernel
theorem dX2_join_24 : decode cX2_join 24 = .ok (.getfield 32, 3) := by decide +kernel
theorem dX2_join_27 : decode cX2_join 27 = .ok (.aload_n 1, 1) := by decide +kernel
theorem dX2_join_28 : decode cX2_join 28 = .ok (.getfield 36, 3) := by decide +kernel
theorem dX2_join_31 : decode cX2_join 31 = .ok (.bipush 7, 2) := by decide +kernel
theorem dX2_join_33 : decode cX2_join 33 = .ok (.iaload, 1) := by decide +kernel
theorem dX2_join_34 : decode cX2_join 34 = .ok (.iastore, 1) := by decide +kernel
theorem dX2_join_35 : decode cX2_join 35 = .ok (.aload_n 0, 1) := by decide +kernel
theorem dX2_join_36 : decode cX2_join 36 = .ok (.getfield 20, 3) := by decide +kernel
theorem dX2_join_39 : decode cX2_join 39 = .ok (.aload_n 0, 1) := by decide +kernel
theorem dX2_join_40 : decode cX2_join 40 = .ok (.getfield 32, 3) := by decide +kernel
theorem dX2_join_43 : decode cX2_join 43 = .ok (.aload_n 1, 1) := by decide +kernel
theorem dX2_join_44 : decode cX2_join 44 = .ok (.invokevirtual 39, 3) := by decide +kernel
theorem dX2_join_47 : decode cX2_join 47 = .ok (.iastore, 1) := by decide +kernel
theorem dX2_join_48 : decode cX2_join 48 = .ok (.aload_n 0, 1) := by decide +kernel
theorem dX2_join_49 : decode cX2_join 49 = .ok (.getfield 23, 3) := by decide +kernel
theorem dX2_join_52 : decode cX2_join 52 = .ok (.aload_n 0, 1) := by decide +kernel
theorem dX2_join_53 : decode cX2_join 53 = .ok (.getfield 32, 3) := by decide +kernel
theorem dX2_join_56 : decode cX2_join 56 = .ok (.iconst 0, 1) := by decide +kernel
theorem dX2_join_57 : decode cX2_join 57 = .ok (.iastore, 1) := by decide +kernel
theorem dX2_join_58 : decode cX2_join 58 = .ok (.aload_n 0, 1) := by decide +kernel
theorem dX2_join_59 : decode cX2_join 59 = .ok (.dup, 1) := by decide +kernel
theorem dX2_join_60 : decode cX2_join 60 = .ok (.getfield 32, 3) := by decide +kernel
theorem dX2_join_63 : decode cX2_join 63 = .ok (.iconst 1, 1) := by decide +kernel
theorem dX2_join_64 : decode cX2_join 64 = .ok (.iadd, 1) := by decide +kernel
theorem dX2_join_65 : decode cX2_join 65 = .ok (.putfield 32, 3) := by decide +kernel
theorem dX2_join_68 : decode cX2_join 68 = .ok (.return_, 1) := by decide +kernel
theorem dX2_price_0 : decode cX2_price 0 = .ok (.iconst 0, 1) := by decide +kernel
theorem dX2_price_1 : decode cX2_price 1 = .ok (.istore_n 3, 1) := by decide +kernel
theorem dX2_price_2 : decode cX2_price 2 = .ok (.iload_n 3, 1) := by decide +kernel
theorem dX2_price_3 : decode cX2_price 3 = .ok (.aload_n 0, 1) := by decide +kernel
theorem dX2_price_4 : decode cX2_price 4 = .ok (.getfield 32, 3) := by decide +kernel
theorem dX2_price_7 : decode cX2_price 7 = .ok (.if_icmp .ge 40, 3) := by decide +kernel
theorem dX2_price_10 : decode cX2_price 10 = .ok (.aload_n 0, 1) := by decide +kernel
theorem dX2_price_11 : decode cX2_price 11 = .ok (.getfield 28, 3) := by decide +kernel
theorem dX2_price_14 : decode cX2_price 14 = .ok (.iload_n 3, 1) := by decide +kernel
theorem dX2_price_15 : decode cX2_price 15 = .ok (.aaload, 1) := by decide +kernel
theorem dX2_price_16 : decode cX2_price 16 = .ok (.astore 4, 2) := by decide +kernel
theorem dX2_price_18 : decode cX2_price 18 = .ok (.aload 4, 2) := by decide +kernel
theorem dX2_price_20 : decode cX2_price 20 = .ok (.ifnull 21, 3) := by decide +kernel
theorem dX2_price_23 : decode cX2_price 23 = .ok (.aload_n 0, 1) := by decide +kernel
theorem dX2_price_24 : decode cX2_price 24 = .ok (.getfield 11, 3) := by decide +kernel
theorem dX2_price_27 : decode cX2_price 27 = .ok (.iload_n 3, 1) := by decide +kernel
theorem dX2_price_28 : decode cX2_price 28 = .ok (.sipush 256, 3) := by decide +kernel
theorem dX2_price_31 : decode cX2_price 31 = .ok (.imul, 1) := by decide +kernel
theorem dX2_price_32 : decode cX2_price 32 = .ok (.iload_n 1, 1) := by decide +kernel
theorem dX2_price_33 : decode cX2_price 33 = .ok (.iadd, 1) := by decide +kernel
theorem dX2_price_34 : decode cX2_price 34 = .ok (.aload 4, 2) := by decide +kernel
theorem dX2_price_36 : decode cX2_price 36 = .ok (.iload_n 2, 1) := by decide +kernel
theorem dX2_price_37 : decode cX2_price 37 = .ok (.invokevirtual 43, 3) := by decide +kernel
theorem dX2_price_40 : decode cX2_price 40 = .ok (.iastore, 1) := by decide +kernel
theorem dX2_price_41 : decode cX2_price 41 = .ok (.iinc 3 1, 3) := by decide +kernel
theorem dX2_price_44 : decode cX2_price 44 = .ok (.goto (-42), 3) := by decide +kernel
theorem dX2_price_47 : decode cX2_price 47 = .ok (.return_, 1) := by decide +kernel
theorem dX2_bringFor_0 : decode cX2_bringFor 0 = .ok (.iconst 0, 1) := by decide +kernel
theorem dX2_bringFor_1 : decode cX2_bringFor 1 = .ok (.istore_n 3, 1) := by decide +kernel
theorem dX2_bringFor_2 : decode cX2_bringFor 2 = .ok (.iconst 0, 1) := by decide +kernel
theorem dX2_bringFor_3 : decode cX2_bringFor 3 = .ok (.istore 4, 2) := by decide +kernel
theorem dX2_bringFor_5 : decode cX2_bringFor 5 = .ok (.iload 4, 2) := by decide +kernel
theorem dX2_bringFor_7 : decode cX2_bringFor 7 = .ok (.aload_n 0, 1) := by decide +kernel
theorem dX2_bringFor_8 : decode cX2_bringFor 8 = .ok (.getfield 32, 3) := by decide +kernel
theorem dX2_bringFor_11 : decode cX2_bringFor 11 = .ok (.if_icmp .ge 95, 3) := by decide +kernel
theorem dX2_bringFor_14 : decode cX2_bringFor 14 = .ok (.aload_n 0, 1) := by decide +kernel
theorem dX2_bringFor_15 : decode cX2_bringFor 15 = .ok (.getfield 23, 3) := by decide +kernel
theorem dX2_bringFor_18 : decode cX2_bringFor 18 = .ok (.iload_n 2, 1) := by decide +kernel
theorem dX2_bringFor_19 : decode cX2_bringFor 19 = .ok (.bipush 6, 2) := by decide +kernel
theorem dX2_bringFor_21 : decode cX2_bringFor 21 = .ok (.imul, 1) := by decide +kernel
theorem dX2_bringFor_22 : decode cX2_bringFor 22 = .ok (.iload 4, 2) := by decide +kernel
theorem dX2_bringFor_24 : decode cX2_bringFor 24 = .ok (.iadd, 1) := by decide +kernel
theorem dX2_bringFor_25 : decode cX2_bringFor 25 = .ok (.iaload, 1) := by decide +kernel
theorem dX2_bringFor_26 : decode cX2_bringFor 26 = .ok (.istore 5, 2) := by decide +kernel
theorem dX2_bringFor_28 : decode cX2_bringFor 28 = .ok (.iload 5, 2) := by decide +kernel
theorem dX2_bringFor_30 : decode cX2_bringFor 30 = .ok (.aload_n 0, 1) := by decide +kernel
theorem dX2_bringFor_31 : decode cX2_bringFor 31 = .ok (.getfield 17, 3) := by decide +kernel
theorem dX2_bringFor_34 : decode cX2_bringFor 34 = .ok (.iload 4, 2) := by decide +kernel
theorem dX2_bringFor_36 : decode cX2_bringFor 36 = .ok (.iaload, 1) := by decide +kernel
theorem dX2_bringFor_37 : decode cX2_bringFor 37 = .ok (.if_icmp .ge 19, 3) := by decide +kernel
theorem dX2_bringFor_40 : decode cX2_bringFor 40 = .ok (.aload_n 0, 1) := by decide +kernel
theorem dX2_bringFor_41 : decode cX2_bringFor 41 = .ok (.getfield 11, 3) := by decide +kernel
theorem dX2_bringFor_44 : decode cX2_bringFor 44 = .ok (.iload 4, 2) := by decide +kernel
theorem dX2_bringFor_46 : decode cX2_bringFor 46 = .ok (.sipush 256, 3) := by decide +kernel
theorem dX2_bringFor_49 : decode cX2_bringFor 49 = .ok (.imul, 1) := by decide +kernel
theorem dX2_bringFor_50 : decode cX2_bringFor 50 = .ok (.iload_n 1, 1) := by decide +kernel
theorem dX2_bringFor_51 : decode cX2_bringFor 51 = .ok (.iadd, 1) := by decide +kernel
theorem dX2_bringFor_52 : decode cX2_bringFor 52 = .ok (.iaload, 1) := by decide +kernel
theorem dX2_bringFor_53 : decode cX2_bringFor 53 = .ok (.goto 4, 3) := by decide +kernel
theorem dX2_bringFor_56 : decode cX2_bringFor 56 = .ok (.iconst 0, 1) := by decide +kernel
theorem dX2_bringFor_57 : decode cX2_bringFor 57 = .ok (.istore 6, 2) := by decide +kernel
theorem dX2_bringFor_59 : decode cX2_bringFor 59 = .ok (.aload_n 0, 1) := by decide +kernel
theorem dX2_bringFor_60 : decode cX2_bringFor 60 = .ok (.getfield 23, 3) := by decide +kernel
theorem dX2_bringFor_63 : decode cX2_bringFor 63 = .ok (.iload_n 2, 1) := by decide +kernel
theorem dX2_bringFor_64 : decode cX2_bringFor 64 = .ok (.iconst 1, 1) := by decide +kernel
theorem dX2_bringFor_65 : decode cX2_bringFor 65 = .ok (.iadd, 1) := by decide +kernel
theorem dX2_bringFor_66 : decode cX2_bringFor 66 = .ok (.bipush 6, 2) := by decide +kernel
theorem dX2_bringFor_68 : decode cX2_bringFor 68 = .ok (.imul, 1) := by decide +kernel
theorem dX2_bringFor_69 : decode cX2_bringFor 69 = .ok (.iload 4, 2) := by decide +kernel
theorem dX2_bringFor_71 : decode cX2_bringFor 71 = .ok (.iadd, 1) := by decide +kernel
theorem dX2_bringFor_72 : decode cX2_bringFor 72 = .ok (.iload 6, 2) := by decide +kernel
theorem dX2_bringFor_74 : decode cX2_bringFor 74 = .ok (.ifCond .le 10, 3) := by decide +kernel
theorem dX2_bringFor_77 : decode cX2_bringFor 77 = .ok (.iload 5, 2) := by decide +kernel
theorem dX2_bringFor_79 : decode cX2_bringFor 79 = .ok (.iconst 1, 1) := by decide +kernel
theorem dX2_bringFor_80 : decode cX2_bringFor 80 = .ok (.iadd, 1) := by decide +kernel
theorem dX2_bringFor_81 : decode cX2_bringFor 81 = .ok (.goto 5, 3) := by decide +kernel
theorem dX2_bringFor_84 : decode cX2_bringFor 84 = .ok (.iload 5, 2) := by decide +kernel
theorem dX2_bringFor_86 : decode cX2_bringFor 86 = .ok (.iastore, 1) := by decide +kernel
theorem dX2_bringFor_87 : decode cX2_bringFor 87 = .ok (.iload_n 3, 1) := by decide +kernel
theorem dX2_bringFor_88 : decode cX2_bringFor 88 = .ok (.iload 6, 2) := by decide +kernel
theorem dX2_bringFor_90 : decode cX2_bringFor 90 = .ok (.aload_n 0, 1) := by decide +kernel
theorem dX2_bringFor_91 : decode cX2_bringFor 91 = .ok (.getfield 20, 3) := by decide +kernel
theorem dX2_bringFor_94 : decode cX2_bringFor 94 = .ok (.iload 4, 2) := by decide +kernel
theorem dX2_bringFor_96 : decode cX2_bringFor 96 = .ok (.iaload, 1) := by decide +kernel
theorem dX2_bringFor_97 : decode cX2_bringFor 97 = .ok (.imul, 1) := by decide +kernel
theorem dX2_bringFor_98 : decode cX2_bringFor 98 = .ok (.iadd, 1) := by decide +kernel
theorem dX2_bringFor_99 : decode cX2_bringFor 99 = .ok (.istore_n 3, 1) := by decide +kernel
theorem dX2_bringFor_100 : decode cX2_bringFor 100 = .ok (.iinc 4 1, 3) := by decide +kernel
theorem dX2_bringFor_103 : decode cX2_bringFor 103 = .ok (.goto (-98), 3) := by decide +kernel
theorem dX2_bringFor_106 : decode cX2_bringFor 106 = .ok (.iload_n 3, 1) := by decide +kernel
theorem dX2_bringFor_107 : decode cX2_bringFor 107 = .ok (.ireturn, 1) := by decide +kernel
theorem dX3_init_0 : decode cX3_init 0 = .ok (.aload_n 0, 1) := by decide +kernel
theorem dX3_init_1 : decode cX3_init 1 = .ok (.invokespecial 3, 3) := by decide +kernel
theorem dX3_init_4 : decode cX3_init 4 = .ok (.aload_n 0, 1) := by decide +kernel
theorem dX3_init_5 : decode cX3_init 5 = .ok (.aload_n 1, 1) := by decide +kernel
theorem dX3_init_6 : decode cX3_init 6 = .ok (.putfield 9, 3) := by decide +kernel
theorem dX3_init_9 : decode cX3_init 9 = .ok (.aload_n 0, 1) := by decide +kernel
theorem dX3_init_10 : decode cX3_init 10 = .ok (.new 15, 3) := by decide +kernel
theorem dX3_init_13 : decode cX3_init 13 = .ok (.dup, 1) := by decide +kernel
theorem dX3_init_14 : decode cX3_init 14 = .ok (.invokespecial 17, 3) := by decide +kernel
theorem dX3_init_17 : decode cX3_init 17 = .ok (.putfield 18, 3) := by decide +kernel
theorem dX3_init_20 : decode cX3_init 20 = .ok (.aload_n 0, 1) := by decide +kernel
theorem dX3_init_21 : decode cX3_init 21 = .ok (.new 22, 3) := by decide +kernel
theorem dX3_init_24 : decode cX3_init 24 = .ok (.dup, 1) := by decide +kernel
theorem dX3_init_25 : decode cX3_init 25 = .ok (.invokespecial 24, 3) := by decide +kernel
theorem dX3_init_28 : decode cX3_init 28 = .ok (.putfield 25, 3) := by decide +kernel
theorem dX3_init_31 : decode cX3_init 31 = .ok (.aload_n 0, 1) := by decide +kernel
theorem dX3_init_32 : decode cX3_init 32 = .ok (.bipush 12, 2) := by decide +kernel
theorem dX3_init_34 : decode cX3_init 34 = .ok (.newarray .int, 2) := by decide +kernel
theorem dX3_init_36 : decode cX3_init 36 = .ok (.putfield 29, 3) := by decide +kernel
theorem dX3_init_39 : decode cX3_init 39 = .ok (.aload_n 0, 1) := by decide +kernel
theorem dX3_init_40 : decode cX3_init 40 = .ok (.bipush 12, 2) := by decide +kernel
theorem dX3_init_42 : decode cX3_init 42 = .ok (.newarray .int, 2) := by decide +kernel
theorem dX3_init_44 : decode cX3_init 44 = .ok (.putfield 33, 3) := by decide +kernel
theorem dX3_init_47 : decode cX3_init 47 = .ok (.aload_n 0, 1) := by decide +kernel
theorem dX3_init_48 : decode cX3_init 48 = .ok (.sipush 256, 3) := by decide +kernel
theorem dX3_init_51 : decode cX3_init 51 = .ok (.newarray .int, 2) := by decide +kernel
theorem dX3_init_53 : decode cX3_init 53 = .ok (.putfield 36, 3) := by decide +kernel
theorem dX3_init_56 : decode cX3_init 56 = .ok (.aload_n 0, 1) := by decide +kernel
theorem dX3_init_57 : decode cX3_init 57 = .ok (.bipush 13, 2) := by decide +kernel
theorem dX3_init_59 : decode cX3_init 59 = .ok (.newarray .int, 2) := by decide +kernel
theorem dX3_init_61 : decode cX3_init 61 = .ok (.putfield 39, 3) := by decide +kernel
theorem dX3_init_64 : decode cX3_init 64 = .ok (.return_, 1) := by decide +kernel
theorem dX3_isToldFor_0 : decode cX3_isToldFor 0 = .ok (.aload_n 0, 1) := by decide +kernel
theorem dX3_isToldFor_1 : decode cX3_isToldFor 1 = .ok (.invokevirtual 42, 3) := by decide +kernel
theorem dX3_isToldFor_4 : decode cX3_isToldFor 4 = .ok (.ifCond .eq 12, 3) := by decide +kernel
theorem dX3_isToldFor_7 : decode cX3_isToldFor 7 = .ok (.iload_n 1, 1) := by decide +kernel
theorem dX3_isToldFor_8 : decode cX3_isToldFor 8 = .ok (.invokestatic 46, 3) := by decide +kernel
theorem dX3_isToldFor_11 : decode cX3_isToldFor 11 = .ok (.bipush 8, 2) := by decide +kernel
theorem dX3_isToldFor_13 : decode cX3_isToldFor 13 = .ok (.if_icmp .gt 7, 3) := by decide +kernel
theorem dX3_isToldFor_16 : decode cX3_isToldFor 16 = .ok (.iconst 1, 1) := by decide +kernel
theorem dX3_isToldFor_17 : decode cX3_isToldFor 17 = .ok (.goto 4, 3) := by decide +kernel
theorem dX3_isToldFor_20 : decode cX3_isToldFor 20 = .ok (.iconst 0, 1) := by decide +kernel
theorem dX3_isToldFor_21 : decode cX3_isToldFor 21 = .ok (.ireturn, 1) := by decide +kernel
theorem dX3_findFor_0 : decode cX3_findFor 0 = .ok (.aload_n 0, 1) := by decide +kernel
theorem dX3_findFor_1 : decode cX3_findFor 1 = .ok (.invokevirtual 52, 3) := by decide +kernel
theorem dX3_findFor_4 : decode cX3_findFor 4 = .ok (.aload_n 0, 1) := by decide +kernel
theorem dX3_findFor_5 : decode cX3_findFor 5 = .ok (.aload_n 1, 1) := by decide +kernel
theorem dX3_findFor_6 : decode cX3_findFor 6 = .ok (.invokevirtual 55, 3) := by decide +kernel
theorem dX3_findFor_9 : decode cX3_findFor 9 = .ok (.aload_n 0, 1) := by decide +kernel
theorem dX3_findFor_10 : decode cX3_findFor 10 = .ok (.iload_n 2, 1) := by decide +kernel
theorem dX3_findFor_11 : decode cX3_findFor 11 = .ok (.invokevirtual 59, 3) := by decide +kernel
theorem dX3_findFor_14 : decode cX3_findFor 14 = .ok (.ireturn, 1) := by decide +kernel
theorem dX3_startJoining_0 : decode cX3_startJoining 0 = .ok (.aload_n 0, 1) := by decide +kernel
theorem dX3_startJoining_1 : decode cX3_startJoining 1 = .ok (.getfield 25, 3) := by decide +kernel
theorem dX3_startJoining_4 : decode cX3_startJoining 4 = .ok (.invokevirtual 63, 3) := by decide +kernel
theorem dX3_startJoining_7 : decode cX3_startJoining 7 = .ok (.return_, 1) := by decide +kernel
theorem dX3_join_0 : decode cX3_join 0 = .ok (.aload_n 0, 1) := by decide +kernel
theorem dX3_join_1 : decode cX3_join 1 = .ok (.getfield 25, 3) := by decide +kernel
theorem dX3_join_4 : decode cX3_join 4 = .ok (.invokevirtual 66, 3) := by decide +kernel
theorem dX3_join_7 : decode cX3_join 7 = .ok (.ifCond .eq 14, 3) := by decide +kernel
theorem dX3_join_10 : decode cX3_join 10 = .ok (.aload_n 0, 1) := by decide +kernel
theorem dX3_join_11 : decode cX3_join 11 = .ok (.getfield 18, 3) := by decide +kernel
theorem dX3_join_14 : decode cX3_join 14 = .ok (.aload_n 1, 1) := by decide +kernel
theorem dX3_join_15 : decode cX3_join 15 = .ok (.invokevirtual 69, 3) := by decide +kernel
theorem dX3_join_18 : decode cX3_join 18 = .ok (.goto 11, 3) := by decide +kernel
theorem dX3_join_21 : decode cX3_join 21 = .ok (.aload_n 0, 1) := by decide +kernel
theorem dX3_join_22 : decode cX3_join 22 = .ok (.getfield 18, 3) := by decide +kernel
theorem dX3_join_25 : decode cX3_join 25 = .ok (.aload_n 1, 1) := by decide +kernel
theorem dX3_join_26 : decode cX3_join 26 = .ok (.invokevirtual 72, 3) := by decide +kernel
theorem dX3_join_29 : decode cX3_join 29 = .ok (.aload_n 0, 1) := by decide +kernel
theorem dX3_join_30 : decode cX3_join 30 = .ok (.getfield 25, 3) := by decide +kernel
theorem dX3_join_33 : decode cX3_join 33 = .ok (.aload_n 1, 1) := by decide +kernel
theorem dX3_join_34 : decode cX3_join 34 = .ok (.invokevirtual 75, 3) := by decide +kernel
theorem dX3_join_37 : decode cX3_join 37 = .ok (.return_, 1) := by decide +kernel
theorem dX3_findForJoined_0 : decode cX3_findForJoined 0 = .ok (.aload_n 0, 1) := by decide +kernel
theorem dX3_findForJoined_1 : decode cX3_findForJoined 1 = .ok (.iconst 0, 1) := by decide +kernel
theorem dX3_findForJoined_2 : decode cX3_findForJoined 2 = .ok (.putfield 76, 3) := by decide +kernel
theorem dX3_findForJoined_5 : decode cX3_findForJoined 5 = .ok (.aload_n 0, 1) := by decide +kernel
theorem dX3_findForJoined_6 : decode cX3_findForJoined 6 = .ok (.getfield 25, 3) := by decide +kernel
theorem dX3_findForJoined_9 : decode cX3_findForJoined 9 = .ok (.invokevirtual 66, 3) := by decide +kernel
theorem dX3_findForJoined_12 : decode cX3_findForJoined 12 = .ok (.ifCond .ne 25, 3) := by decide +kernel
theorem dX3_findForJoined_15 : decode cX3_findForJoined 15 = .ok (.aload_n 0, 1) := by decide +kernel
theorem dX3_findForJoined_16 : decode cX3_findForJoined 16 = .ok (.getfield 9, 3) := by decide +kernel
theorem dX3_findForJoined_19 : decode cX3_findForJoined 19 = .ok (.iload_n 1, 1) := by decide +kernel
theorem dX3_findForJoined_20 : decode cX3_findForJoined 20 = .ok (.invokevirtual 80, 3) := by decide +kernel
theorem dX3_findForJoined_23 : decode cX3_findForJoined 23 = .ok (.ifCond .eq 14, 3) := by decide +kernel
theorem dX3_findForJoined_26 : decode cX3_findForJoined 26 = .ok (.aload_n 0, 1) := by decide +kernel
theorem dX3_findForJoined_27 : decode cX3_findForJoined 27 = .ok (.getfield 18, 3) := by decide +kernel
theorem dX3_findForJoined_30 : decode cX3_findForJoined 30 = .ok (.iload_n 1, 1) := by decide +kernel
theorem dX3_findForJoined_31 : decode cX3_findForJoined 31 = .ok (.invokestatic 85, 3) := by decide +kernel
theorem dX3_findForJoined_34 : decode cX3_findForJoined 34 = .ok (.ifCond .ne 5, 3) := by decide +kernel
theorem dX3_findForJoined_37 : decode cX3_findForJoined 37 = .ok (.iconst 0, 1) := by decide +kernel
theorem dX3_findForJoined_38 : decode cX3_findForJoined 38 = .ok (.ireturn, 1) := by decide +kernel
theorem dX3_findForJoined_39 : decode cX3_findForJoined 39 = .ok (.aload_n 0, 1) := by decide +kernel
theorem dX3_findForJoined_40 : decode cX3_findForJoined 40 = .ok (.aload_n 0, 1) := by decide +kernel
theorem dX3_findForJoined_41 : decode cX3_findForJoined 41 = .ok (.getfield 9, 3) := by decide +kernel
theorem dX3_findForJoined_44 : decode cX3_findForJoined 44 = .ok (.iload_n 1, 1) := by decide +kernel
theorem dX3_findForJoined_45 : decode cX3_findForJoined 45 = .ok (.aload_n 0, 1) := by decide +kernel
theorem dX3_findForJoined_46 : decode cX3_findForJoined 46 = .ok (.getfield 29, 3) := by decide +kernel
theorem dX3_findForJoined_49 : decode cX3_findForJoined 49 = .ok (.invokevirtual 89, 3) := by decide +kernel
theorem dX3_findForJoined_52 : decode cX3_findForJoined 52 = .ok (.putfield 93, 3) := by decide +kernel
theorem dX3_findForJoined_55 : decode cX3_findForJoined 55 = .ok (.aload_n 0, 1) := by decide +kernel
theorem dX3_findForJoined_56 : decode cX3_findForJoined 56 = .ok (.invokevirtual 97, 3) := by decide +kernel
theorem dX3_findForJoined_59 : decode cX3_findForJoined 59 = .ok (.aload_n 0, 1) := by decide +kernel
theorem dX3_findForJoined_60 : decode cX3_findForJoined 60 = .ok (.iconst 0, 1) := by decide +kernel
theorem dX3_findForJoined_61 : decode cX3_findForJoined 61 = .ok (.putfield 100, 3) := by decide +kernel
theorem dX3_findForJoined_64 : decode cX3_findForJoined 64 = .ok (.iconst 0, 1) := by decide +kernel
theorem dX3_findForJoined_65 : decode cX3_findForJoined 65 = .ok (.istore_n 2, 1) := by decide +kernel
theorem dX3_findForJoined_66 : decode cX3_findForJoined 66 = .ok (.iload_n 2, 1) := by decide +kernel
theorem dX3_findForJoined_67 : decode cX3_findForJoined 67 = .ok (.aload_n 0, 1) := by decide +kernel
theorem dX3_findForJoined_68 : decode cX3_findForJoined 68 = .ok (.getfield 93, 3) := by decide +kernel
theorem dX3_findForJoined_71 : decode cX3_findForJoined 71 = .ok (.if_icmp .ge 42, 3) := by decide +kernel
theorem dX3_findForJoined_74 : decode cX3_findForJoined 74 = .ok (.aload_n 0, 1) := by decide +kernel
theorem dX3_findForJoined_75 : decode cX3_findForJoined 75 = .ok (.getfield 39, 3) := by decide +kernel
theorem dX3_findForJoined_78 : decode cX3_findForJoined 78 = .ok (.iload_n 2, 1) := by decide +kernel
theorem dX3_findForJoined_79 : decode cX3_findForJoined 79 = .ok (.aload_n 0, 1) := by decide +kernel
theorem dX3_findForJoined_80 : decode cX3_findForJoined 80 = .ok (.getfield 100, 3) := by decide +kernel
theorem dX3_findForJoined_83 : decode cX3_findForJoined 83 = .ok (.iastore, 1) := by decide +kernel
theorem dX3_findForJoined_84 : decode cX3_findForJoined 84 = .ok (.aload_n 0, 1) := by decide +kernel
theorem dX3_findForJoined_85 : decode cX3_findForJoined 85 = .ok (.getfield 18, 3) := by decide +kernel
theorem dX3_findForJoined_88 : decode cX3_findForJoined 88 = .ok (.invokevirtual 42, 3) := by decide +kernel
theorem dX3_findForJoined_91 : decode cX3_findForJoined 91 = .ok (.ifCond .eq 11, 3) := by decide +kernel
theorem dX3_findForJoined_94 : decode cX3_findForJoined 94 = .ok (.aload_n 0, 1) := by decide +kernel
theorem dX3_findForJoined_95 : decode cX3_findForJoined 95 = .ok (.iload_n 2, 1) := by decide +kernel
theorem dX3_findForJoined_96 : decode cX3_findForJoined 96 = .ok (.invokevirtual 103, 3) := by decide +kernel
theorem dX3_findForJoined_99 : decode cX3_findForJoined 99 = .ok (.goto 8, 3) := by decide +kernel
theorem dX3_findForJoined_102 : decode cX3_findForJoined 102 = .ok (.aload_n 0, 1) := by decide +kernel
theorem dX3_findForJoined_103 : decode cX3_findForJoined 103 = .ok (.iload_n 2, 1) := by decide +kernel
theorem dX3_findForJoined_104 : decode cX3_findForJoined 104 = .ok (.invokevirtual 107, 3) := by decide +kernel
theorem dX3_findForJoined_107 : decode cX3_findForJoined 107 = .ok (.iinc 2 1, 3) := by decide +kernel
theorem dX3_findForJoined_110 : decode cX3_findForJoined 110 = .ok (.goto (-44), 3) := by decide +kernel
theorem dX3_findForJoined_113 : decode cX3_findForJoined 113 = .ok (.aload_n 0, 1) := by decide +kernel
theorem dX3_findForJoined_114 : decode cX3_findForJoined 114 = .ok (.getfield 39, 3) := by decide +kernel
theorem dX3_findForJoined_117 : decode cX3_findForJoined 117 = .ok (.aload_n 0, 1) := by decide +kernel
theorem dX3_findForJoined_118 : decode cX3_findForJoined 118 = .ok (.getfield 93, 3) := by decide +kernel
theorem dX3_findForJoined_121 : decode cX3_findForJoined 121 = .ok (.aload_n 0, 1) := by decide +kernel
theorem dX3_findForJoined_122 : decode cX3_findForJoined 122 = .ok (.getfield 100, 3) := by decide +kernel
theorem dX3_findForJoined_125 : decode cX3_findForJoined 125 = .ok (.iastore, 1) := by decide +kernel
theorem dX3_findForJoined_126 : decode cX3_findForJoined 126 = .ok (.aload_n 0, 1) := by decide +kernel
theorem dX3_findForJoined_127 : decode cX3_findForJoined 127 = .ok (.invokevirtual 110, 3) := by decide +kernel
theorem dX3_findForJoined_130 : decode cX3_findForJoined 130 = .ok (.aload_n 0, 1) := by decide +kernel
theorem dX3_findForJoined_131 : decode cX3_findForJoined 131 = .ok (.iconst 1, 1) := by decide +kernel
theorem dX3_findForJoined_132 : decode cX3_findForJoined 132 = .ok (.aload_n 0, 1) := by decide +kernel
theorem dX3_findForJoined_133 : decode cX3_findForJoined 133 = .ok (.getfield 93, 3) := by decide +kernel
theorem dX3_findForJoined_136 : decode cX3_findForJoined 136 = .ok (.ishl, 1) := by decide +kernel
theorem dX3_findForJoined_137 : decode cX3_findForJoined 137 = .ok (.iconst 1, 1) := by decide +kernel
theorem dX3_findForJoined_138 : decode cX3_findForJoined 138 = .ok (.isub, 1) := by decide +kernel
theorem dX3_findForJoined_139 : decode cX3_findForJoined 139 = .ok (.iconst 0, 1) := by decide +kernel
theorem dX3_findForJoined_140 : decode cX3_findForJoined 140 = .ok (.iconst 0, 1) := by decide +kernel
theorem dX3_findForJoined_141 : decode cX3_findForJoined 141 = .ok (.invokevirtual 113, 3) := by decide +kernel
theorem dX3_findForJoined_144 : decode cX3_findForJoined 144 = .ok (.aload_n 0, 1) := by decide +kernel
theorem dX3_findForJoined_145 : decode cX3_findForJoined 145 = .ok (.getfield 76, 3) := by decide +kernel
theorem dX3_findForJoined_148 : decode cX3_findForJoined 148 = .ok (.ireturn, 1) := by decide +kernel
theorem dX3_seeWhoIsNear_0 : decode cX3_seeWhoIsNear 0 = .ok (.iconst 0, 1) := by decide +kernel
theorem dX3_seeWhoIsNear_1 : decode cX3_seeWhoIsNear 1 = .ok (.istore_n 1, 1) := by decide +kernel
theorem dX3_seeWhoIsNear_2 : decode cX3_seeWhoIsNear 2 = .ok (.iload_n 1, 1) := by decide +kernel
theorem dX3_seeWhoIsNear_3 : decode cX3_seeWhoIsNear 3 = .ok (.aload_n 0, 1) := by decide +kernel
theorem dX3_seeWhoIsNear_4 : decode cX3_seeWhoIsNear 4 = .ok (.getfield 93, 3) := by decide +kernel
theorem dX3_seeWhoIsNear_7 : decode cX3_seeWhoIsNear 7 = .ok (.if_icmp .ge 70, 3) := by decide +kernel
theorem dX3_seeWhoIsNear_10 : decode cX3_seeWhoIsNear 10 = .ok (.aload_n 0, 1) := by decide +kernel
theorem dX3_seeWhoIsNear_11 : decode cX3_seeWhoIsNear 11 = .ok (.getfield 33, 3) := by decide +kernel
theorem dX3_seeWhoIsNear_14 : decode cX3_seeWhoIsNear 14 = .ok (.iload_n 1, 1) := by decide +kernel
theorem dX3_seeWhoIsNear_15 : decode cX3_seeWhoIsNear 15 = .ok (.iconst 0, 1) := by decide +kernel
theorem dX3_seeWhoIsNear_16 : decode cX3_seeWhoIsNear 16 = .ok (.iastore, 1) := by decide +kernel
theorem dX3_seeWhoIsNear_17 : decode cX3_seeWhoIsNear 17 = .ok (.iconst 0, 1) := by decide +kernel
theorem dX3_seeWhoIsNear_18 : decode cX3_seeWhoIsNear 18 = .ok (.istore_n 2, 1) := by decide +kernel
theorem dX3_seeWhoIsNear_19 : decode cX3_seeWhoIsNear 19 = .ok (.iload_n 2, 1) := by decide +kernel
theorem dX3_seeWhoIsNear_20 : decode cX3_seeWhoIsNear 20 = .ok (.aload_n 0, 1) := by decide +kernel
theorem dX3_seeWhoIsNear_21 : decode cX3_seeWhoIsNear 21 = .ok (.getfield 93, 3) := by decide +kernel
theorem dX3_seeWhoIsNear_24 : decode cX3_seeWhoIsNear 24 = .ok (.if_icmp .ge 47, 3) := by decide +kernel
theorem dX3_seeWhoIsNear_27 : decode cX3_seeWhoIsNear 27 = .ok (.aload_n 0, 1) := by decide +kernel
theorem dX3_seeWhoIsNear_28 : decode cX3_seeWhoIsNear 28 = .ok (.getfield 9, 3) := by decide +kernel
theorem dX3_seeWhoIsNear_31 : decode cX3_seeWhoIsNear 31 = .ok (.aload_n 0, 1) := by decide +kernel
theorem dX3_seeWhoIsNear_32 : decode cX3_seeWhoIsNear 32 = .ok (.getfield 18, 3) := by decide +kernel
theorem dX3_seeWhoIsNear_35 : decode cX3_seeWhoIsNear 35 = .ok (.aload_n 0, 1) := by decide +kernel
theorem dX3_seeWhoIsNear_36 : decode cX3_seeWhoIsNear 36 = .ok (.getfield 29, 3) := by decide +kernel
theorem dX3_seeWhoIsNear_39 : decode cX3_seeWhoIsNear 39 = .ok (.iload_n 1, 1) := by decide +kernel
theorem dX3_seeWhoIsNear_40 : decode cX3_seeWhoIsNear 40 = .ok (.iaload, 1) := by decide +kernel
theorem dX3_seeWhoIsNear_41 : decode cX3_seeWhoIsNear 41 = .ok (.aload_n 0, 1) := by decide +kernel
theorem dX3_seeWhoIsNear_42 : decode cX3_seeWhoIsNear 42 = .ok (.getfield 29, 3) := by decide +kernel
theorem dX3_seeWhoIsNear_45 : decode cX3_seeWhoIsNear 45 = .ok (.iload_n 2, 1) := by decide +kernel
theorem dX3_seeWhoIsNear_46 : decode cX3_seeWhoIsNear 46 = .ok (.iaload, 1) := by decide +kernel
theorem dX3_seeWhoIsNear_47 : decode cX3_seeWhoIsNear 47 = .ok (.invokevirtual 117, 3) := by decide +kernel
theorem dX3_seeWhoIsNear_50 : decode cX3_seeWhoIsNear 50 = .ok (.ifCond .eq 15, 3) := by decide +kernel
theorem dX3_seeWhoIsNear_53 : decode cX3_seeWhoIsNear 53 = .ok (.aload_n 0, 1) := by decide +kernel
theorem dX3_seeWhoIsNear_54 : decode cX3_seeWhoIsNear 54 = .ok (.getfield 33, 3) := by decide +kernel
theorem dX3_seeWhoIsNear_57 : decode cX3_seeWhoIsNear 57 = .ok (.iload_n 1, 1) := by decide +kernel
theorem dX3_seeWhoIsNear_58 : decode cX3_seeWhoIsNear 58 = .ok (.dup2, 1) := by decide +kernel
theorem dX3_seeWhoIsNear_59 : decode cX3_seeWhoIsNear 59 = .ok (.iaload, 1) := by decide +kernel
theorem dX3_seeWhoIsNear_60 : decode cX3_seeWhoIsNear 60 = .ok (.iconst 1, 1) := by decide +kernel
theorem dX3_seeWhoIsNear_61 : decode cX3_seeWhoIsNear 61 = .ok (.iload_n 2, 1) := by decide +kernel
theorem dX3_seeWhoIsNear_62 : decode cX3_seeWhoIsNear 62 = .ok (.ishl, 1) := by decide +kernel
theorem dX3_seeWhoIsNear_63 : decode cX3_seeWhoIsNear 63 = .ok (.ior, 1) := by decide +kernel
theorem dX3_seeWhoIsNear_64 : decode cX3_seeWhoIsNear 64 = .ok (.iastore, 1) := by decide +kernel
theorem dX3_seeWhoIsNear_65 : decode cX3_seeWhoIsNear 65 = .ok (.iinc 2 1, 3) := by decide +kernel
theorem dX3_seeWhoIsNear_68 : decode cX3_seeWhoIsNear 68 = .ok (.goto (-49), 3) := by decide +kernel
theorem dX3_seeWhoIsNear_71 : decode cX3_seeWhoIsNear 71 = .ok (.iinc 1 1, 3) := by decide +kernel
theorem dX3_seeWhoIsNear_74 : decode cX3_seeWhoIsNear 74 = .ok (.goto (-72), 3) := by decide +kernel
theorem dX3_seeWhoIsNear_77 : decode cX3_seeWhoIsNear 77 = .ok (.return_, 1) := by decide +kernel
theorem dX3_areOne_0 : decode cX3_areOne 0 = .ok (.iconst (-1), 1) := by decide +kernel
theorem dX3_areOne_1 : decode cX3_areOne 1 = .ok (.istore_n 2, 1) := by decide +kernel
theorem dX3_areOne_2 : decode cX3_areOne 2 = .ok (.iconst 0, 1) := by decide +kernel
theorem dX3_areOne_3 : decode cX3_areOne 3 = .ok (.istore_n 3, 1) := by decide +kernel
theorem dX3_areOne_4 : decode cX3_areOne 4 = .ok (.iload_n 3, 1) := by decide +kernel
theorem dX3_areOne_5 : decode cX3_areOne 5 = .ok (.aload_n 0, 1) := by decide +kernel
theorem dX3_areOne_6 : decode cX3_areOne 6 = .ok (.getfield 93, 3) := by decide +kernel
theorem dX3_areOne_9 : decode cX3_areOne 9 = .ok (.if_icmp .ge 49, 3) := by decide +kernel
theorem dX3_areOne_12 : decode cX3_areOne 12 = .ok (.iload_n 1, 1) := by decide +kernel
theorem dX3_areOne_13 : decode cX3_areOne 13 = .ok (.iconst 1, 1) := by decide +kernel
theorem dX3_areOne_14 : decode cX3_areOne 14 = .ok (.iload_n 3, 1) := by decide +kernel
theorem dX3_areOne_15 : decode cX3_areOne 15 = .ok (.ishl, 1) := by decide +kernel
theorem dX3_areOne_16 : decode cX3_areOne 16 = .ok (.iand, 1) := by decide +kernel
theorem dX3_areOne_17 : decode cX3_areOne 17 = .ok (.ifCond .eq 35, 3) := by decide +kernel
theorem dX3_areOne_20 : decode cX3_areOne 20 = .ok (.iload_n 1, 1) := by decide +kernel
theorem dX3_areOne_21 : decode cX3_areOne 21 = .ok (.aload_n 0, 1) := by decide +kernel
theorem dX3_areOne_22 : decode cX3_areOne 22 = .ok (.getfield 33, 3) := by decide +kernel
theorem dX3_areOne_25 : decode cX3_areOne 25 = .ok (.iload_n 3, 1) := by decide +kernel
theorem dX3_areOne_26 : decode cX3_areOne 26 = .ok (.iaload, 1) := by decide +kernel
theorem dX3_areOne_27 : decode cX3_areOne 27 = .ok (.iconst (-1), 1) := by decide +kernel
theorem dX3_areOne_28 : decode cX3_areOne 28 = .ok (.ixor, 1) := by decide +kernel
theorem dX3_areOne_29 : decode cX3_areOne 29 = .ok (.iand, 1) := by decide +kernel
theorem dX3_areOne_30 : decode cX3_areOne 30 = .ok (.ifCond .eq 5, 3) := by decide +kernel
theorem dX3_areOne_33 : decode cX3_areOne 33 = .ok (.iconst 0, 1) := by decide +kernel
theorem dX3_areOne_34 : decode cX3_areOne 34 = .ok (.ireturn, 1) := by decide +kernel
theorem dX3_areOne_35 : decode cX3_areOne 35 = .ok (.iload_n 2, 1) := by decide +kernel
theorem dX3_areOne_36 : decode cX3_areOne 36 = .ok (.aload_n 0, 1) := by decide +kernel
theorem dX3_areOne_37 : decode cX3_areOne 37 = .ok (.getfield 9, 3) := by decide +kernel
theorem dX3_areOne_40 : decode cX3_areOne 40 = .ok (.getfield 121, 3) := by decide +kernel
theorem dX3_areOne_43 : decode cX3_areOne 43 = .ok (.aload_n 0, 1) := by decide +kernel
theorem dX3_areOne_44 : decode cX3_areOne 44 = .ok (.getfield 29, 3) := by decide +kernel
theorem dX3_areOne_47 : decode cX3_areOne 47 = .ok (.iload_n 3, 1) := by decide +kernel
theorem dX3_areOne_48 : decode cX3_areOne 48 = .ok (.iaload, 1) := by decide +kernel
theorem dX3_areOne_49 : decode cX3_areOne 49 = .ok (.iaload, 1) := by decide +kernel
theorem dX3_areOne_50 : decode cX3_areOne 50 = .ok (.iand, 1) := by decide +kernel
theorem dX3_areOne_51 : decode cX3_areOne 51 = .ok (.istore_n 2, 1) := by decide +kernel
theorem dX3_areOne_52 : decode cX3_areOne 52 = .ok (.iinc 3 1, 3) := by decide +kernel
theorem dX3_areOne_55 : decode cX3_areOne 55 = .ok (.goto (-51), 3) := by decide +kernel
theorem dX3_areOne_58 : decode cX3_areOne 58 = .ok (.iload_n 2, 1) := by decide +kernel
theorem dX3_areOne_59 : decode cX3_areOne 59 = .ok (.ifCond .ne 13, 3) := by decide +kernel
theorem dX3_areOne_62 : decode cX3_areOne 62 = .ok (.aload_n 0, 1) := by decide +kernel
theorem dX3_areOne_63 : decode cX3_areOne 63 = .ok (.getfield 18, 3) := by decide +kernel
theorem dX3_areOne_66 : decode cX3_areOne 66 = .ok (.invokevirtual 124, 3) := by decide +kernel
theorem dX3_areOne_69 : decode cX3_areOne 69 = .ok (.ifCond .ne 7, 3) := by decide +kernel
theorem dX3_areOne_72 : decode cX3_areOne 72 = .ok (.iconst 1, 1) := by decide +kernel
theorem dX3_areOne_73 : decode cX3_areOne 73 = .ok (.goto 4, 3) := by decide +kernel
theorem dX3_areOne_76 : decode cX3_areOne 76 = .ok (.iconst 0, 1) := by decide +kernel
theorem dX3_areOne_77 : decode cX3_areOne 77 = .ok (.ireturn, 1) := by decide +kernel
theorem dX3_listSetsFrom_0 : decode cX3_listSetsFrom 0 = .ok (.iconst 1, 1) := by decide +kernel
theorem dX3_listSetsFrom_1 : decode cX3_listSetsFrom 1 = .ok (.aload_n 0, 1) := by decide +kernel
theorem dX3_listSetsFrom_2 : decode cX3_listSetsFrom 2 = .ok (.getfield 93, 3) := by decide +kernel
theorem dX3_listSetsFrom_5 : decode cX3_listSetsFrom 5 = .ok (.iconst 1, 1) := by decide +kernel
theorem dX3_listSetsFrom_6 : decode cX3_listSetsFrom 6 = .ok (.isub, 1) := by decide +kernel
theorem dX3_listSetsFrom_7 : decode cX3_listSetsFrom 7 = .ok (.iload_n 1, 1) := by decide +kernel
theorem dX3_listSetsFrom_8 : decode cX3_listSetsFrom 8 = .ok (.isub, 1) := by decide +kernel
theorem dX3_listSetsFrom_9 : decode cX3_listSetsFrom 9 = .ok (.ishl, 1) := by decide +kernel
theorem dX3_listSetsFrom_10 : decode cX3_listSetsFrom 10 = .ok (.istore_n 2, 1) := by decide +kernel
theorem dX3_listSetsFrom_11 : decode cX3_listSetsFrom 11 = .ok (.iconst 0, 1) := by decide +kernel
theorem dX3_listSetsFrom_12 : decode cX3_listSetsFrom 12 = .ok (.istore_n 3, 1) := by decide +kernel
theorem dX3_listSetsFrom_13 : decode cX3_listSetsFrom 13 = .ok (.iload_n 3, 1) := by decide +kernel
theorem dX3_listSetsFrom_14 : decode cX3_listSetsFrom 14 = .ok (.iload_n 2, 1) := by decide +kernel
theorem dX3_listSetsFrom_15 : decode cX3_listSetsFrom 15 = .ok (.if_icmp .ge 33, 3) := by decide +kernel
theorem dX3_listSetsFrom_18 : decode cX3_listSetsFrom 18 = .ok (.iconst 2, 1) := by decide +kernel
theorem dX3_listSetsFrom_19 : decode cX3_listSetsFrom 19 = .ok (.iload_n 3, 1) := by decide +kernel
theorem dX3_listSetsFrom_20 : decode cX3_listSetsFrom 20 = .ok (.imul, 1) := by decide +kernel
theorem dX3_listSetsFrom_21 : decode cX3_listSetsFrom 21 = .ok (.iconst 1, 1) := by decide +kernel
theorem dX3_listSetsFrom_22 : decode cX3_listSetsFrom 22 = .ok (.iadd, 1) := by decide +kernel
theorem dX3_listSetsFrom_23 : decode cX3_listSetsFrom 23 = .ok (.iload_n 1, 1) := by decide +kernel
theorem dX3_listSetsFrom_24 : decode cX3_listSetsFrom 24 = .ok (.ishl, 1) := by decide +kernel
theorem dX3_listSetsFrom_25 : decode cX3_listSetsFrom 25 = .ok (.istore 4, 2) := by decide +kernel
theorem dX3_listSetsFrom_27 : decode cX3_listSetsFrom 27 = .ok (.aload_n 0, 1) := by decide +kernel
theorem dX3_listSetsFrom_28 : decode cX3_listSetsFrom 28 = .ok (.iload 4, 2) := by decide +kernel
theorem dX3_listSetsFrom_30 : decode cX3_listSetsFrom 30 = .ok (.invokevirtual 127, 3) := by decide +kernel
theorem dX3_listSetsFrom_33 : decode cX3_listSetsFrom 33 = .ok (.ifCond .eq 9, 3) := by decide +kernel
theorem dX3_listSetsFrom_36 : decode cX3_listSetsFrom 36 = .ok (.aload_n 0, 1) := by decide +kernel
theorem dX3_listSetsFrom_37 : decode cX3_listSetsFrom 37 = .ok (.iload 4, 2) := by decide +kernel
theorem dX3_listSetsFrom_39 : decode cX3_listSetsFrom 39 = .ok (.invokevirtual 130, 3) := by decide +kernel
theorem dX3_listSetsFrom_42 : decode cX3_listSetsFrom 42 = .ok (.iinc 3 1, 3) := by decide +kernel
theorem dX3_listSetsFrom_45 : decode cX3_listSetsFrom 45 = .ok (.goto (-32), 3) := by decide +kernel
theorem dX3_listSetsFrom_48 : decode cX3_listSetsFrom 48 = .ok (.return_, 1) := by decide +kernel
theorem dX3_listRunsFrom_0 : decode cX3_listRunsFrom 0 = .ok (.iconst 0, 1) := by decide +kernel
theorem dX3_listRunsFrom_1 : decode cX3_listRunsFrom 1 = .ok (.istore_n 2, 1) := by decide +kernel
theorem dX3_listRunsFrom_2 : decode cX3_listRunsFrom 2 = .ok (.iload_n 1, 1) := by decide +kernel
theorem dX3_listRunsFrom_3 : decode cX3_listRunsFrom 3 = .ok (.istore_n 3, 1) := by decide +kernel
theorem dX3_listRunsFrom_4 : decode cX3_listRunsFrom 4 = .ok (.iload_n 3, 1) := by decide +kernel
theorem dX3_listRunsFrom_5 : decode cX3_listRunsFrom 5 = .ok (.aload_n 0, 1) := by decide +kernel
theorem dX3_listRunsFrom_6 : decode cX3_listRunsFrom 6 = .ok (.getfield 93, 3) := by decide +kernel
theorem dX3_listRunsFrom_9 : decode cX3_listRunsFrom 9 = .ok (.if_icmp .ge 94, 3) := by decide +kernel
theorem dX3_listRunsFrom_12 : decode cX3_listRunsFrom 12 = .ok (.iload_n 2, 1) := by decide +kernel
theorem dX3_listRunsFrom_13 : decode cX3_listRunsFrom 13 = .ok (.iconst 1, 1) := by decide +kernel
theorem dX3_listRunsFrom_14 : decode cX3_listRunsFrom 14 = .ok (.iload_n 3, 1) := by decide +kernel
theorem dX3_listRunsFrom_15 : decode cX3_listRunsFrom 15 = .ok (.ishl, 1) := by decide +kernel
theorem dX3_listRunsFrom_16 : decode cX3_listRunsFrom 16 = .ok (.ior, 1) := by decide +kernel
theorem dX3_listRunsFrom_17 : decode cX3_listRunsFrom 17 = .ok (.istore_n 2, 1) := by decide +kernel
theorem dX3_listRunsFrom_18 : decode cX3_listRunsFrom 18 = .ok (.aload_n 0, 1) := by decide +kernel
theorem dX3_listRunsFrom_19 : decode cX3_listRunsFrom 19 = .ok (.iload_n 2, 1) := by decide +kernel
theorem dX3_listRunsFrom_20 : decode cX3_listRunsFrom 20 = .ok (.invokevirtual 127, 3) := by decide +kernel
theorem dX3_listRunsFrom_23 : decode cX3_listRunsFrom 23 = .ok (.ifCond .ne 4, 3) := by decide +kernel
theorem dX3_listRunsFrom_26 : decode cX3_listRunsFrom 26 = .ok (.return_, 1) := by decide +kernel
theorem dX3_listRunsFrom_27 : decode cX3_listRunsFrom 27 = .ok (.iload_n 3, 1) := by decide +kernel
theorem dX3_listRunsFrom_28 : decode cX3_listRunsFrom 28 = .ok (.iconst 1, 1) := by decide +kernel
theorem dX3_listRunsFrom_29 : decode cX3_listRunsFrom 29 = .ok (.iadd, 1) := by decide +kernel
theorem dX3_listRunsFrom_30 : decode cX3_listRunsFrom 30 = .ok (.aload_n 0, 1) := by decide +kernel
theorem dX3_listRunsFrom_31 : decode cX3_listRunsFrom 31 = .ok (.getfield 93, 3) := by decide +kernel
theorem dX3_listRunsFrom_34 : decode cX3_listRunsFrom 34 = .ok (.if_icmp .ne 7, 3) := by decide +kernel
theorem dX3_listRunsFrom_37 : decode cX3_listRunsFrom 37 = .ok (.iconst 1, 1) := by decide +kernel
theorem dX3_listRunsFrom_38 : decode cX3_listRunsFrom 38 = .ok (.goto 4, 3) := by decide +kernel
theorem dX3_listRunsFrom_41 : decode cX3_listRunsFrom 41 = .ok (.iconst 0, 1) := by decide +kernel
theorem dX3_listRunsFrom_42 : decode cX3_listRunsFrom 42 = .ok (.istore 4, 2) := by decide +kernel
theorem dX3_listRunsFrom_44 : decode cX3_listRunsFrom 44 = .ok (.iload 4, 2) := by decide +kernel
theorem dX3_listRunsFrom_46 : decode cX3_listRunsFrom 46 = .ok (.ifCond .ne 46, 3) := by decide +kernel
theorem dX3_listRunsFrom_49 : decode cX3_listRunsFrom 49 = .ok (.aload_n 0, 1) := by decide +kernel
theorem dX3_listRunsFrom_50 : decode cX3_listRunsFrom 50 = .ok (.getfield 9, 3) := by decide +kernel
theorem dX3_listRunsFrom_53 : decode cX3_listRunsFrom 53 = .ok (.getfield 133, 3) := by decide +kernel
theorem dX3_listRunsFrom_56 : decode cX3_listRunsFrom 56 = .ok (.aload_n 0, 1) := by decide +kernel
theorem dX3_listRunsFrom_57 : decode cX3_listRunsFrom 57 = .ok (.getfield 29, 3) := by decide +kernel
theorem dX3_listRunsFrom_60 : decode cX3_listRunsFrom 60 = .ok (.iload_n 3, 1) := by decide +kernel
theorem dX3_listRunsFrom_61 : decode cX3_listRunsFrom 61 = .ok (.iaload, 1) := by decide +kernel
theorem dX3_listRunsFrom_62 : decode cX3_listRunsFrom 62 = .ok (.iaload, 1) := by decide +kernel
theorem dX3_listRunsFrom_63 : decode cX3_listRunsFrom 63 = .ok (.aload_n 0, 1) := by decide +kernel
theorem dX3_listRunsFrom_64 : decode cX3_listRunsFrom 64 = .ok (.getfield 18, 3) := by decide +kernel
theorem dX3_listRunsFrom_67 : decode cX3_listRunsFrom 67 = .ok (.getfield 136, 3) := by decide +kernel
theorem dX3_listRunsFrom_70 : decode cX3_listRunsFrom 70 = .ok (.iconst 4, 1) := by decide +kernel
theorem dX3_listRunsFrom_71 : decode cX3_listRunsFrom 71 = .ok (.iaload, 1) := by decide +kernel
theorem dX3_listRunsFrom_72 : decode cX3_listRunsFrom 72 = .ok (.iadd, 1) := by decide +kernel
theorem dX3_listRunsFrom_73 : decode cX3_listRunsFrom 73 = .ok (.aload_n 0, 1) := by decide +kernel
theorem dX3_listRunsFrom_74 : decode cX3_listRunsFrom 74 = .ok (.getfield 9, 3) := by decide +kernel
theorem dX3_listRunsFrom_77 : decode cX3_listRunsFrom 77 = .ok (.getfield 133, 3) := by decide +kernel
theorem dX3_listRunsFrom_80 : decode cX3_listRunsFrom 80 = .ok (.aload_n 0, 1) := by decide +kernel
theorem dX3_listRunsFrom_81 : decode cX3_listRunsFrom 81 = .ok (.getfield 29, 3) := by decide +kernel
theorem dX3_listRunsFrom_84 : decode cX3_listRunsFrom 84 = .ok (.iload_n 3, 1) := by decide +kernel
theorem dX3_listRunsFrom_85 : decode cX3_listRunsFrom 85 = .ok (.iconst 1, 1) := by decide +kernel
theorem dX3_listRunsFrom_86 : decode cX3_listRunsFrom 86 = .ok (.iadd, 1) := by decide +kernel
theorem dX3_listRunsFrom_87 : decode cX3_listRunsFrom 87 = .ok (.iaload, 1) := by decide +kernel
theorem dX3_listRunsFrom_88 : decode cX3_listRunsFrom 88 = .ok (.iaload, 1) := by decide +kernel
theorem dX3_listRunsFrom_89 : decode cX3_listRunsFrom 89 = .ok (.if_icmp .ge 8, 3) := by decide +kernel
theorem dX3_listRunsFrom_92 : decode cX3_listRunsFrom 92 = .ok (.aload_n 0, 1) := by decide +kernel
theorem dX3_listRunsFrom_93 : decode cX3_listRunsFrom 93 = .ok (.iload_n 2, 1) := by decide +kernel
theorem dX3_listRunsFrom_94 : decode cX3_listRunsFrom 94 = .ok (.invokevirtual 130, 3) := by decide +kernel
theorem dX3_listRunsFrom_97 : decode cX3_listRunsFrom 97 = .ok (.iinc 3 1, 3) := by decide +kernel
theorem dX3_listRunsFrom_100 : decode cX3_listRunsFrom 100 = .ok (.goto (-96), 3) := by decide +kernel
theorem dX3_listRunsFrom_103 : decode cX3_listRunsFrom 103 = .ok (.return_, 1) := by decide +kernel
theorem dX3_list_0 : decode cX3_list 0 = .ok (.aload_n 0, 1) := by decide +kernel
theorem dX3_list_1 : decode cX3_list 1 = .ok (.getfield 100, 3) := by decide +kernel
theorem dX3_list_4 : decode cX3_list 4 = .ok (.sipush 256, 3) := by decide +kernel
theorem dX3_list_7 : decode cX3_list 7 = .ok (.if_icmp .ge 23, 3) := by decide +kernel
theorem dX3_list_10 : decode cX3_list 10 = .ok (.aload_n 0, 1) := by decide +kernel
theorem dX3_list_11 : decode cX3_list 11 = .ok (.getfield 36, 3) := by decide +kernel
theorem dX3_list_14 : decode cX3_list 14 = .ok (.aload_n 0, 1) := by decide +kernel
theorem dX3_list_15 : decode cX3_list 15 = .ok (.getfield 100, 3) := by decide +kernel
theorem dX3_list_18 : decode cX3_list 18 = .ok (.iload_n 1, 1) := by decide +kernel
theorem dX3_list_19 : decode cX3_list 19 = .ok (.iastore, 1) := by decide +kernel
theorem dX3_list_20 : decode cX3_list 20 = .ok (.aload_n 0, 1) := by decide +kernel
theorem dX3_list_21 : decode cX3_list 21 = .ok (.dup, 1) := by decide +kernel
theorem dX3_list_22 : decode cX3_list 22 = .ok (.getfield 100, 3) := by decide +kernel
theorem dX3_list_25 : decode cX3_list 25 = .ok (.iconst 1, 1) := by decide +kernel
theorem dX3_list_26 : decode cX3_list 26 = .ok (.iadd, 1) := by decide +kernel
theorem dX3_list_27 : decode cX3_list 27 = .ok (.putfield 100, 3) := by decide +kernel
theorem dX3_list_30 : decode cX3_list 30 = .ok (.return_, 1) := by decide +kernel
theorem dX3_priceHappenings_0 : decode cX3_priceHappenings 0 = .ok (.iconst 0, 1) := by decide +kernel
theorem dX3_priceHappenings_1 : decode cX3_priceHappenings 1 = .ok (.istore_n 1, 1) := by decide +kernel
theorem dX3_priceHappenings_2 : decode cX3_priceHappenings 2 = .ok (.iload_n 1, 1) := by decide +kernel
theorem dX3_priceHappenings_3 : decode cX3_priceHappenings 3 = .ok (.aload_n 0, 1) := by decide +kernel
theorem dX3_priceHappenings_4 : decode cX3_priceHappenings 4 = .ok (.getfield 100, 3) := by decide +kernel
theorem dX3_priceHappenings_7 : decode cX3_priceHappenings 7 = .ok (.if_icmp .ge 66, 3) := by decide +kernel
theorem dX3_priceHappenings_10 : decode cX3_priceHappenings 10 = .ok (.iconst 0, 1) := by decide +kernel
theorem dX3_priceHappenings_11 : decode cX3_priceHappenings 11 = .ok (.istore_n 2, 1) := by decide +kernel
theorem dX3_priceHappenings_12 : decode cX3_priceHappenings 12 = .ok (.iconst 0, 1) := by decide +kernel
theorem dX3_priceHappenings_13 : decode cX3_priceHappenings 13 = .ok (.istore_n 3, 1) := by decide +kernel
theorem dX3_priceHappenings_14 : decode cX3_priceHappenings 14 = .ok (.iload_n 3, 1) := by decide +kernel
theorem dX3_priceHappenings_15 : decode cX3_priceHappenings 15 = .ok (.aload_n 0, 1) := by decide +kernel
theorem dX3_priceHappenings_16 : decode cX3_priceHappenings 16 = .ok (.getfield 93, 3) := by decide +kernel
theorem dX3_priceHappenings_19 : decode cX3_priceHappenings 19 = .ok (.if_icmp .ge 39, 3) := by decide +kernel
theorem dX3_priceHappenings_22 : decode cX3_priceHappenings 22 = .ok (.aload_n 0, 1) := by decide +kernel
theorem dX3_priceHappenings_23 : decode cX3_priceHappenings 23 = .ok (.getfield 36, 3) := by decide +kernel
theorem dX3_priceHappenings_26 : decode cX3_priceHappenings 26 = .ok (.iload_n 1, 1) := by decide +kernel
theorem dX3_priceHappenings_27 : decode cX3_priceHappenings 27 = .ok (.iaload, 1) := by decide +kernel
theorem dX3_priceHappenings_28 : decode cX3_priceHappenings 28 = .ok (.iconst 1, 1) := by decide +kernel
theorem dX3_priceHappenings_29 : decode cX3_priceHappenings 29 = .ok (.iload_n 3, 1) := by decide +kernel
theorem dX3_priceHappenings_30 : decode cX3_priceHappenings 30 = .ok (.ishl, 1) := by decide +kernel
theorem dX3_priceHappenings_31 : decode cX3_priceHappenings 31 = .ok (.iand, 1) := by decide +kernel
theorem dX3_priceHappenings_32 : decode cX3_priceHappenings 32 = .ok (.ifCond .eq 20, 3) := by decide +kernel
theorem dX3_priceHappenings_35 : decode cX3_priceHappenings 35 = .ok (.iload_n 2, 1) := by decide +kernel
theorem dX3_priceHappenings_36 : decode cX3_priceHappenings 36 = .ok (.aload_n 0, 1) := by decide +kernel
theorem dX3_priceHappenings_37 : decode cX3_priceHappenings 37 = .ok (.getfield 9, 3) := by decide +kernel
theorem dX3_priceHappenings_40 : decode cX3_priceHappenings 40 = .ok (.getfield 139, 3) := by decide +kernel
theorem dX3_priceHappenings_43 : decode cX3_priceHappenings 43 = .ok (.aload_n 0, 1) := by decide +kernel
theorem dX3_priceHappenings_44 : decode cX3_priceHappenings 44 = .ok (.getfield 29, 3) := by decide +kernel
theorem dX3_priceHappenings_47 : decode cX3_priceHappenings 47 = .ok (.iload_n 3, 1) := by decide +kernel
theorem dX3_priceHappenings_48 : decode cX3_priceHappenings 48 = .ok (.iaload, 1) := by decide +kernel
theorem dX3_priceHappenings_49 : decode cX3_priceHappenings 49 = .ok (.iaload, 1) := by decide +kernel
theorem dX3_priceHappenings_50 : decode cX3_priceHappenings 50 = .ok (.iadd, 1) := by decide +kernel
theorem dX3_priceHappenings_51 : decode cX3_priceHappenings 51 = .ok (.istore_n 2, 1) := by decide +kernel
theorem dX3_priceHappenings_52 : decode cX3_priceHappenings 52 = .ok (.iinc 3 1, 3) := by decide +kernel
theorem dX3_priceHappenings_55 : decode cX3_priceHappenings 55 = .ok (.goto (-41), 3) := by decide +kernel
theorem dX3_priceHappenings_58 : decode cX3_priceHappenings 58 = .ok (.aload_n 0, 1) := by decide +kernel
theorem dX3_priceHappenings_59 : decode cX3_priceHappenings 59 = .ok (.getfield 25, 3) := by decide +kernel
theorem dX3_priceHappenings_62 : decode cX3_priceHappenings 62 = .ok (.iload_n 1, 1) := by decide +kernel
theorem dX3_priceHappenings_63 : decode cX3_priceHappenings 63 = .ok (.iload_n 2, 1) := by decide +kernel
theorem dX3_priceHappenings_64 : decode cX3_priceHappenings 64 = .ok (.invokevirtual 142, 3) := by decide +kernel
theorem dX3_priceHappenings_67 : decode cX3_priceHappenings 67 = .ok (.iinc 1 1, 3) := by decide +kernel
theorem dX3_priceHappenings_70 : decode cX3_priceHappenings 70 = .ok (.goto (-68), 3) := by decide +kernel
theorem dX3_priceHappenings_73 : decode cX3_priceHappenings 73 = .ok (.return_, 1) := by decide +kernel
theorem dX3_part_0 : decode cX3_part 0 = .ok (.iload_n 1, 1) := by decide +kernel
theorem dX3_part_1 : decode cX3_part 1 = .ok (.ifCond .ne 10, 3) := by decide +kernel
theorem dX3_part_4 : decode cX3_part 4 = .ok (.aload_n 0, 1) := by decide +kernel
theorem dX3_part_5 : decode cX3_part 5 = .ok (.iload_n 3, 1) := by decide +kernel
theorem dX3_part_6 : decode cX3_part 6 = .ok (.iload_n 2, 1) := by decide +kernel
theorem dX3_part_7 : decode cX3_part 7 = .ok (.invokevirtual 146, 3) := by decide +kernel
theorem dX3_part_10 : decode cX3_part 10 = .ok (.return_, 1) := by decide +kernel
theorem dX3_part_11 : decode cX3_part 11 = .ok (.iload_n 1, 1) := by decide +kernel
theorem dX3_part_12 : decode cX3_part 12 = .ok (.invokestatic 149, 3) := by decide +kernel
theorem dX3_part_15 : decode cX3_part 15 = .ok (.istore 4, 2) := by decide +kernel
theorem dX3_part_17 : decode cX3_part 17 = .ok (.iload_n 2, 1) := by decide +kernel
theorem dX3_part_18 : decode cX3_part 18 = .ok (.bipush 12, 2) := by decide +kernel
theorem dX3_part_20 : decode cX3_part 20 = .ok (.if_icmp .ge 12, 3) := by decide +kernel
theorem dX3_part_23 : decode cX3_part 23 = .ok (.iload 4, 2) := by decide +kernel
theorem dX3_part_25 : decode cX3_part 25 = .ok (.aload_n 0, 1) := by decide +kernel
theorem dX3_part_26 : decode cX3_part 26 = .ok (.getfield 93, 3) := by decide +kernel
theorem dX3_part_29 : decode cX3_part 29 = .ok (.if_icmp .lt 4, 3) := by decide +kernel
theorem dX3_part_32 : decode cX3_part 32 = .ok (.return_, 1) := by decide +kernel
theorem dX3_part_33 : decode cX3_part 33 = .ok (.aload_n 0, 1) := by decide +kernel
theorem dX3_part_34 : decode cX3_part 34 = .ok (.getfield 39, 3) := by decide +kernel
theorem dX3_part_37 : decode cX3_part 37 = .ok (.iload 4, 2) := by decide +kernel
theorem dX3_part_39 : decode cX3_part 39 = .ok (.iconst 1, 1) := by decide +kernel
theorem dX3_part_40 : decode cX3_part 40 = .ok (.iadd, 1) := by decide +kernel
theorem dX3_part_41 : decode cX3_part 41 = .ok (.iaload, 1) := by decide +kernel
theorem dX3_part_42 : decode cX3_part 42 = .ok (.istore 5, 2) := by decide +kernel
theorem dX3_part_44 : decode cX3_part 44 = .ok (.aload_n 0, 1) := by decide +kernel
theorem dX3_part_45 : decode cX3_part 45 = .ok (.getfield 39, 3) := by decide +kernel
theorem dX3_part_48 : decode cX3_part 48 = .ok (.iload 4, 2) := by decide +kernel
theorem dX3_part_50 : decode cX3_part 50 = .ok (.iaload, 1) := by decide +kernel
theorem dX3_part_51 : decode cX3_part 51 = .ok (.istore 6, 2) := by decide +kernel
theorem dX3_part_53 : decode cX3_part 53 = .ok (.iload 6, 2) := by decide +kernel
theorem dX3_part_55 : decode cX3_part 55 = .ok (.iload 5, 2) := by decide +kernel
theorem dX3_part_57 : decode cX3_part 57 = .ok (.if_icmp .ge 50, 3) := by decide +kernel
theorem dX3_part_60 : decode cX3_part 60 = .ok (.aload_n 0, 1) := by decide +kernel
theorem dX3_part_61 : decode cX3_part 61 = .ok (.getfield 36, 3) := by decide +kernel
theorem dX3_part_64 : decode cX3_part 64 = .ok (.iload 6, 2) := by decide +kernel
theorem dX3_part_66 : decode cX3_part 66 = .ok (.iaload, 1) := by decide +kernel
theorem dX3_part_67 : decode cX3_part 67 = .ok (.istore 7, 2) := by decide +kernel
theorem dX3_part_69 : decode cX3_part 69 = .ok (.iload 7, 2) := by decide +kernel
theorem dX3_part_71 : decode cX3_part 71 = .ok (.iload_n 1, 1) := by decide +kernel
theorem dX3_part_72 : decode cX3_part 72 = .ok (.iconst (-1), 1) := by decide +kernel
theorem dX3_part_73 : decode cX3_part 73 = .ok (.ixor, 1) := by decide +kernel
theorem dX3_part_74 : decode cX3_part 74 = .ok (.iand, 1) := by decide +kernel
theorem dX3_part_75 : decode cX3_part 75 = .ok (.ifCond .ne 26, 3) := by decide +kernel
theorem dX3_part_78 : decode cX3_part 78 = .ok (.aload_n 0, 1) := by decide +kernel
theorem dX3_part_79 : decode cX3_part 79 = .ok (.iload_n 1, 1) := by decide +kernel
theorem dX3_part_80 : decode cX3_part 80 = .ok (.iload 7, 2) := by decide +kernel
theorem dX3_part_82 : decode cX3_part 82 = .ok (.ixor, 1) := by decide +kernel
theorem dX3_part_83 : decode cX3_part 83 = .ok (.iload_n 2, 1) := by decide +kernel
theorem dX3_part_84 : decode cX3_part 84 = .ok (.iconst 1, 1) := by decide +kernel
theorem dX3_part_85 : decode cX3_part 85 = .ok (.iadd, 1) := by decide +kernel
theorem dX3_part_86 : decode cX3_part 86 = .ok (.iload_n 3, 1) := by decide +kernel
theorem dX3_part_87 : decode cX3_part 87 = .ok (.aload_n 0, 1) := by decide +kernel
theorem dX3_part_88 : decode cX3_part 88 = .ok (.getfield 25, 3) := by decide +kernel
theorem dX3_part_91 : decode cX3_part 91 = .ok (.iload 6, 2) := by decide +kernel
theorem dX3_part_93 : decode cX3_part 93 = .ok (.iload_n 2, 1) := by decide +kernel
theorem dX3_part_94 : decode cX3_part 94 = .ok (.invokevirtual 152, 3) := by decide +kernel
theorem dX3_part_97 : decode cX3_part 97 = .ok (.iadd, 1) := by decide +kernel
theorem dX3_part_98 : decode cX3_part 98 = .ok (.invokevirtual 113, 3) := by decide +kernel
theorem dX3_part_101 : decode cX3_part 101 = .ok (.iinc 6 1, 3) := by decide +kernel
theorem dX3_part_104 : decode cX3_part 104 = .ok (.goto (-51), 3) := by decide +kernel
theorem dX3_part_107 : decode cX3_part 107 = .ok (.return_, 1) := by decide +kernel
theorem dX3_note_0 : decode cX3_note 0 = .ok (.aload_n 0, 1) := by decide +kernel
theorem dX3_note_1 : decode cX3_note 1 = .ok (.getfield 76, 3) := by decide +kernel
theorem dX3_note_4 : decode cX3_note 4 = .ok (.ifCond .eq 27, 3) := by decide +kernel
theorem dX3_note_7 : decode cX3_note 7 = .ok (.iload_n 1, 1) := by decide +kernel
theorem dX3_note_8 : decode cX3_note 8 = .ok (.aload_n 0, 1) := by decide +kernel
theorem dX3_note_9 : decode cX3_note 9 = .ok (.getfield 156, 3) := by decide +kernel
theorem dX3_note_12 : decode cX3_note 12 = .ok (.if_icmp .gt 19, 3) := by decide +kernel
theorem dX3_note_15 : decode cX3_note 15 = .ok (.iload_n 1, 1) := by decide +kernel
theorem dX3_note_16 : decode cX3_note 16 = .ok (.aload_n 0, 1) := by decide +kernel
theorem dX3_note_17 : decode cX3_note 17 = .ok (.getfield 156, 3) := by decide +kernel
theorem dX3_note_20 : decode cX3_note 20 = .ok (.if_icmp .ne 21, 3) := by decide +kernel
theorem dX3_note_23 : decode cX3_note 23 = .ok (.iload_n 2, 1) := by decide +kernel
theorem dX3_note_24 : decode cX3_note 24 = .ok (.aload_n 0, 1) := by decide +kernel
theorem dX3_note_25 : decode cX3_note 25 = .ok (.getfield 159, 3) := by decide +kernel
theorem dX3_note_28 : decode cX3_note 28 = .ok (.if_icmp .ge 13, 3) := by decide +kernel
theorem dX3_note_31 : decode cX3_note 31 = .ok (.aload_n 0, 1) := by decide +kernel
theorem dX3_note_32 : decode cX3_note 32 = .ok (.iload_n 1, 1) := by decide +kernel
theorem dX3_note_33 : decode cX3_note 33 = .ok (.putfield 156, 3) := by decide +kernel
theorem dX3_note_36 : decode cX3_note 36 = .ok (.aload_n 0, 1) := by decide +kernel
theorem dX3_note_37 : decode cX3_note 37 = .ok (.iload_n 2, 1) := by decide +kernel
theorem dX3_note_38 : decode cX3_note 38 = .ok (.putfield 159, 3) := by decide +kernel
theorem dX3_note_41 : decode cX3_note 41 = .ok (.aload_n 0, 1) := by decide +kernel
theorem dX3_note_42 : decode cX3_note 42 = .ok (.getfield 76, 3) := by decide +kernel
theorem dX3_note_45 : decode cX3_note 45 = .ok (.ifCond .eq 27, 3) := by decide +kernel
theorem dX3_note_48 : decode cX3_note 48 = .ok (.iload_n 1, 1) := by decide +kernel
theorem dX3_note_49 : decode cX3_note 49 = .ok (.aload_n 0, 1) := by decide +kernel
theorem dX3_note_50 : decode cX3_note 50 = .ok (.getfield 162, 3) := by decide +kernel
theorem dX3_note_53 : decode cX3_note 53 = .ok (.if_icmp .lt 19, 3) := by decide +kernel
theorem dX3_note_56 : decode cX3_note 56 = .ok (.iload_n 1, 1) := by decide +kernel
theorem dX3_note_57 : decode cX3_note 57 = .ok (.aload_n 0, 1) := by decide +kernel
theorem dX3_note_58 : decode cX3_note 58 = .ok (.getfield 162, 3) := by decide +kernel
theorem dX3_note_61 : decode cX3_note 61 = .ok (.if_icmp .ne 21, 3) := by decide +kernel
theorem dX3_note_64 : decode cX3_note 64 = .ok (.iload_n 2, 1) := by decide +kernel
theorem dX3_note_65 : decode cX3_note 65 = .ok (.aload_n 0, 1) := by decide +kernel
theorem dX3_note_66 : decode cX3_note 66 = .ok (.getfield 165, 3) := by decide +kernel
theorem dX3_note_69 : decode cX3_note 69 = .ok (.if_icmp .ge 13, 3) := by decide +kernel
theorem dX3_note_72 : decode cX3_note 72 = .ok (.aload_n 0, 1) := by decide +kernel
theorem dX3_note_73 : decode cX3_note 73 = .ok (.iload_n 1, 1) := by decide +kernel
theorem dX3_note_74 : decode cX3_note 74 = .ok (.putfield 162, 3) := by decide +kernel
theorem dX3_note_77 : decode cX3_note 77 = .ok (.aload_n 0, 1) := by decide +kernel
theorem dX3_note_78 : decode cX3_note 78 = .ok (.iload_n 2, 1) := by decide +kernel
theorem dX3_note_79 : decode cX3_note 79 = .ok (.putfield 165, 3) := by decide +kernel
theorem dX3_note_82 : decode cX3_note 82 = .ok (.aload_n 0, 1) := by decide +kernel
theorem dX3_note_83 : decode cX3_note 83 = .ok (.iconst 1, 1) := by decide +kernel
theorem dX3_note_84 : decode cX3_note 84 = .ok (.putfield 76, 3) := by decide +kernel
theorem dX3_note_87 : decode cX3_note 87 = .ok (.return_, 1) := by decide +kernel
theorem dX4_init_0 : decode cX4_init 0 = .ok (.aload_n 0, 1) := by decide +kernel
theorem dX4_init_1 : decode cX4_init 1 = .ok (.invokespecial 3, 3) := by decide +kernel
theorem dX4_init_4 : decode cX4_init 4 = .ok (.aload_n 0, 1) := by decide +kernel
theorem dX4_init_5 : decode cX4_init 5 = .ok (.bipush 120, 2) := by decide +kernel
theorem dX4_init_7 : decode cX4_init 7 = .ok (.newarray .int, 2) := by decide +kernel
theorem dX4_init_9 : decode cX4_init 9 = .ok (.putfield 11, 3) := by decide +kernel
theorem dX4_init_12 : decode cX4_init 12 = .ok (.aload_n 0, 1) := by decide +kernel
theorem dX4_init_13 : decode cX4_init 13 = .ok (.iconst 0, 1) := by decide +kernel
theorem dX4_init_14 : decode cX4_init 14 = .ok (.putfield 15, 3) := by decide +kernel
theorem dX4_init_17 : decode cX4_init 17 = .ok (.return_, 1) := by decide +kernel
theorem dX4_bytesIn_0 : decode cX4_bytesIn 0 = .ok (.iconst 0, 1) := by decide +kernel
theorem dX4_bytesIn_1 : decode cX4_bytesIn 1 = .ok (.istore_n 1, 1) := by decide +kernel
theorem dX4_bytesIn_2 : decode cX4_bytesIn 2 = .ok (.bipush 24, 2) := by decide +kernel
theorem dX4_bytesIn_4 : decode cX4_bytesIn 4 = .ok (.istore_n 2, 1) := by decide +kernel
theorem dX4_bytesIn_5 : decode cX4_bytesIn 5 = .ok (.iload_n 2, 1) := by decide +kernel
theorem dX4_bytesIn_6 : decode cX4_bytesIn 6 = .ok (.ifCond .lt 22, 3) := by decide +kernel
theorem dX4_bytesIn_9 : decode cX4_bytesIn 9 = .ok (.iload_n 0, 1) := by decide +kernel
theorem dX4_bytesIn_10 : decode cX4_bytesIn 10 = .ok (.iload_n 2, 1) := by decide +kernel
theorem dX4_bytesIn_11 : decode cX4_bytesIn 11 = .ok (.iushr, 1) := by decide +kernel
theorem dX4_bytesIn_12 : decode cX4_bytesIn 12 = .ok (.sipush 255, 3) := by decide +kernel
theorem dX4_bytesIn_15 : decode cX4_bytesIn 15 = .ok (.iand, 1) := by decide +kernel
theorem dX4_bytesIn_16 : decode cX4_bytesIn 16 = .ok (.ifCond .eq 6, 3) := by decide +kernel
theorem dX4_bytesIn_19 : decode cX4_bytesIn 19 = .ok (.iinc 1 1, 3) := by decide +kernel
theorem dX4_bytesIn_22 : decode cX4_bytesIn 22 = .ok (.iinc 2 (-8), 3) := by decide +kernel
theorem dX4_bytesIn_25 : decode cX4_bytesIn 25 = .ok (.goto (-20), 3) := by decide +kernel
theorem dX4_bytesIn_28 : decode cX4_bytesIn 28 = .ok (.iload_n 1, 1) := by decide +kernel
theorem dX4_bytesIn_29 : decode cX4_bytesIn 29 = .ok (.ireturn, 1) := by decide +kernel
theorem dX4_append_0 : decode cX4_append 0 = .ok (.bipush 24, 2) := by decide +kernel
theorem dX4_append_2 : decode cX4_append 2 = .ok (.istore_n 2, 1) := by decide +kernel
theorem dX4_append_3 : decode cX4_append 3 = .ok (.iload_n 2, 1) := by decide +kernel
theorem dX4_append_4 : decode cX4_append 4 = .ok (.ifCond .lt 50, 3) := by decide +kernel
theorem dX4_append_7 : decode cX4_append 7 = .ok (.iload_n 1, 1) := by decide +kernel
theorem dX4_append_8 : decode cX4_append 8 = .ok (.iload_n 2, 1) := by decide +kernel
theorem dX4_append_9 : decode cX4_append 9 = .ok (.iushr, 1) := by decide +kernel
theorem dX4_append_10 : decode cX4_append 10 = .ok (.sipush 255, 3) := by decide +kernel
theorem dX4_append_13 : decode cX4_append 13 = .ok (.iand, 1) := by decide +kernel
theorem dX4_append_14 : decode cX4_append 14 = .ok (.istore_n 3, 1) := by decide +kernel
theorem dX4_append_15 : decode cX4_append 15 = .ok (.iload_n 3, 1) := by decide +kernel
theorem dX4_append_16 : decode cX4_append 16 = .ok (.ifCond .eq 32, 3) := by decide +kernel
theorem dX4_append_19 : decode cX4_append 19 = .ok (.aload_n 0, 1) := by decide +kernel
theorem dX4_append_20 : decode cX4_append 20 = .ok (.getfield 15, 3) := by decide +kernel
theorem dX4_append_23 : decode cX4_append 23 = .ok (.bipush 120, 2) := by decide +kernel
theorem dX4_append_25 : decode cX4_append 25 = .ok (.if_icmp .ge 23, 3) := by decide +kernel
theorem dX4_append_28 : decode cX4_append 28 = .ok (.aload_n 0, 1) := by decide +kernel
theorem dX4_append_29 : decode cX4_append 29 = .ok (.getfield 11, 3) := by decide +kernel
theorem dX4_append_32 : decode cX4_append 32 = .ok (.aload_n 0, 1) := by decide +kernel
theorem dX4_append_33 : decode cX4_append 33 = .ok (.getfield 15, 3) := by decide +kernel
theorem dX4_append_36 : decode cX4_append 36 = .ok (.iload_n 3, 1) := by decide +kernel
theorem dX4_append_37 : decode cX4_append 37 = .ok (.iastore, 1) := by decide +kernel
theorem dX4_append_38 : decode cX4_append 38 = .ok (.aload_n 0, 1) := by decide +kernel
theorem dX4_append_39 : decode cX4_append 39 = .ok (.dup, 1) := by decide +kernel
theorem dX4_append_40 : decode cX4_append 40 = .ok (.getfield 15, 3) := by decide +kernel
theorem dX4_append_43 : decode cX4_append 43 = .ok (.iconst 1, 1) := by decide +kernel
theorem dX4_append_44 : decode cX4_append 44 = .ok (.iadd, 1) := by decide +kernel
theorem dX4_append_45 : decode cX4_append 45 = .ok (.putfield 15, 3) := by decide +kernel
theorem dX4_append_48 : decode cX4_append 48 = .ok (.iinc 2 (-8), 3) := by decide +kernel
theorem dX4_append_51 : decode cX4_append 51 = .ok (.goto (-48), 3) := by decide +kernel
theorem dX4_append_54 : decode cX4_append 54 = .ok (.return_, 1) := by decide +kernel
theorem dX4_readInto_0 : decode cX4_readInto 0 = .ok (.aload_n 1, 1) := by decide +kernel
theorem dX4_readInto_1 : decode cX4_readInto 1 = .ok (.invokevirtual 19, 3) := by decide +kernel
theorem dX4_readInto_4 : decode cX4_readInto 4 = .ok (.iconst 0, 1) := by decide +kernel
theorem dX4_readInto_5 : decode cX4_readInto 5 = .ok (.istore_n 2, 1) := by decide +kernel
theorem dX4_readInto_6 : decode cX4_readInto 6 = .ok (.iconst 0, 1) := by decide +kernel
theorem dX4_readInto_7 : decode cX4_readInto 7 = .ok (.istore_n 3, 1) := by decide +kernel
theorem dX4_readInto_8 : decode cX4_readInto 8 = .ok (.iload_n 3, 1) := by decide +kernel
theorem dX4_readInto_9 : decode cX4_readInto 9 = .ok (.bipush 120, 2) := by decide +kernel
theorem dX4_readInto_11 : decode cX4_readInto 11 = .ok (.if_icmp .gt 174, 3) := by decide +kernel
theorem dX4_readInto_14 : decode cX4_readInto 14 = .ok (.aload_n 0, 1) := by decide +kernel
theorem dX4_readInto_15 : decode cX4_readInto 15 = .ok (.iload_n 2, 1) := by decide +kernel
theorem dX4_readInto_16 : decode cX4_readInto 16 = .ok (.invokevirtual 24, 3) := by decide +kernel
theorem dX4_readInto_19 : decode cX4_readInto 19 = .ok (.istore_n 2, 1) := by decide +kernel
theorem dX4_readInto_20 : decode cX4_readInto 20 = .ok (.iload_n 2, 1) := by decide +kernel
theorem dX4_readInto_21 : decode cX4_readInto 21 = .ok (.aload_n 0, 1) := by decide +kernel
theorem dX4_readInto_22 : decode cX4_readInto 22 = .ok (.getfield 15, 3) := by decide +kernel
theorem dX4_readInto_25 : decode cX4_readInto 25 = .ok (.if_icmp .ge 15, 3) := by decide +kernel
theorem dX4_readInto_28 : decode cX4_readInto 28 = .ok (.aload_n 0, 1) := by decide +kernel
theorem dX4_readInto_29 : decode cX4_readInto 29 = .ok (.getfield 11, 3) := by decide +kernel
theorem dX4_readInto_32 : decode cX4_readInto 32 = .ok (.iload_n 2, 1) := by decide +kernel
theorem dX4_readInto_33 : decode cX4_readInto 33 = .ok (.iaload, 1) := by decide +kernel
theorem dX4_readInto_34 : decode cX4_readInto 34 = .ok (.invokestatic 28, 3) := by decide +kernel
theorem dX4_readInto_37 : decode cX4_readInto 37 = .ok (.goto 4, 3) := by decide +kernel
theorem dX4_readInto_40 : decode cX4_readInto 40 = .ok (.iconst (-1), 1) := by decide +kernel
theorem dX4_readInto_41 : decode cX4_readInto 41 = .ok (.istore 4, 2) := by decide +kernel
theorem dX4_readInto_43 : decode cX4_readInto 43 = .ok (.iload 4, 2) := by decide +kernel
theorem dX4_readInto_45 : decode cX4_readInto 45 = .ok (.iconst (-1), 1) := by decide +kernel
theorem dX4_readInto_46 : decode cX4_readInto 46 = .ok (.if_icmp .eq 25, 3) := by decide +kernel
theorem dX4_readInto_49 : decode cX4_readInto 49 = .ok (.iload 4, 2) := by decide +kernel
theorem dX4_readInto_51 : decode cX4_readInto 51 = .ok (.ifCond .ne 7, 3) := by decide +kernel
theorem dX4_readInto_54 : decode cX4_readInto 54 = .ok (.iconst 1, 1) := by decide +kernel
theorem dX4_readInto_55 : decode cX4_readInto 55 = .ok (.goto 4, 3) := by decide +kernel
theorem dX4_readInto_58 : decode cX4_readInto 58 = .ok (.iconst 0, 1) := by decide +kernel
theorem dX4_readInto_59 : decode cX4_readInto 59 = .ok (.iload_n 3, 1) := by decide +kernel
theorem dX4_readInto_60 : decode cX4_readInto 60 = .ok (.ifCond .ne 7, 3) := by decide +kernel
theorem dX4_readInto_63 : decode cX4_readInto 63 = .ok (.iconst 1, 1) := by decide +kernel
theorem dX4_readInto_64 : decode cX4_readInto 64 = .ok (.goto 4, 3) := by decide +kernel
theorem dX4_readInto_67 : decode cX4_readInto 67 = .ok (.iconst 0, 1) := by decide +kernel
theorem dX4_readInto_68 : decode cX4_readInto 68 = .ok (.if_icmp .eq 5, 3) := by decide +kernel
theorem dX4_readInto_71 : decode cX4_readInto 71 = .ok (.iload_n 2, 1) := by decide +kernel
theorem dX4_readInto_72 : decode cX4_readInto 72 = .ok (.ireturn, 1) := by decide +kernel
theorem dX4_readInto_73 : decode cX4_readInto 73 = .ok (.aload_n 0, 1) := by decide +kernel
theorem dX4_readInto_74 : decode cX4_readInto 74 = .ok (.iload_n 2, 1) := by decide +kernel
theorem dX4_readInto_75 : decode cX4_readInto 75 = .ok (.iconst 1, 1) := by decide +kernel
theorem dX4_readInto_76 : decode cX4_readInto 76 = .ok (.iadd, 1) := by decide +kernel
theorem dX4_readInto_77 : decode cX4_readInto 77 = .ok (.invokevirtual 24, 3) := by decide +kernel
theorem dX4_readInto_80 : decode cX4_readInto 80 = .ok (.istore 5, 2) := by decide +kernel
theorem dX4_readInto_82 : decode cX4_readInto 82 = .ok (.iload 5, 2) := by decide +kernel
theorem dX4_readInto_84 : decode cX4_readInto 84 = .ok (.iload_n 2, 1) := by decide +kernel
theorem dX4_readInto_85 : decode cX4_readInto 85 = .ok (.iconst 1, 1) := by decide +kernel
theorem dX4_readInto_86 : decode cX4_readInto 86 = .ok (.iadd, 1) := by decide +kernel
theorem dX4_readInto_87 : decode cX4_readInto 87 = .ok (.if_icmp .eq 12, 3) := by decide +kernel
theorem dX4_readInto_90 : decode cX4_readInto 90 = .ok (.aload_n 0, 1) := by decide +kernel
theorem dX4_readInto_91 : decode cX4_readInto 91 = .ok (.iload 5, 2) := by decide +kernel
theorem dX4_readInto_93 : decode cX4_readInto 93 = .ok (.invokevirtual 31, 3) := by decide +kernel
theorem dX4_readInto_96 : decode cX4_readInto 96 = .ok (.ifCond .ne 6, 3) := by decide +kernel
theorem dX4_readInto_99 : decode cX4_readInto 99 = .ok (.iload 5, 2) := by decide +kernel
theorem dX4_readInto_101 : decode cX4_readInto 101 = .ok (.ireturn, 1) := by decide +kernel
theorem dX4_readInto_102 : decode cX4_readInto 102 = .ok (.aload_n 0, 1) := by decide +kernel
theorem dX4_readInto_103 : decode cX4_readInto 103 = .ok (.iload 5, 2) := by decide +kernel
theorem dX4_readInto_105 : decode cX4_readInto 105 = .ok (.iconst 1, 1) := by decide +kernel
theorem dX4_readInto_106 : decode cX4_readInto 106 = .ok (.iadd, 1) := by decide +kernel
theorem dX4_readInto_107 : decode cX4_readInto 107 = .ok (.invokevirtual 31, 3) := by decide +kernel
theorem dX4_readInto_110 : decode cX4_readInto 110 = .ok (.ifCond .eq 10, 3) := by decide +kernel
theorem dX4_readInto_113 : decode cX4_readInto 113 = .ok (.iload 5, 2) := by decide +kernel
theorem dX4_readInto_115 : decode cX4_readInto 115 = .ok (.iconst 1, 1) := by decide +kernel
theorem dX4_readInto_116 : decode cX4_readInto 116 = .ok (.iadd, 1) := by decide +kernel
theorem dX4_readInto_117 : decode cX4_readInto 117 = .ok (.goto 5, 3) := by decide +kernel
theorem dX4_readInto_120 : decode cX4_readInto 120 = .ok (.iload 5, 2) := by decide +kernel
theorem dX4_readInto_122 : decode cX4_readInto 122 = .ok (.istore 6, 2) := by decide +kernel
theorem dX4_readInto_124 : decode cX4_readInto 124 = .ok (.aload_n 1, 1) := by decide +kernel
theorem dX4_readInto_125 : decode cX4_readInto 125 = .ok (.iload 4, 2) := by decide +kernel
theorem dX4_readInto_127 : decode cX4_readInto 127 = .ok (.aload_n 0, 1) := by decide +kernel
theorem dX4_readInto_128 : decode cX4_readInto 128 = .ok (.iload 5, 2) := by decide +kernel
theorem dX4_readInto_130 : decode cX4_readInto 130 = .ok (.iload 6, 2) := by decide +kernel
theorem dX4_readInto_132 : decode cX4_readInto 132 = .ok (.invokevirtual 35, 3) := by decide +kernel
theorem dX4_readInto_135 : decode cX4_readInto 135 = .ok (.invokevirtual 39, 3) := by decide +kernel
theorem dX4_readInto_138 : decode cX4_readInto 138 = .ok (.ifCond .ne 6, 3) := by decide +kernel
theorem dX4_readInto_141 : decode cX4_readInto 141 = .ok (.iload 6, 2) := by decide +kernel
theorem dX4_readInto_143 : decode cX4_readInto 143 = .ok (.ireturn, 1) := by decide +kernel
theorem dX4_readInto_144 : decode cX4_readInto 144 = .ok (.aload_n 0, 1) := by decide +kernel
theorem dX4_readInto_145 : decode cX4_readInto 145 = .ok (.iload 6, 2) := by decide +kernel
theorem dX4_readInto_147 : decode cX4_readInto 147 = .ok (.iconst 1, 1) := by decide +kernel
theorem dX4_readInto_148 : decode cX4_readInto 148 = .ok (.iadd, 1) := by decide +kernel
theorem dX4_readInto_149 : decode cX4_readInto 149 = .ok (.invokevirtual 24, 3) := by decide +kernel
theorem dX4_readInto_152 : decode cX4_readInto 152 = .ok (.istore_n 2, 1) := by decide +kernel
theorem dX4_readInto_153 : decode cX4_readInto 153 = .ok (.iload_n 2, 1) := by decide +kernel
theorem dX4_readInto_154 : decode cX4_readInto 154 = .ok (.aload_n 0, 1) := by decide +kernel
theorem dX4_readInto_155 : decode cX4_readInto 155 = .ok (.getfield 15, 3) := by decide +kernel
theorem dX4_readInto_158 : decode cX4_readInto 158 = .ok (.if_icmp .lt 5, 3) := by decide +kernel
theorem dX4_readInto_161 : decode cX4_readInto 161 = .ok (.iconst (-1), 1) := by decide +kernel
theorem dX4_readInto_162 : decode cX4_readInto 162 = .ok (.ireturn, 1) := by decide +kernel
theorem dX4_readInto_163 : decode cX4_readInto 163 = .ok (.aload_n 0, 1) := by decide +kernel
theorem dX4_readInto_164 : decode cX4_readInto 164 = .ok (.getfield 11, 3) := by decide +kernel
theorem dX4_readInto_167 : decode cX4_readInto 167 = .ok (.iload_n 2, 1) := by decide +kernel
theorem dX4_readInto_168 : decode cX4_readInto 168 = .ok (.iaload, 1) := by decide +kernel
theorem dX4_readInto_169 : decode cX4_readInto 169 = .ok (.bipush 59, 2) := by decide +kernel
theorem dX4_readInto_171 : decode cX4_readInto 171 = .ok (.if_icmp .eq 5, 3) := by decide +kernel
theorem dX4_readInto_174 : decode cX4_readInto 174 = .ok (.iload_n 2, 1) := by decide +kernel
theorem dX4_readInto_175 : decode cX4_readInto 175 = .ok (.ireturn, 1) := by decide +kernel
theorem dX4_readInto_176 : decode cX4_readInto 176 = .ok (.iinc 2 1, 3) := by decide +kernel
theorem dX4_readInto_179 : decode cX4_readInto 179 = .ok (.iinc 3 1, 3) := by decide +kernel
theorem dX4_readInto_182 : decode cX4_readInto 182 = .ok (.goto (-174), 3) := by decide +kernel
theorem dX4_readInto_185 : decode cX4_readInto 185 = .ok (.iload_n 2, 1) := by decide +kernel
theorem dX4_readInto_186 : decode cX4_readInto 186 = .ok (.ireturn, 1) := by decide +kernel
theorem dX4_pastBlanks_0 : decode cX4_pastBlanks 0 = .ok (.iload_n 1, 1) := by decide +kernel
theorem dX4_pastBlanks_1 : decode cX4_pastBlanks 1 = .ok (.istore_n 2, 1) := by decide +kernel
theorem dX4_pastBlanks_2 : decode cX4_pastBlanks 2 = .ok (.iload_n 2, 1) := by decide +kernel
theorem dX4_pastBlanks_3 : decode cX4_pastBlanks 3 = .ok (.aload_n 0, 1) := by decide +kernel
theorem dX4_pastBlanks_4 : decode cX4_pastBlanks 4 = .ok (.getfield 15, 3) := by decide +kernel
theorem dX4_pastBlanks_7 : decode cX4_pastBlanks 7 = .ok (.if_icmp .ge 20, 3) := by decide +kernel
theorem dX4_pastBlanks_10 : decode cX4_pastBlanks 10 = .ok (.aload_n 0, 1) := by decide +kernel
theorem dX4_pastBlanks_11 : decode cX4_pastBlanks 11 = .ok (.getfield 11, 3) := by decide +kernel
theorem dX4_pastBlanks_14 : decode cX4_pastBlanks 14 = .ok (.iload_n 2, 1) := by decide +kernel
theorem dX4_pastBlanks_15 : decode cX4_pastBlanks 15 = .ok (.iaload, 1) := by decide +kernel
theorem dX4_pastBlanks_16 : decode cX4_pastBlanks 16 = .ok (.bipush 32, 2) := by decide +kernel
theorem dX4_pastBlanks_18 : decode cX4_pastBlanks 18 = .ok (.if_icmp .ne 9, 3) := by decide +kernel
theorem dX4_pastBlanks_21 : decode cX4_pastBlanks 21 = .ok (.iinc 2 1, 3) := by decide +kernel
theorem dX4_pastBlanks_24 : decode cX4_pastBlanks 24 = .ok (.goto (-22), 3) := by decide +kernel
theorem dX4_pastBlanks_27 : decode cX4_pastBlanks 27 = .ok (.iload_n 2, 1) := by decide +kernel
theorem dX4_pastBlanks_28 : decode cX4_pastBlanks 28 = .ok (.ireturn, 1) := by decide +kernel
theorem dX4_isDigit_0 : decode cX4_isDigit 0 = .ok (.iload_n 1, 1) := by decide +kernel
theorem dX4_isDigit_1 : decode cX4_isDigit 1 = .ok (.aload_n 0, 1) := by decide +kernel
theorem dX4_isDigit_2 : decode cX4_isDigit 2 = .ok (.getfield 15, 3) := by decide +kernel
theorem dX4_isDigit_5 : decode cX4_isDigit 5 = .ok (.if_icmp .ge 29, 3) := by decide +kernel
theorem dX4_isDigit_8 : decode cX4_isDigit 8 = .ok (.aload_n 0, 1) := by decide +kernel
theorem dX4_isDigit_9 : decode cX4_isDigit 9 = .ok (.getfield 11, 3) := by decide +kernel
theorem dX4_isDigit_12 : decode cX4_isDigit 12 = .ok (.iload_n 1, 1) := by decide +kernel
theorem dX4_isDigit_13 : decode cX4_isDigit 13 = .ok (.iaload, 1) := by decide +kernel
theorem dX4_isDigit_14 : decode cX4_isDigit 14 = .ok (.bipush 48, 2) := by decide +kernel
theorem dX4_isDigit_16 : decode cX4_isDigit 16 = .ok (.if_icmp .lt 18, 3) := by decide +kernel
theorem dX4_isDigit_19 : decode cX4_isDigit 19 = .ok (.aload_n 0, 1) := by decide +kernel
theorem dX4_isDigit_20 : decode cX4_isDigit 20 = .ok (.getfield 11, 3) := by decide +kernel
theorem dX4_isDigit_23 : decode cX4_isDigit 23 = .ok (.iload_n 1, 1) := by decide +kernel
theorem dX4_isDigit_24 : decode cX4_isDigit 24 = .ok (.iaload, 1) := by decide +kernel
theorem dX4_isDigit_25 : decode cX4_isDigit 25 = .ok (.bipush 57, 2) := by decide +kernel
theorem dX4_isDigit_27 : decode cX4_isDigit 27 = .ok (.if_icmp .gt 7, 3) := by decide +kernel
theorem dX4_isDigit_30 : decode cX4_isDigit 30 = .ok (.iconst 1, 1) := by decide +kernel
theorem dX4_isDigit_31 : decode cX4_isDigit 31 = .ok (.goto 4, 3) := by decide +kernel
theorem dX4_isDigit_34 : decode cX4_isDigit 34 = .ok (.iconst 0, 1) := by decide +kernel
theorem dX4_isDigit_35 : decode cX4_isDigit 35 = .ok (.ireturn, 1) := by decide +kernel
theorem dX4_valueOf_0 : decode cX4_valueOf 0 = .ok (.iconst 0, 1) := by decide +kernel
theorem dX4_valueOf_1 : decode cX4_valueOf 1 = .ok (.istore_n 3, 1) := by decide +kernel
theorem dX4_valueOf_2 : decode cX4_valueOf 2 = .ok (.iload_n 1, 1) := by decide +kernel
theorem dX4_valueOf_3 : decode cX4_valueOf 3 = .ok (.istore 4, 2) := by decide +kernel
theorem dX4_valueOf_5 : decode cX4_valueOf 5 = .ok (.iload 4, 2) := by decide +kernel
theorem dX4_valueOf_7 : decode cX4_valueOf 7 = .ok (.iload_n 2, 1) := by decide +kernel
theorem dX4_valueOf_8 : decode cX4_valueOf 8 = .ok (.if_icmp .gt 34, 3) := by decide +kernel
theorem dX4_valueOf_11 : decode cX4_valueOf 11 = .ok (.iload 4, 2) := by decide +kernel
theorem dX4_valueOf_13 : decode cX4_valueOf 13 = .ok (.aload_n 0, 1) := by decide +kernel
theorem dX4_valueOf_14 : decode cX4_valueOf 14 = .ok (.getfield 15, 3) := by decide +kernel
theorem dX4_valueOf_17 : decode cX4_valueOf 17 = .ok (.if_icmp .ge 25, 3) := by decide +kernel
theorem dX4_valueOf_20 : decode cX4_valueOf 20 = .ok (.bipush 10, 2) := by decide +kernel
theorem dX4_valueOf_22 : decode cX4_valueOf 22 = .ok (.iload_n 3, 1) := by decide +kernel
theorem dX4_valueOf_23 : decode cX4_valueOf 23 = .ok (.imul, 1) := by decide +kernel
theorem dX4_valueOf_24 : decode cX4_valueOf 24 = .ok (.aload_n 0, 1) := by decide +kernel
theorem dX4_valueOf_25 : decode cX4_valueOf 25 = .ok (.getfield 11, 3) := by decide +kernel
theorem dX4_valueOf_28 : decode cX4_valueOf 28 = .ok (.iload 4, 2) := by decide +kernel
theorem dX4_valueOf_30 : decode cX4_valueOf 30 = .ok (.iaload, 1) := by decide +kernel
theorem dX4_valueOf_31 : decode cX4_valueOf 31 = .ok (.iadd, 1) := by decide +kernel
theorem dX4_valueOf_32 : decode cX4_valueOf 32 = .ok (.bipush 48, 2) := by decide +kernel
theorem dX4_valueOf_34 : decode cX4_valueOf 34 = .ok (.isub, 1) := by decide +kernel
theorem dX4_valueOf_35 : decode cX4_valueOf 35 = .ok (.istore_n 3, 1) := by decide +kernel
theorem dX4_valueOf_36 : decode cX4_valueOf 36 = .ok (.iinc 4 1, 3) := by decide +kernel
theorem dX4_valueOf_39 : decode cX4_valueOf 39 = .ok (.goto (-34), 3) := by decide +kernel
theorem dX4_valueOf_42 : decode cX4_valueOf 42 = .ok (.iload_n 3, 1) := by decide +kernel
theorem dX4_valueOf_43 : decode cX4_valueOf 43 = .ok (.ireturn, 1) := by decide +kernel
theorem dX5_init_0 : decode cX5_init 0 = .ok (.aload_n 0, 1) := by decide +kernel
theorem dX5_init_1 : decode cX5_init 1 = .ok (.invokespecial 3, 3) := by decide +kernel
theorem dX5_init_4 : decode cX5_init 4 = .ok (.aload_n 0, 1) := by decide +kernel
theorem dX5_init_5 : decode cX5_init 5 = .ok (.aload_n 1, 1) := by decide +kernel
theorem dX5_init_6 : decode cX5_init 6 = .ok (.putfield 9, 3) := by decide +kernel
theorem dX5_init_9 : decode cX5_init 9 = .ok (.aload_n 0, 1) := by decide +kernel
theorem dX5_init_10 : decode cX5_init 10 = .ok (.bipush 12, 2) := by decide +kernel
theorem dX5_init_12 : decode cX5_init 12 = .ok (.newarray .int, 2) := by decide +kernel
theorem dX5_init_14 : decode cX5_init 14 = .ok (.putfield 15, 3) := by decide +kernel
theorem dX5_init_17 : decode cX5_init 17 = .ok (.aload_n 0, 1) := by decide +kernel
theorem dX5_init_18 : decode cX5_init 18 = .ok (.bipush 12, 2) := by decide +kernel
theorem dX5_init_20 : decode cX5_init 20 = .ok (.newarray .int, 2) := by decide +kernel
theorem dX5_init_22 : decode cX5_init 22 = .ok (.putfield 19, 3) := by decide +kernel
theorem dX5_init_25 : decode cX5_init 25 = .ok (.return_, 1) := by decide +kernel
theorem dX5_happeningOf_0 : decode cX5_happeningOf 0 = .ok (.iconst 0, 1) := by decide +kernel
theorem dX5_happeningOf_1 : decode cX5_happeningOf 1 = .ok (.istore_n 2, 1) := by decide +kernel
theorem dX5_happeningOf_2 : decode cX5_happeningOf 2 = .ok (.iconst 0, 1) := by decide +kernel
theorem dX5_happeningOf_3 : decode cX5_happeningOf 3 = .ok (.istore_n 3, 1) := by decide +kernel
theorem dX5_happeningOf_4 : decode cX5_happeningOf 4 = .ok (.iload_n 3, 1) := by decide +kernel
theorem dX5_happeningOf_5 : decode cX5_happeningOf 5 = .ok (.aload_n 0, 1) := by decide +kernel
theorem dX5_happeningOf_6 : decode cX5_happeningOf 6 = .ok (.getfield 9, 3) := by decide +kernel
theorem dX5_happeningOf_9 : decode cX5_happeningOf 9 = .ok (.getfield 22, 3) := by decide +kernel
theorem dX5_happeningOf_12 : decode cX5_happeningOf 12 = .ok (.if_icmp .ge 30, 3) := by decide +kernel
theorem dX5_happeningOf_15 : decode cX5_happeningOf 15 = .ok (.aload_n 0, 1) := by decide +kernel
theorem dX5_happeningOf_16 : decode cX5_happeningOf 16 = .ok (.getfield 15, 3) := by decide +kernel
theorem dX5_happeningOf_19 : decode cX5_happeningOf 19 = .ok (.iload_n 3, 1) := by decide +kernel
theorem dX5_happeningOf_20 : decode cX5_happeningOf 20 = .ok (.iaload, 1) := by decide +kernel
theorem dX5_happeningOf_21 : decode cX5_happeningOf 21 = .ok (.aload_n 0, 1) := by decide +kernel
theorem dX5_happeningOf_22 : decode cX5_happeningOf 22 = .ok (.getfield 15, 3) := by decide +kernel
theorem dX5_happeningOf_25 : decode cX5_happeningOf 25 = .ok (.iload_n 1, 1) := by decide +kernel
theorem dX5_happeningOf_26 : decode cX5_happeningOf 26 = .ok (.iaload, 1) := by decide +kernel
