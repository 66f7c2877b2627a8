theorem dX0_init_0 : decode cX0_init 0 = .ok (.aload_n 0, 1) := by decide +kernel
theorem dX0_init_1 : decode cX0_init 1 = .ok (.invokespecial 3, 3) := by decide +kernel
theorem dX0_init_4 : decode cX0_init 4 = .ok (.aload_n 0, 1) := by decide +kernel
theorem dX0_init_5 : decode cX0_init 5 = .ok (.new 9, 3) := by decide +kernel
theorem dX0_init_8 : decode cX0_init 8 = .ok (.dup, 1) := by decide +kernel
theorem dX0_init_9 : decode cX0_init 9 = .ok (.invokespecial 11, 3) := by decide +kernel
theorem dX0_init_12 : decode cX0_init 12 = .ok (.putfield 12, 3) := by decide +kernel
theorem dX0_init_15 : decode cX0_init 15 = .ok (.aload_n 0, 1) := by decide +kernel
theorem dX0_init_16 : decode cX0_init 16 = .ok (.sipush 384, 3) := by decide +kernel
theorem dX0_init_19 : decode cX0_init 19 = .ok (.newarray .int, 2) := by decide +kernel
theorem dX0_init_21 : decode cX0_init 21 = .ok (.putfield 18, 3) := by decide +kernel
theorem dX0_init_24 : decode cX0_init 24 = .ok (.aload_n 0, 1) := by decide +kernel
theorem dX0_init_25 : decode cX0_init 25 = .ok (.iconst 1, 1) := by decide +kernel
theorem dX0_init_26 : decode cX0_init 26 = .ok (.putfield 22, 3) := by decide +kernel
theorem dX0_init_29 : decode cX0_init 29 = .ok (.aload_n 0, 1) := by decide +kernel
theorem dX0_init_30 : decode cX0_init 30 = .ok (.iconst 2, 1) := by decide +kernel
theorem dX0_init_31 : decode cX0_init 31 = .ok (.putfield 26, 3) := by decide +kernel
theorem dX0_init_34 : decode cX0_init 34 = .ok (.aload_n 0, 1) := by decide +kernel
theorem dX0_init_35 : decode cX0_init 35 = .ok (.iconst 0, 1) := by decide +kernel
theorem dX0_init_36 : decode cX0_init 36 = .ok (.putfield 30, 3) := by decide +kernel
theorem dX0_init_39 : decode cX0_init 39 = .ok (.aload_n 0, 1) := by decide +kernel
theorem dX0_init_40 : decode cX0_init 40 = .ok (.aload_n 1, 1) := by decide +kernel
theorem dX0_init_41 : decode cX0_init 41 = .ok (.putfield 33, 3) := by decide +kernel
theorem dX0_init_44 : decode cX0_init 44 = .ok (.aload_n 0, 1) := by decide +kernel
theorem dX0_init_45 : decode cX0_init 45 = .ok (.aload_n 2, 1) := by decide +kernel
theorem dX0_init_46 : decode cX0_init 46 = .ok (.putfield 37, 3) := by decide +kernel
theorem dX0_init_49 : decode cX0_init 49 = .ok (.return_, 1) := by decide +kernel
theorem dX0_depth_0 : decode cX0_depth 0 = .ok (.aload_n 0, 1) := by decide +kernel
theorem dX0_depth_1 : decode cX0_depth 1 = .ok (.getfield 26, 3) := by decide +kernel
theorem dX0_depth_4 : decode cX0_depth 4 = .ok (.ireturn, 1) := by decide +kernel
theorem dX0_mode_0 : decode cX0_mode 0 = .ok (.aload_n 0, 1) := by decide +kernel
theorem dX0_mode_1 : decode cX0_mode 1 = .ok (.getfield 30, 3) := by decide +kernel
theorem dX0_mode_4 : decode cX0_mode 4 = .ok (.ireturn, 1) := by decide +kernel
theorem dX0_setManner_0 : decode cX0_setManner 0 = .ok (.aload_n 0, 1) := by decide +kernel
theorem dX0_setManner_1 : decode cX0_setManner 1 = .ok (.iload_n 1, 1) := by decide +kernel
theorem dX0_setManner_2 : decode cX0_setManner 2 = .ok (.putfield 26, 3) := by decide +kernel
theorem dX0_setManner_5 : decode cX0_setManner 5 = .ok (.aload_n 0, 1) := by decide +kernel
theorem dX0_setManner_6 : decode cX0_setManner 6 = .ok (.iload_n 2, 1) := by decide +kernel
theorem dX0_setManner_7 : decode cX0_setManner 7 = .ok (.putfield 30, 3) := by decide +kernel
theorem dX0_setManner_10 : decode cX0_setManner 10 = .ok (.aload_n 0, 1) := by decide +kernel
theorem dX0_setManner_11 : decode cX0_setManner 11 = .ok (.iconst 1, 1) := by decide +kernel
theorem dX0_setManner_12 : decode cX0_setManner 12 = .ok (.putfield 22, 3) := by decide +kernel
theorem dX0_setManner_15 : decode cX0_setManner 15 = .ok (.return_, 1) := by decide +kernel
theorem dX0_outdate_0 : decode cX0_outdate 0 = .ok (.aload_n 0, 1) := by decide +kernel
theorem dX0_outdate_1 : decode cX0_outdate 1 = .ok (.iconst 1, 1) := by decide +kernel
theorem dX0_outdate_2 : decode cX0_outdate 2 = .ok (.putfield 22, 3) := by decide +kernel
theorem dX0_outdate_5 : decode cX0_outdate 5 = .ok (.return_, 1) := by decide +kernel
theorem dX0_renew_0 : decode cX0_renew 0 = .ok (.aload_n 0, 1) := by decide +kernel
theorem dX0_renew_1 : decode cX0_renew 1 = .ok (.getfield 22, 3) := by decide +kernel
theorem dX0_renew_4 : decode cX0_renew 4 = .ok (.ifCond .eq 43, 3) := by decide +kernel
theorem dX0_renew_7 : decode cX0_renew 7 = .ok (.aload_n 0, 1) := by decide +kernel
theorem dX0_renew_8 : decode cX0_renew 8 = .ok (.getfield 37, 3) := by decide +kernel
theorem dX0_renew_11 : decode cX0_renew 11 = .ok (.aload_n 0, 1) := by decide +kernel
theorem dX0_renew_12 : decode cX0_renew 12 = .ok (.getfield 33, 3) := by decide +kernel
theorem dX0_renew_15 : decode cX0_renew 15 = .ok (.invokevirtual 41, 3) := by decide +kernel
theorem dX0_renew_18 : decode cX0_renew 18 = .ok (.aload_n 0, 1) := by decide +kernel
theorem dX0_renew_19 : decode cX0_renew 19 = .ok (.getfield 12, 3) := by decide +kernel
theorem dX0_renew_22 : decode cX0_renew 22 = .ok (.aload_n 0, 1) := by decide +kernel
theorem dX0_renew_23 : decode cX0_renew 23 = .ok (.getfield 37, 3) := by decide +kernel
theorem dX0_renew_26 : decode cX0_renew 26 = .ok (.aload_n 0, 1) := by decide +kernel
theorem dX0_renew_27 : decode cX0_renew 27 = .ok (.getfield 26, 3) := by decide +kernel
theorem dX0_renew_30 : decode cX0_renew 30 = .ok (.invokevirtual 47, 3) := by decide +kernel
theorem dX0_renew_33 : decode cX0_renew 33 = .ok (.aload_n 0, 1) := by decide +kernel
theorem dX0_renew_34 : decode cX0_renew 34 = .ok (.getfield 18, 3) := by decide +kernel
theorem dX0_renew_37 : decode cX0_renew 37 = .ok (.bipush (-2), 2) := by decide +kernel
theorem dX0_renew_39 : decode cX0_renew 39 = .ok (.invokestatic 51, 3) := by decide +kernel
theorem dX0_renew_42 : decode cX0_renew 42 = .ok (.aload_n 0, 1) := by decide +kernel
theorem dX0_renew_43 : decode cX0_renew 43 = .ok (.iconst 0, 1) := by decide +kernel
theorem dX0_renew_44 : decode cX0_renew 44 = .ok (.putfield 22, 3) := by decide +kernel
theorem dX0_renew_47 : decode cX0_renew 47 = .ok (.return_, 1) := by decide +kernel
theorem dX0_grown_0 : decode cX0_grown 0 = .ok (.aload_n 0, 1) := by decide +kernel
theorem dX0_grown_1 : decode cX0_grown 1 = .ok (.getfield 12, 3) := by decide +kernel
theorem dX0_grown_4 : decode cX0_grown 4 = .ok (.areturn, 1) := by decide +kernel
theorem dX0_classAt_0 : decode cX0_classAt 0 = .ok (.bipush 64, 2) := by decide +kernel
theorem dX0_classAt_2 : decode cX0_classAt 2 = .ok (.iload_n 1, 1) := by decide +kernel
theorem dX0_classAt_3 : decode cX0_classAt 3 = .ok (.imul, 1) := by decide +kernel
theorem dX0_classAt_4 : decode cX0_classAt 4 = .ok (.iload_n 2, 1) := by decide +kernel
theorem dX0_classAt_5 : decode cX0_classAt 5 = .ok (.iadd, 1) := by decide +kernel
theorem dX0_classAt_6 : decode cX0_classAt 6 = .ok (.istore_n 3, 1) := by decide +kernel
theorem dX0_classAt_7 : decode cX0_classAt 7 = .ok (.aload_n 0, 1) := by decide +kernel
theorem dX0_classAt_8 : decode cX0_classAt 8 = .ok (.getfield 18, 3) := by decide +kernel
theorem dX0_classAt_11 : decode cX0_classAt 11 = .ok (.iload_n 3, 1) := by decide +kernel
theorem dX0_classAt_12 : decode cX0_classAt 12 = .ok (.iaload, 1) := by decide +kernel
theorem dX0_classAt_13 : decode cX0_classAt 13 = .ok (.bipush (-2), 2) := by decide +kernel
theorem dX0_classAt_15 : decode cX0_classAt 15 = .ok (.if_icmp .ne 74, 3) := by decide +kernel
theorem dX0_classAt_18 : decode cX0_classAt 18 = .ok (.aload_n 0, 1) := by decide +kernel
theorem dX0_classAt_19 : decode cX0_classAt 19 = .ok (.getfield 33, 3) := by decide +kernel
theorem dX0_classAt_22 : decode cX0_classAt 22 = .ok (.iload_n 1, 1) := by decide +kernel
theorem dX0_classAt_23 : decode cX0_classAt 23 = .ok (.iload_n 2, 1) := by decide +kernel
theorem dX0_classAt_24 : decode cX0_classAt 24 = .ok (.invokevirtual 57, 3) := by decide +kernel
theorem dX0_classAt_27 : decode cX0_classAt 27 = .ok (.iconst 3, 1) := by decide +kernel
theorem dX0_classAt_28 : decode cX0_classAt 28 = .ok (.if_icmp .eq 13, 3) := by decide +kernel
theorem dX0_classAt_31 : decode cX0_classAt 31 = .ok (.aload_n 0, 1) := by decide +kernel
theorem dX0_classAt_32 : decode cX0_classAt 32 = .ok (.getfield 18, 3) := by decide +kernel
theorem dX0_classAt_35 : decode cX0_classAt 35 = .ok (.iload_n 3, 1) := by decide +kernel
theorem dX0_classAt_36 : decode cX0_classAt 36 = .ok (.iconst (-1), 1) := by decide +kernel
theorem dX0_classAt_37 : decode cX0_classAt 37 = .ok (.iastore, 1) := by decide +kernel
theorem dX0_classAt_38 : decode cX0_classAt 38 = .ok (.goto 51, 3) := by decide +kernel
theorem dX0_classAt_41 : decode cX0_classAt 41 = .ok (.aload_n 0, 1) := by decide +kernel
theorem dX0_classAt_42 : decode cX0_classAt 42 = .ok (.getfield 30, 3) := by decide +kernel
theorem dX0_classAt_45 : decode cX0_classAt 45 = .ok (.ifCond .ne 25, 3) := by decide +kernel
theorem dX0_classAt_48 : decode cX0_classAt 48 = .ok (.aload_n 0, 1) := by decide +kernel
theorem dX0_classAt_49 : decode cX0_classAt 49 = .ok (.getfield 18, 3) := by decide +kernel
theorem dX0_classAt_52 : decode cX0_classAt 52 = .ok (.iload_n 3, 1) := by decide +kernel
theorem dX0_classAt_53 : decode cX0_classAt 53 = .ok (.aload_n 0, 1) := by decide +kernel
theorem dX0_classAt_54 : decode cX0_classAt 54 = .ok (.getfield 12, 3) := by decide +kernel
theorem dX0_classAt_57 : decode cX0_classAt 57 = .ok (.aload_n 0, 1) := by decide +kernel
theorem dX0_classAt_58 : decode cX0_classAt 58 = .ok (.getfield 33, 3) := by decide +kernel
theorem dX0_classAt_61 : decode cX0_classAt 61 = .ok (.iload_n 1, 1) := by decide +kernel
theorem dX0_classAt_62 : decode cX0_classAt 62 = .ok (.iload_n 2, 1) := by decide +kernel
theorem dX0_classAt_63 : decode cX0_classAt 63 = .ok (.invokevirtual 63, 3) := by decide +kernel
theorem dX0_classAt_66 : decode cX0_classAt 66 = .ok (.iastore, 1) := by decide +kernel
theorem dX0_classAt_67 : decode cX0_classAt 67 = .ok (.goto 22, 3) := by decide +kernel
theorem dX0_classAt_70 : decode cX0_classAt 70 = .ok (.aload_n 0, 1) := by decide +kernel
theorem dX0_classAt_71 : decode cX0_classAt 71 = .ok (.getfield 18, 3) := by decide +kernel
theorem dX0_classAt_74 : decode cX0_classAt 74 = .ok (.iload_n 3, 1) := by decide +kernel
theorem dX0_classAt_75 : decode cX0_classAt 75 = .ok (.aload_n 0, 1) := by decide +kernel
theorem dX0_classAt_76 : decode cX0_classAt 76 = .ok (.getfield 37, 3) := by decide +kernel
theorem dX0_classAt_79 : decode cX0_classAt 79 = .ok (.aload_n 0, 1) := by decide +kernel
theorem dX0_classAt_80 : decode cX0_classAt 80 = .ok (.getfield 33, 3) := by decide +kernel
theorem dX0_classAt_83 : decode cX0_classAt 83 = .ok (.iload_n 1, 1) := by decide +kernel
theorem dX0_classAt_84 : decode cX0_classAt 84 = .ok (.iload_n 2, 1) := by decide +kernel
theorem dX0_classAt_85 : decode cX0_classAt 85 = .ok (.invokevirtual 67, 3) := by decide +kernel
theorem dX0_classAt_88 : decode cX0_classAt 88 = .ok (.iastore, 1) := by decide +kernel
theorem dX0_classAt_89 : decode cX0_classAt 89 = .ok (.aload_n 0, 1) := by decide +kernel
theorem dX0_classAt_90 : decode cX0_classAt 90 = .ok (.getfield 18, 3) := by decide +kernel
theorem dX0_classAt_93 : decode cX0_classAt 93 = .ok (.iload_n 3, 1) := by decide +kernel
theorem dX0_classAt_94 : decode cX0_classAt 94 = .ok (.iaload, 1) := by decide +kernel
theorem dX0_classAt_95 : decode cX0_classAt 95 = .ok (.ireturn, 1) := by decide +kernel
theorem dX0_tally_0 : decode cX0_tally 0 = .ok (.iconst 0, 1) := by decide +kernel
theorem dX0_tally_1 : decode cX0_tally 1 = .ok (.istore_n 3, 1) := by decide +kernel
theorem dX0_tally_2 : decode cX0_tally 2 = .ok (.iconst 0, 1) := by decide +kernel
theorem dX0_tally_3 : decode cX0_tally 3 = .ok (.istore 4, 2) := by decide +kernel
theorem dX0_tally_5 : decode cX0_tally 5 = .ok (.iload 4, 2) := by decide +kernel
theorem dX0_tally_7 : decode cX0_tally 7 = .ok (.bipush 64, 2) := by decide +kernel
theorem dX0_tally_9 : decode cX0_tally 9 = .ok (.if_icmp .ge 28, 3) := by decide +kernel
theorem dX0_tally_12 : decode cX0_tally 12 = .ok (.iload_n 3, 1) := by decide +kernel
theorem dX0_tally_13 : decode cX0_tally 13 = .ok (.aload_n 0, 1) := by decide +kernel
theorem dX0_tally_14 : decode cX0_tally 14 = .ok (.iload_n 1, 1) := by decide +kernel
theorem dX0_tally_15 : decode cX0_tally 15 = .ok (.iload 4, 2) := by decide +kernel
theorem dX0_tally_17 : decode cX0_tally 17 = .ok (.invokevirtual 70, 3) := by decide +kernel
theorem dX0_tally_20 : decode cX0_tally 20 = .ok (.iload_n 2, 1) := by decide +kernel
theorem dX0_tally_21 : decode cX0_tally 21 = .ok (.if_icmp .ne 7, 3) := by decide +kernel
theorem dX0_tally_24 : decode cX0_tally 24 = .ok (.iconst 1, 1) := by decide +kernel
theorem dX0_tally_25 : decode cX0_tally 25 = .ok (.goto 4, 3) := by decide +kernel
theorem dX0_tally_28 : decode cX0_tally 28 = .ok (.iconst 0, 1) := by decide +kernel
theorem dX0_tally_29 : decode cX0_tally 29 = .ok (.iadd, 1) := by decide +kernel
theorem dX0_tally_30 : decode cX0_tally 30 = .ok (.istore_n 3, 1) := by decide +kernel
theorem dX0_tally_31 : decode cX0_tally 31 = .ok (.iinc 4 1, 3) := by decide +kernel
theorem dX0_tally_34 : decode cX0_tally 34 = .ok (.goto (-29), 3) := by decide +kernel
theorem dX0_tally_37 : decode cX0_tally 37 = .ok (.iload_n 3, 1) := by decide +kernel
theorem dX0_tally_38 : decode cX0_tally 38 = .ok (.ireturn, 1) := by decide +kernel
theorem dX1_init_0 : decode cX1_init 0 = .ok (.aload_n 0, 1) := by decide +kernel
theorem dX1_init_1 : decode cX1_init 1 = .ok (.invokespecial 3, 3) := by decide +kernel
theorem dX1_init_4 : decode cX1_init 4 = .ok (.aload_n 0, 1) := by decide +kernel
theorem dX1_init_5 : decode cX1_init 5 = .ok (.bipush 16, 2) := by decide +kernel
theorem dX1_init_7 : decode cX1_init 7 = .ok (.newarray .boolean, 2) := by decide +kernel
theorem dX1_init_9 : decode cX1_init 9 = .ok (.putfield 9, 3) := by decide +kernel
theorem dX1_init_12 : decode cX1_init 12 = .ok (.aload_n 0, 1) := by decide +kernel
theorem dX1_init_13 : decode cX1_init 13 = .ok (.bipush 24, 2) := by decide +kernel
theorem dX1_init_15 : decode cX1_init 15 = .ok (.newarray .int, 2) := by decide +kernel
theorem dX1_init_17 : decode cX1_init 17 = .ok (.putfield 15, 3) := by decide +kernel
theorem dX1_init_20 : decode cX1_init 20 = .ok (.aload_n 0, 1) := by decide +kernel
theorem dX1_init_21 : decode cX1_init 21 = .ok (.bipush 6, 2) := by decide +kernel
theorem dX1_init_23 : decode cX1_init 23 = .ok (.newarray .int, 2) := by decide +kernel
theorem dX1_init_25 : decode cX1_init 25 = .ok (.putfield 19, 3) := by decide +kernel
theorem dX1_init_28 : decode cX1_init 28 = .ok (.return_, 1) := by decide +kernel
theorem dX1_setMove_0 : decode cX1_setMove 0 = .ok (.aload_n 0, 1) := by decide +kernel
theorem dX1_setMove_1 : decode cX1_setMove 1 = .ok (.getfield 9, 3) := by decide +kernel
theorem dX1_setMove_4 : decode cX1_setMove 4 = .ok (.iconst 4, 1) := by decide +kernel
theorem dX1_setMove_5 : decode cX1_setMove 5 = .ok (.iload_n 1, 1) := by decide +kernel
theorem dX1_setMove_6 : decode cX1_setMove 6 = .ok (.imul, 1) := by decide +kernel
theorem dX1_setMove_7 : decode cX1_setMove 7 = .ok (.iload_n 2, 1) := by decide +kernel
theorem dX1_setMove_8 : decode cX1_setMove 8 = .ok (.iadd, 1) := by decide +kernel
theorem dX1_setMove_9 : decode cX1_setMove 9 = .ok (.iload_n 3, 1) := by decide +kernel
theorem dX1_setMove_10 : decode cX1_setMove 10 = .ok (.ifCond .ne 7, 3) := by decide +kernel
theorem dX1_setMove_13 : decode cX1_setMove 13 = .ok (.iconst 1, 1) := by decide +kernel
theorem dX1_setMove_14 : decode cX1_setMove 14 = .ok (.goto 4, 3) := by decide +kernel
theorem dX1_setMove_17 : decode cX1_setMove 17 = .ok (.iconst 0, 1) := by decide +kernel
theorem dX1_setMove_18 : decode cX1_setMove 18 = .ok (.bastore, 1) := by decide +kernel
theorem dX1_setMove_19 : decode cX1_setMove 19 = .ok (.return_, 1) := by decide +kernel
theorem dX1_seek_0 : decode cX1_seek 0 = .ok (.iconst 5, 1) := by decide +kernel
theorem dX1_seek_1 : decode cX1_seek 1 = .ok (.istore_n 3, 1) := by decide +kernel
theorem dX1_seek_2 : decode cX1_seek 2 = .ok (.iload_n 3, 1) := by decide +kernel
theorem dX1_seek_3 : decode cX1_seek 3 = .ok (.ifCond .lt 73, 3) := by decide +kernel
theorem dX1_seek_6 : decode cX1_seek 6 = .ok (.aload_n 1, 1) := by decide +kernel
theorem dX1_seek_7 : decode cX1_seek 7 = .ok (.iload_n 3, 1) := by decide +kernel
theorem dX1_seek_8 : decode cX1_seek 8 = .ok (.iload_n 2, 1) := by decide +kernel
theorem dX1_seek_9 : decode cX1_seek 9 = .ok (.invokevirtual 22, 3) := by decide +kernel
theorem dX1_seek_12 : decode cX1_seek 12 = .ok (.istore 4, 2) := by decide +kernel
theorem dX1_seek_14 : decode cX1_seek 14 = .ok (.iconst 0, 1) := by decide +kernel
theorem dX1_seek_15 : decode cX1_seek 15 = .ok (.istore 5, 2) := by decide +kernel
theorem dX1_seek_17 : decode cX1_seek 17 = .ok (.iload 5, 2) := by decide +kernel
theorem dX1_seek_19 : decode cX1_seek 19 = .ok (.iconst 4, 1) := by decide +kernel
theorem dX1_seek_20 : decode cX1_seek 20 = .ok (.if_icmp .ge 50, 3) := by decide +kernel
theorem dX1_seek_23 : decode cX1_seek 23 = .ok (.iload 4, 2) := by decide +kernel
theorem dX1_seek_25 : decode cX1_seek 25 = .ok (.iconst (-1), 1) := by decide +kernel
theorem dX1_seek_26 : decode cX1_seek 26 = .ok (.if_icmp .eq 10, 3) := by decide +kernel
theorem dX1_seek_29 : decode cX1_seek 29 = .ok (.iload 4, 2) := by decide +kernel
theorem dX1_seek_31 : decode cX1_seek 31 = .ok (.iload 5, 2) := by decide +kernel
theorem dX1_seek_33 : decode cX1_seek 33 = .ok (.if_icmp .ne 7, 3) := by decide +kernel
theorem dX1_seek_36 : decode cX1_seek 36 = .ok (.iconst 0, 1) := by decide +kernel
theorem dX1_seek_37 : decode cX1_seek 37 = .ok (.goto 4, 3) := by decide +kernel
theorem dX1_seek_40 : decode cX1_seek 40 = .ok (.iconst 1, 1) := by decide +kernel
theorem dX1_seek_41 : decode cX1_seek 41 = .ok (.istore 6, 2) := by decide +kernel
theorem dX1_seek_43 : decode cX1_seek 43 = .ok (.aload_n 0, 1) := by decide +kernel
theorem dX1_seek_44 : decode cX1_seek 44 = .ok (.getfield 15, 3) := by decide +kernel
theorem dX1_seek_47 : decode cX1_seek 47 = .ok (.iconst 4, 1) := by decide +kernel
theorem dX1_seek_48 : decode cX1_seek 48 = .ok (.iload_n 3, 1) := by decide +kernel
theorem dX1_seek_49 : decode cX1_seek 49 = .ok (.imul, 1) := by decide +kernel
theorem dX1_seek_50 : decode cX1_seek 50 = .ok (.iload 5, 2) := by decide +kernel
theorem dX1_seek_52 : decode cX1_seek 52 = .ok (.iadd, 1) := by decide +kernel
theorem dX1_seek_53 : decode cX1_seek 53 = .ok (.iload 6, 2) := by decide +kernel
theorem dX1_seek_55 : decode cX1_seek 55 = .ok (.aload_n 0, 1) := by decide +kernel
theorem dX1_seek_56 : decode cX1_seek 56 = .ok (.iload_n 3, 1) := by decide +kernel
theorem dX1_seek_57 : decode cX1_seek 57 = .ok (.iload 5, 2) := by decide +kernel
theorem dX1_seek_59 : decode cX1_seek 59 = .ok (.invokevirtual 28, 3) := by decide +kernel
theorem dX1_seek_62 : decode cX1_seek 62 = .ok (.iadd, 1) := by decide +kernel
theorem dX1_seek_63 : decode cX1_seek 63 = .ok (.iastore, 1) := by decide +kernel
theorem dX1_seek_64 : decode cX1_seek 64 = .ok (.iinc 5 1, 3) := by decide +kernel
theorem dX1_seek_67 : decode cX1_seek 67 = .ok (.goto (-50), 3) := by decide +kernel
theorem dX1_seek_70 : decode cX1_seek 70 = .ok (.iinc 3 (-1), 3) := by decide +kernel
theorem dX1_seek_73 : decode cX1_seek 73 = .ok (.goto (-71), 3) := by decide +kernel
theorem dX1_seek_76 : decode cX1_seek 76 = .ok (.iconst (-1), 1) := by decide +kernel
theorem dX1_seek_77 : decode cX1_seek 77 = .ok (.istore_n 3, 1) := by decide +kernel
theorem dX1_seek_78 : decode cX1_seek 78 = .ok (.iconst 0, 1) := by decide +kernel
theorem dX1_seek_79 : decode cX1_seek 79 = .ok (.istore 4, 2) := by decide +kernel
theorem dX1_seek_81 : decode cX1_seek 81 = .ok (.iload 4, 2) := by decide +kernel
theorem dX1_seek_83 : decode cX1_seek 83 = .ok (.bipush 6, 2) := by decide +kernel
theorem dX1_seek_85 : decode cX1_seek 85 = .ok (.if_icmp .ge 31, 3) := by decide +kernel
theorem dX1_seek_88 : decode cX1_seek 88 = .ok (.aload_n 0, 1) := by decide +kernel
theorem dX1_seek_89 : decode cX1_seek 89 = .ok (.getfield 19, 3) := by decide +kernel
theorem dX1_seek_92 : decode cX1_seek 92 = .ok (.iload 4, 2) := by decide +kernel
theorem dX1_seek_94 : decode cX1_seek 94 = .ok (.aload_n 0, 1) := by decide +kernel
theorem dX1_seek_95 : decode cX1_seek 95 = .ok (.iload 4, 2) := by decide +kernel
theorem dX1_seek_97 : decode cX1_seek 97 = .ok (.iload_n 3, 1) := by decide +kernel
theorem dX1_seek_98 : decode cX1_seek 98 = .ok (.invokevirtual 31, 3) := by decide +kernel
theorem dX1_seek_101 : decode cX1_seek 101 = .ok (.iastore, 1) := by decide +kernel
theorem dX1_seek_102 : decode cX1_seek 102 = .ok (.aload_n 0, 1) := by decide +kernel
theorem dX1_seek_103 : decode cX1_seek 103 = .ok (.getfield 19, 3) := by decide +kernel
theorem dX1_seek_106 : decode cX1_seek 106 = .ok (.iload 4, 2) := by decide +kernel
theorem dX1_seek_108 : decode cX1_seek 108 = .ok (.iaload, 1) := by decide +kernel
theorem dX1_seek_109 : decode cX1_seek 109 = .ok (.istore_n 3, 1) := by decide +kernel
theorem dX1_seek_110 : decode cX1_seek 110 = .ok (.iinc 4 1, 3) := by decide +kernel
theorem dX1_seek_113 : decode cX1_seek 113 = .ok (.goto (-32), 3) := by decide +kernel
theorem dX1_seek_116 : decode cX1_seek 116 = .ok (.return_, 1) := by decide +kernel
theorem dX1_costAfter_0 : decode cX1_costAfter 0 = .ok (.iload_n 1, 1) := by decide +kernel
theorem dX1_costAfter_1 : decode cX1_costAfter 1 = .ok (.iconst 1, 1) := by decide +kernel
theorem dX1_costAfter_2 : decode cX1_costAfter 2 = .ok (.iadd, 1) := by decide +kernel
theorem dX1_costAfter_3 : decode cX1_costAfter 3 = .ok (.bipush 6, 2) := by decide +kernel
theorem dX1_costAfter_5 : decode cX1_costAfter 5 = .ok (.if_icmp .ge 25, 3) := by decide +kernel
theorem dX1_costAfter_8 : decode cX1_costAfter 8 = .ok (.aload_n 0, 1) := by decide +kernel
theorem dX1_costAfter_9 : decode cX1_costAfter 9 = .ok (.getfield 15, 3) := by decide +kernel
theorem dX1_costAfter_12 : decode cX1_costAfter 12 = .ok (.iconst 4, 1) := by decide +kernel
theorem dX1_costAfter_13 : decode cX1_costAfter 13 = .ok (.iload_n 1, 1) := by decide +kernel
theorem dX1_costAfter_14 : decode cX1_costAfter 14 = .ok (.iconst 1, 1) := by decide +kernel
theorem dX1_costAfter_15 : decode cX1_costAfter 15 = .ok (.iadd, 1) := by decide +kernel
theorem dX1_costAfter_16 : decode cX1_costAfter 16 = .ok (.imul, 1) := by decide +kernel
theorem dX1_costAfter_17 : decode cX1_costAfter 17 = .ok (.aload_n 0, 1) := by decide +kernel
theorem dX1_costAfter_18 : decode cX1_costAfter 18 = .ok (.iload_n 1, 1) := by decide +kernel
theorem dX1_costAfter_19 : decode cX1_costAfter 19 = .ok (.iconst 1, 1) := by decide +kernel
theorem dX1_costAfter_20 : decode cX1_costAfter 20 = .ok (.iadd, 1) := by decide +kernel
theorem dX1_costAfter_21 : decode cX1_costAfter 21 = .ok (.iload_n 2, 1) := by decide +kernel
theorem dX1_costAfter_22 : decode cX1_costAfter 22 = .ok (.invokevirtual 31, 3) := by decide +kernel
theorem dX1_costAfter_25 : decode cX1_costAfter 25 = .ok (.iadd, 1) := by decide +kernel
theorem dX1_costAfter_26 : decode cX1_costAfter 26 = .ok (.iaload, 1) := by decide +kernel
theorem dX1_costAfter_27 : decode cX1_costAfter 27 = .ok (.goto 4, 3) := by decide +kernel
theorem dX1_costAfter_30 : decode cX1_costAfter 30 = .ok (.iconst 0, 1) := by decide +kernel
theorem dX1_costAfter_31 : decode cX1_costAfter 31 = .ok (.ireturn, 1) := by decide +kernel
theorem dX1_bestClass_0 : decode cX1_bestClass 0 = .ok (.iconst 0, 1) := by decide +kernel
theorem dX1_bestClass_1 : decode cX1_bestClass 1 = .ok (.istore_n 3, 1) := by decide +kernel
theorem dX1_bestClass_2 : decode cX1_bestClass 2 = .ok (.bipush 7, 2) := by decide +kernel
theorem dX1_bestClass_4 : decode cX1_bestClass 4 = .ok (.istore 4, 2) := by decide +kernel
theorem dX1_bestClass_6 : decode cX1_bestClass 6 = .ok (.iconst 0, 1) := by decide +kernel
theorem dX1_bestClass_7 : decode cX1_bestClass 7 = .ok (.istore 5, 2) := by decide +kernel
theorem dX1_bestClass_9 : decode cX1_bestClass 9 = .ok (.iload 5, 2) := by decide +kernel
theorem dX1_bestClass_11 : decode cX1_bestClass 11 = .ok (.iconst 4, 1) := by decide +kernel
theorem dX1_bestClass_12 : decode cX1_bestClass 12 = .ok (.if_icmp .ge 72, 3) := by decide +kernel
theorem dX1_bestClass_15 : decode cX1_bestClass 15 = .ok (.iload_n 2, 1) := by decide +kernel
theorem dX1_bestClass_16 : decode cX1_bestClass 16 = .ok (.iconst (-1), 1) := by decide +kernel
theorem dX1_bestClass_17 : decode cX1_bestClass 17 = .ok (.if_icmp .eq 17, 3) := by decide +kernel
theorem dX1_bestClass_20 : decode cX1_bestClass 20 = .ok (.aload_n 0, 1) := by decide +kernel
theorem dX1_bestClass_21 : decode cX1_bestClass 21 = .ok (.getfield 9, 3) := by decide +kernel
theorem dX1_bestClass_24 : decode cX1_bestClass 24 = .ok (.iconst 4, 1) := by decide +kernel
theorem dX1_bestClass_25 : decode cX1_bestClass 25 = .ok (.iload_n 2, 1) := by decide +kernel
theorem dX1_bestClass_26 : decode cX1_bestClass 26 = .ok (.imul, 1) := by decide +kernel
theorem dX1_bestClass_27 : decode cX1_bestClass 27 = .ok (.iload 5, 2) := by decide +kernel
theorem dX1_bestClass_29 : decode cX1_bestClass 29 = .ok (.iadd, 1) := by decide +kernel
theorem dX1_bestClass_30 : decode cX1_bestClass 30 = .ok (.baload, 1) := by decide +kernel
theorem dX1_bestClass_31 : decode cX1_bestClass 31 = .ok (.ifCond .ne 7, 3) := by decide +kernel
theorem dX1_bestClass_34 : decode cX1_bestClass 34 = .ok (.iconst 1, 1) := by decide +kernel
theorem dX1_bestClass_35 : decode cX1_bestClass 35 = .ok (.goto 4, 3) := by decide +kernel
theorem dX1_bestClass_38 : decode cX1_bestClass 38 = .ok (.iconst 0, 1) := by decide +kernel
theorem dX1_bestClass_39 : decode cX1_bestClass 39 = .ok (.istore 6, 2) := by decide +kernel
theorem dX1_bestClass_41 : decode cX1_bestClass 41 = .ok (.iload 6, 2) := by decide +kernel
theorem dX1_bestClass_43 : decode cX1_bestClass 43 = .ok (.ifCond .eq 35, 3) := by decide +kernel
theorem dX1_bestClass_46 : decode cX1_bestClass 46 = .ok (.aload_n 0, 1) := by decide +kernel
theorem dX1_bestClass_47 : decode cX1_bestClass 47 = .ok (.getfield 15, 3) := by decide +kernel
theorem dX1_bestClass_50 : decode cX1_bestClass 50 = .ok (.iconst 4, 1) := by decide +kernel
theorem dX1_bestClass_51 : decode cX1_bestClass 51 = .ok (.iload_n 1, 1) := by decide +kernel
theorem dX1_bestClass_52 : decode cX1_bestClass 52 = .ok (.imul, 1) := by decide +kernel
theorem dX1_bestClass_53 : decode cX1_bestClass 53 = .ok (.iload 5, 2) := by decide +kernel
theorem dX1_bestClass_55 : decode cX1_bestClass 55 = .ok (.iadd, 1) := by decide +kernel
theorem dX1_bestClass_56 : decode cX1_bestClass 56 = .ok (.iaload, 1) := by decide +kernel
theorem dX1_bestClass_57 : decode cX1_bestClass 57 = .ok (.iload 4, 2) := by decide +kernel
theorem dX1_bestClass_59 : decode cX1_bestClass 59 = .ok (.if_icmp .ge 19, 3) := by decide +kernel
theorem dX1_bestClass_62 : decode cX1_bestClass 62 = .ok (.aload_n 0, 1) := by decide +kernel
theorem dX1_bestClass_63 : decode cX1_bestClass 63 = .ok (.getfield 15, 3) := by decide +kernel
theorem dX1_bestClass_66 : decode cX1_bestClass 66 = .ok (.iconst 4, 1) := by decide +kernel
theorem dX1_bestClass_67 : decode cX1_bestClass 67 = .ok (.iload_n 1, 1) := by decide +kernel
theorem dX1_bestClass_68 : decode cX1_bestClass 68 = .ok (.imul, 1) := by decide +kernel
theorem dX1_bestClass_69 : decode cX1_bestClass 69 = .ok (.iload 5, 2) := by decide +kernel
theorem dX1_bestClass_71 : decode cX1_bestClass 71 = .ok (.iadd, 1) := by decide +kernel
theorem dX1_bestClass_72 : decode cX1_bestClass 72 = .ok (.iaload, 1) := by decide +kernel
theorem dX1_bestClass_73 : decode cX1_bestClass 73 = .ok (.istore 4, 2) := by decide +kernel
theorem dX1_bestClass_75 : decode cX1_bestClass 75 = .ok (.iload 5, 2) := by decide +kernel
theorem dX1_bestClass_77 : decode cX1_bestClass 77 = .ok (.istore_n 3, 1) := by decide +kernel
theorem dX1_bestClass_78 : decode cX1_bestClass 78 = .ok (.iinc 5 1, 3) := by decide +kernel
theorem dX1_bestClass_81 : decode cX1_bestClass 81 = .ok (.goto (-72), 3) := by decide +kernel
theorem dX1_bestClass_84 : decode cX1_bestClass 84 = .ok (.iload_n 3, 1) := by decide +kernel
theorem dX1_bestClass_85 : decode cX1_bestClass 85 = .ok (.ireturn, 1) := by decide +kernel
theorem dX1_cost_0 : decode cX1_cost 0 = .ok (.aload_n 0, 1) := by decide +kernel
theorem dX1_cost_1 : decode cX1_cost 1 = .ok (.getfield 15, 3) := by decide +kernel
theorem dX1_cost_4 : decode cX1_cost 4 = .ok (.aload_n 0, 1) := by decide +kernel
theorem dX1_cost_5 : decode cX1_cost 5 = .ok (.getfield 19, 3) := by decide +kernel
theorem dX1_cost_8 : decode cX1_cost 8 = .ok (.iconst 0, 1) := by decide +kernel
theorem dX1_cost_9 : decode cX1_cost 9 = .ok (.iaload, 1) := by decide +kernel
theorem dX1_cost_10 : decode cX1_cost 10 = .ok (.iaload, 1) := by decide +kernel
theorem dX1_cost_11 : decode cX1_cost 11 = .ok (.ireturn, 1) := by decide +kernel
theorem dX1_classOn_0 : decode cX1_classOn 0 = .ok (.aload_n 0, 1) := by decide +kernel
theorem dX1_classOn_1 : decode cX1_classOn 1 = .ok (.getfield 19, 3) := by decide +kernel
theorem dX1_classOn_4 : decode cX1_classOn 4 = .ok (.iload_n 1, 1) := by decide +kernel
theorem dX1_classOn_5 : decode cX1_classOn 5 = .ok (.iaload, 1) := by decide +kernel
theorem dX1_classOn_6 : decode cX1_classOn 6 = .ok (.ireturn, 1) := by decide +kernel
theorem dX1_moves_0 : decode cX1_moves 0 = .ok (.iconst 0, 1) := by decide +kernel
theorem dX1_moves_1 : decode cX1_moves 1 = .ok (.istore_n 3, 1) := by decide +kernel
theorem dX1_moves_2 : decode cX1_moves 2 = .ok (.iconst 1, 1) := by decide +kernel
theorem dX1_moves_3 : decode cX1_moves 3 = .ok (.istore 4, 2) := by decide +kernel
theorem dX1_moves_5 : decode cX1_moves 5 = .ok (.iload 4, 2) := by decide +kernel
theorem dX1_moves_7 : decode cX1_moves 7 = .ok (.bipush 6, 2) := by decide +kernel
theorem dX1_moves_9 : decode cX1_moves 9 = .ok (.if_icmp .ge 41, 3) := by decide +kernel
theorem dX1_moves_12 : decode cX1_moves 12 = .ok (.iload_n 3, 1) := by decide +kernel
theorem dX1_moves_13 : decode cX1_moves 13 = .ok (.aload_n 0, 1) := by decide +kernel
theorem dX1_moves_14 : decode cX1_moves 14 = .ok (.getfield 19, 3) := by decide +kernel
theorem dX1_moves_17 : decode cX1_moves 17 = .ok (.iload 4, 2) := by decide +kernel
theorem dX1_moves_19 : decode cX1_moves 19 = .ok (.iconst 1, 1) := by decide +kernel
theorem dX1_moves_20 : decode cX1_moves 20 = .ok (.isub, 1) := by decide +kernel
theorem dX1_moves_21 : decode cX1_moves 21 = .ok (.iaload, 1) := by decide +kernel
theorem dX1_moves_22 : decode cX1_moves 22 = .ok (.iload_n 1, 1) := by decide +kernel
theorem dX1_moves_23 : decode cX1_moves 23 = .ok (.if_icmp .ne 18, 3) := by decide +kernel
theorem dX1_moves_26 : decode cX1_moves 26 = .ok (.aload_n 0, 1) := by decide +kernel
theorem dX1_moves_27 : decode cX1_moves 27 = .ok (.getfield 19, 3) := by decide +kernel
theorem dX1_moves_30 : decode cX1_moves 30 = .ok (.iload 4, 2) := by decide +kernel
theorem dX1_moves_32 : decode cX1_moves 32 = .ok (.iaload, 1) := by decide +kernel
theorem dX1_moves_33 : decode cX1_moves 33 = .ok (.iload_n 2, 1) := by decide +kernel
theorem dX1_moves_34 : decode cX1_moves 34 = .ok (.if_icmp .ne 7, 3) := by decide +kernel
theorem dX1_moves_37 : decode cX1_moves 37 = .ok (.iconst 1, 1) := by decide +kernel
theorem dX1_moves_38 : decode cX1_moves 38 = .ok (.goto 4, 3) := by decide +kernel
theorem dX1_moves_41 : decode cX1_moves 41 = .ok (.iconst 0, 1) := by decide +kernel
theorem dX1_moves_42 : decode cX1_moves 42 = .ok (.iadd, 1) := by decide +kernel
theorem dX1_moves_43 : decode cX1_moves 43 = .ok (.istore_n 3, 1) := by decide +kernel
theorem dX1_moves_44 : decode cX1_moves 44 = .ok (.iinc 4 1, 3) := by decide +kernel
theorem dX1_moves_47 : decode cX1_moves 47 = .ok (.goto (-42), 3) := by decide +kernel
theorem dX1_moves_50 : decode cX1_moves 50 = .ok (.iload_n 3, 1) := by decide +kernel
theorem dX1_moves_51 : decode cX1_moves 51 = .ok (.ireturn, 1) := by decide +kernel
theorem dX2_init_0 : decode cX2_init 0 = .ok (.aload_n 0, 1) := by decide +kernel
theorem dX2_init_1 : decode cX2_init 1 = .ok (.invokespecial 3, 3) := by decide +kernel
theorem dX2_init_4 : decode cX2_init 4 = .ok (.aload_n 0, 1) := by decide +kernel
theorem dX2_init_5 : decode cX2_init 5 = .ok (.bipush 16, 2) := by decide +kernel
theorem dX2_init_7 : decode cX2_init 7 = .ok (.newarray .int, 2) := by decide +kernel
theorem dX2_init_9 : decode cX2_init 9 = .ok (.putfield 9, 3) := by decide +kernel
theorem dX2_init_12 : decode cX2_init 12 = .ok (.return_, 1) := by decide +kernel
theorem dX2_add_0 : decode cX2_add 0 = .ok (.iconst 4, 1) := by decide +kernel
theorem dX2_add_1 : decode cX2_add 1 = .ok (.iload_n 1, 1) := by decide +kernel
theorem dX2_add_2 : decode cX2_add 2 = .ok (.imul, 1) := by decide +kernel
theorem dX2_add_3 : decode cX2_add 3 = .ok (.iload_n 2, 1) := by decide +kernel
theorem dX2_add_4 : decode cX2_add 4 = .ok (.iadd, 1) := by decide +kernel
theorem dX2_add_5 : decode cX2_add 5 = .ok (.istore 4, 2) := by decide +kernel
theorem dX2_add_7 : decode cX2_add 7 = .ok (.aload_n 0, 1) := by decide +kernel
theorem dX2_add_8 : decode cX2_add 8 = .ok (.getfield 9, 3) := by decide +kernel
theorem dX2_add_11 : decode cX2_add 11 = .ok (.iload 4, 2) := by decide +kernel
theorem dX2_add_13 : decode cX2_add 13 = .ok (.sipush 1000, 3) := by decide +kernel
theorem dX2_add_16 : decode cX2_add 16 = .ok (.aload_n 0, 1) := by decide +kernel
theorem dX2_add_17 : decode cX2_add 17 = .ok (.getfield 9, 3) := by decide +kernel
theorem dX2_add_20 : decode cX2_add 20 = .ok (.iload 4, 2) := by decide +kernel
theorem dX2_add_22 : decode cX2_add 22 = .ok (.iaload, 1) := by decide +kernel
theorem dX2_add_23 : decode cX2_add 23 = .ok (.iload_n 3, 1) := by decide +kernel
theorem dX2_add_24 : decode cX2_add 24 = .ok (.iadd, 1) := by decide +kernel
theorem dX2_add_25 : decode cX2_add 25 = .ok (.invokestatic 15, 3) := by decide +kernel
theorem dX2_add_28 : decode cX2_add 28 = .ok (.iastore, 1) := by decide +kernel
theorem dX2_add_29 : decode cX2_add 29 = .ok (.aload_n 0, 1) := by decide +kernel
theorem dX2_add_30 : decode cX2_add 30 = .ok (.getfield 9, 3) := by decide +kernel
theorem dX2_add_33 : decode cX2_add 33 = .ok (.iload 4, 2) := by decide +kernel
theorem dX2_add_35 : decode cX2_add 35 = .ok (.iaload, 1) := by decide +kernel
theorem dX2_add_36 : decode cX2_add 36 = .ok (.ireturn, 1) := by decide +kernel
theorem dX2_sumOf_0 : decode cX2_sumOf 0 = .ok (.iconst 0, 1) := by decide +kernel
theorem dX2_sumOf_1 : decode cX2_sumOf 1 = .ok (.istore_n 2, 1) := by decide +kernel
theorem dX2_sumOf_2 : decode cX2_sumOf 2 = .ok (.iconst 0, 1) := by decide +kernel
theorem dX2_sumOf_3 : decode cX2_sumOf 3 = .ok (.istore_n 3, 1) := by decide +kernel
theorem dX2_sumOf_4 : decode cX2_sumOf 4 = .ok (.iload_n 3, 1) := by decide +kernel
theorem dX2_sumOf_5 : decode cX2_sumOf 5 = .ok (.iconst 4, 1) := by decide +kernel
theorem dX2_sumOf_6 : decode cX2_sumOf 6 = .ok (.if_icmp .ge 22, 3) := by decide +kernel
theorem dX2_sumOf_9 : decode cX2_sumOf 9 = .ok (.iload_n 2, 1) := by decide +kernel
theorem dX2_sumOf_10 : decode cX2_sumOf 10 = .ok (.aload_n 0, 1) := by decide +kernel
theorem dX2_sumOf_11 : decode cX2_sumOf 11 = .ok (.getfield 9, 3) := by decide +kernel
theorem dX2_sumOf_14 : decode cX2_sumOf 14 = .ok (.iconst 4, 1) := by decide +kernel
theorem dX2_sumOf_15 : decode cX2_sumOf 15 = .ok (.iload_n 1, 1) := by decide +kernel
theorem dX2_sumOf_16 : decode cX2_sumOf 16 = .ok (.imul, 1) := by decide +kernel
theorem dX2_sumOf_17 : decode cX2_sumOf 17 = .ok (.iload_n 3, 1) := by decide +kernel
theorem dX2_sumOf_18 : decode cX2_sumOf 18 = .ok (.iadd, 1) := by decide +kernel
theorem dX2_sumOf_19 : decode cX2_sumOf 19 = .ok (.iaload, 1) := by decide +kernel
theorem dX2_sumOf_20 : decode cX2_sumOf 20 = .ok (.iadd, 1) := by decide +kernel
theorem dX2_sumOf_21 : decode cX2_sumOf 21 = .ok (.istore_n 2, 1) := by decide +kernel
theorem dX2_sumOf_22 : decode cX2_sumOf 22 = .ok (.iinc 3 1, 3) := by decide +kernel
theorem dX2_sumOf_25 : decode cX2_sumOf 25 = .ok (.goto (-21), 3) := by decide +kernel
theorem dX2_sumOf_28 : decode cX2_sumOf 28 = .ok (.iload_n 2, 1) := by decide +kernel
theorem dX2_sumOf_29 : decode cX2_sumOf 29 = .ok (.ireturn, 1) := by decide +kernel
theorem dX2_areaOf_0 : decode cX2_areaOf 0 = .ok (.lconst 0, 1) := by decide +kernel
theorem dX2_areaOf_1 : decode cX2_areaOf 1 = .ok (.lstore 4, 2) := by decide +kernel
theorem dX2_areaOf_3 : decode cX2_areaOf 3 = .ok (.lconst 1, 1) := by decide +kernel
theorem dX2_areaOf_4 : decode cX2_areaOf 4 = .ok (.lstore 6, 2) := by decide +kernel
theorem dX2_areaOf_6 : decode cX2_areaOf 6 = .ok (.iconst 0, 1) := by decide +kernel
theorem dX2_areaOf_7 : decode cX2_areaOf 7 = .ok (.istore 8, 2) := by decide +kernel
theorem dX2_areaOf_9 : decode cX2_areaOf 9 = .ok (.iload 8, 2) := by decide +kernel
theorem dX2_areaOf_11 : decode cX2_areaOf 11 = .ok (.iconst 4, 1) := by decide +kernel
theorem dX2_areaOf_12 : decode cX2_areaOf 12 = .ok (.if_icmp .ge 79, 3) := by decide +kernel
theorem dX2_areaOf_15 : decode cX2_areaOf 15 = .ok (.aload_n 1, 1) := by decide +kernel
theorem dX2_areaOf_16 : decode cX2_areaOf 16 = .ok (.iload_n 2, 1) := by decide +kernel
theorem dX2_areaOf_17 : decode cX2_areaOf 17 = .ok (.iload 8, 2) := by decide +kernel
theorem dX2_areaOf_19 : decode cX2_areaOf 19 = .ok (.invokevirtual 21, 3) := by decide +kernel
theorem dX2_areaOf_22 : decode cX2_areaOf 22 = .ok (.i2l, 1) := by decide +kernel
theorem dX2_areaOf_23 : decode cX2_areaOf 23 = .ok (.lstore 9, 2) := by decide +kernel
theorem dX2_areaOf_25 : decode cX2_areaOf 25 = .ok (.lload 9, 2) := by decide +kernel
theorem dX2_areaOf_27 : decode cX2_areaOf 27 = .ok (.lconst 0, 1) := by decide +kernel
theorem dX2_areaOf_28 : decode cX2_areaOf 28 = .ok (.lcmp, 1) := by decide +kernel
theorem dX2_areaOf_29 : decode cX2_areaOf 29 = .ok (.ifCond .le 56, 3) := by decide +kernel
theorem dX2_areaOf_32 : decode cX2_areaOf 32 = .ok (.aload_n 0, 1) := by decide +kernel
theorem dX2_areaOf_33 : decode cX2_areaOf 33 = .ok (.iload 8, 2) := by decide +kernel
theorem dX2_areaOf_35 : decode cX2_areaOf 35 = .ok (.invokevirtual 26, 3) := by decide +kernel
theorem dX2_areaOf_38 : decode cX2_areaOf 38 = .ok (.i2l, 1) := by decide +kernel
theorem dX2_areaOf_39 : decode cX2_areaOf 39 = .ok (.lstore 11, 2) := by decide +kernel
theorem dX2_areaOf_41 : decode cX2_areaOf 41 = .ok (.lload 11, 2) := by decide +kernel
theorem dX2_areaOf_43 : decode cX2_areaOf 43 = .ok (.lconst 0, 1) := by decide +kernel
theorem dX2_areaOf_44 : decode cX2_areaOf 44 = .ok (.lcmp, 1) := by decide +kernel
theorem dX2_areaOf_45 : decode cX2_areaOf 45 = .ok (.ifCond .gt 7, 3) := by decide +kernel
theorem dX2_areaOf_48 : decode cX2_areaOf 48 = .ok (.ldc2_w 30, 3) := by decide +kernel
theorem dX2_areaOf_51 : decode cX2_areaOf 51 = .ok (.lreturn, 1) := by decide +kernel
theorem dX2_areaOf_52 : decode cX2_areaOf 52 = .ok (.lload 4, 2) := by decide +kernel
theorem dX2_areaOf_54 : decode cX2_areaOf 54 = .ok (.lload 11, 2) := by decide +kernel
theorem dX2_areaOf_56 : decode cX2_areaOf 56 = .ok (.lmul, 1) := by decide +kernel
theorem dX2_areaOf_57 : decode cX2_areaOf 57 = .ok (.lload 9, 2) := by decide +kernel
theorem dX2_areaOf_59 : decode cX2_areaOf 59 = .ok (.aload_n 0, 1) := by decide +kernel
theorem dX2_areaOf_60 : decode cX2_areaOf 60 = .ok (.getfield 9, 3) := by decide +kernel
theorem dX2_areaOf_63 : decode cX2_areaOf 63 = .ok (.iconst 4, 1) := by decide +kernel
theorem dX2_areaOf_64 : decode cX2_areaOf 64 = .ok (.iload 8, 2) := by decide +kernel
theorem dX2_areaOf_66 : decode cX2_areaOf 66 = .ok (.imul, 1) := by decide +kernel
theorem dX2_areaOf_67 : decode cX2_areaOf 67 = .ok (.iload_n 3, 1) := by decide +kernel
theorem dX2_areaOf_68 : decode cX2_areaOf 68 = .ok (.iadd, 1) := by decide +kernel
theorem dX2_areaOf_69 : decode cX2_areaOf 69 = .ok (.iaload, 1) := by decide +kernel
theorem dX2_areaOf_70 : decode cX2_areaOf 70 = .ok (.i2l, 1) := by decide +kernel
theorem dX2_areaOf_71 : decode cX2_areaOf 71 = .ok (.lmul, 1) := by decide +kernel
theorem dX2_areaOf_72 : decode cX2_areaOf 72 = .ok (.lload 6, 2) := by decide +kernel
theorem dX2_areaOf_74 : decode cX2_areaOf 74 = .ok (.lmul, 1) := by decide +kernel
theorem dX2_areaOf_75 : decode cX2_areaOf 75 = .ok (.ladd, 1) := by decide +kernel
theorem dX2_areaOf_76 : decode cX2_areaOf 76 = .ok (.lstore 4, 2) := by decide +kernel
theorem dX2_areaOf_78 : decode cX2_areaOf 78 = .ok (.lload 6, 2) := by decide +kernel
theorem dX2_areaOf_80 : decode cX2_areaOf 80 = .ok (.lload 11, 2) := by decide +kernel
theorem dX2_areaOf_82 : decode cX2_areaOf 82 = .ok (.lmul, 1) := by decide +kernel
theorem dX2_areaOf_83 : decode cX2_areaOf 83 = .ok (.lstore 6, 2) := by decide +kernel
theorem dX2_areaOf_85 : decode cX2_areaOf 85 = .ok (.iinc 8 1, 3) := by decide +kernel
theorem dX2_areaOf_88 : decode cX2_areaOf 88 = .ok (.goto (-79), 3) := by decide +kernel
theorem dX2_areaOf_91 : decode cX2_areaOf 91 = .ok (.ldc2_w 32, 3) := by decide +kernel
theorem dX2_areaOf_94 : decode cX2_areaOf 94 = .ok (.lload 4, 2) := by decide +kernel
theorem dX2_areaOf_96 : decode cX2_areaOf 96 = .ok (.lmul, 1) := by decide +kernel
theorem dX2_areaOf_97 : decode cX2_areaOf 97 = .ok (.lload 6, 2) := by decide +kernel
theorem dX2_areaOf_99 : decode cX2_areaOf 99 = .ok (.ldiv, 1) := by decide +kernel
theorem dX2_areaOf_100 : decode cX2_areaOf 100 = .ok (.lreturn, 1) := by decide +kernel
theorem dX3_init_0 : decode cX3_init 0 = .ok (.aload_n 0, 1) := by decide +kernel
theorem dX3_init_1 : decode cX3_init 1 = .ok (.invokespecial 3, 3) := by decide +kernel
theorem dX3_init_4 : decode cX3_init 4 = .ok (.aload_n 0, 1) := by decide +kernel
theorem dX3_init_5 : decode cX3_init 5 = .ok (.sipush 1152, 3) := by decide +kernel
theorem dX3_init_8 : decode cX3_init 8 = .ok (.newarray .int, 2) := by decide +kernel
theorem dX3_init_10 : decode cX3_init 10 = .ok (.putfield 9, 3) := by decide +kernel
theorem dX3_init_13 : decode cX3_init 13 = .ok (.aload_n 0, 1) := by decide +kernel
theorem dX3_init_14 : decode cX3_init 14 = .ok (.bipush 18, 2) := by decide +kernel
theorem dX3_init_16 : decode cX3_init 16 = .ok (.newarray .int, 2) := by decide +kernel
theorem dX3_init_18 : decode cX3_init 18 = .ok (.putfield 15, 3) := by decide +kernel
theorem dX3_init_21 : decode cX3_init 21 = .ok (.aload_n 0, 1) := by decide +kernel
theorem dX3_init_22 : decode cX3_init 22 = .ok (.bipush 18, 2) := by decide +kernel
theorem dX3_init_24 : decode cX3_init 24 = .ok (.newarray .int, 2) := by decide +kernel
theorem dX3_init_26 : decode cX3_init 26 = .ok (.putfield 18, 3) := by decide +kernel
theorem dX3_init_29 : decode cX3_init 29 = .ok (.aload_n 0, 1) := by decide +kernel
theorem dX3_init_30 : decode cX3_init 30 = .ok (.iconst 0, 1) := by decide +kernel
theorem dX3_init_31 : decode cX3_init 31 = .ok (.putfield 21, 3) := by decide +kernel
theorem dX3_init_34 : decode cX3_init 34 = .ok (.aload_n 0, 1) := by decide +kernel
theorem dX3_init_35 : decode cX3_init 35 = .ok (.getfield 15, 3) := by decide +kernel
theorem dX3_init_38 : decode cX3_init 38 = .ok (.iconst (-1), 1) := by decide +kernel
theorem dX3_init_39 : decode cX3_init 39 = .ok (.invokestatic 25, 3) := by decide +kernel
theorem dX3_init_42 : decode cX3_init 42 = .ok (.return_, 1) := by decide +kernel
theorem dX3_find_0 : decode cX3_find 0 = .ok (.aload_n 0, 1) := by decide +kernel
theorem dX3_find_1 : decode cX3_find 1 = .ok (.iload_n 1, 1) := by decide +kernel
theorem dX3_find_2 : decode cX3_find 2 = .ok (.putfield 21, 3) := by decide +kernel
theorem dX3_find_5 : decode cX3_find 5 = .ok (.bipush (-10), 2) := by decide +kernel
theorem dX3_find_7 : decode cX3_find 7 = .ok (.iload_n 1, 1) := by decide +kernel
theorem dX3_find_8 : decode cX3_find 8 = .ok (.isub, 1) := by decide +kernel
theorem dX3_find_9 : decode cX3_find 9 = .ok (.ireturn, 1) := by decide +kernel
theorem dX3_latest_0 : decode cX3_latest 0 = .ok (.aload_n 0, 1) := by decide +kernel
theorem dX3_latest_1 : decode cX3_latest 1 = .ok (.getfield 21, 3) := by decide +kernel
theorem dX3_latest_4 : decode cX3_latest 4 = .ok (.ireturn, 1) := by decide +kernel
theorem dX3_isLost_0 : decode cX3_isLost 0 = .ok (.aload_n 0, 1) := by decide +kernel
theorem dX3_isLost_1 : decode cX3_isLost 1 = .ok (.getfield 15, 3) := by decide +kernel
theorem dX3_isLost_4 : decode cX3_isLost 4 = .ok (.iload_n 1, 1) := by decide +kernel
theorem dX3_isLost_5 : decode cX3_isLost 5 = .ok (.iaload, 1) := by decide +kernel
theorem dX3_isLost_6 : decode cX3_isLost 6 = .ok (.iconst (-1), 1) := by decide +kernel
theorem dX3_isLost_7 : decode cX3_isLost 7 = .ok (.if_icmp .ne 7, 3) := by decide +kernel
theorem dX3_isLost_10 : decode cX3_isLost 10 = .ok (.iconst 1, 1) := by decide +kernel
theorem dX3_isLost_11 : decode cX3_isLost 11 = .ok (.goto 4, 3) := by decide +kernel
theorem dX3_isLost_14 : decode cX3_isLost 14 = .ok (.iconst 0, 1) := by decide +kernel
theorem dX3_isLost_15 : decode cX3_isLost 15 = .ok (.ireturn, 1) := by decide +kernel
theorem dX3_sizeOf_0 : decode cX3_sizeOf 0 = .ok (.aload_n 0, 1) := by decide +kernel
theorem dX3_sizeOf_1 : decode cX3_sizeOf 1 = .ok (.getfield 18, 3) := by decide +kernel
theorem dX3_sizeOf_4 : decode cX3_sizeOf 4 = .ok (.iload_n 1, 1) := by decide +kernel
theorem dX3_sizeOf_5 : decode cX3_sizeOf 5 = .ok (.iaload, 1) := by decide +kernel
theorem dX3_sizeOf_6 : decode cX3_sizeOf 6 = .ok (.ireturn, 1) := by decide +kernel
theorem dX3_held_0 : decode cX3_held 0 = .ok (.iconst 0, 1) := by decide +kernel
theorem dX3_held_1 : decode cX3_held 1 = .ok (.istore_n 1, 1) := by decide +kernel
theorem dX3_held_2 : decode cX3_held 2 = .ok (.iconst 0, 1) := by decide +kernel
theorem dX3_held_3 : decode cX3_held 3 = .ok (.istore_n 2, 1) := by decide +kernel
theorem dX3_held_4 : decode cX3_held 4 = .ok (.iload_n 2, 1) := by decide +kernel
theorem dX3_held_5 : decode cX3_held 5 = .ok (.bipush 18, 2) := by decide +kernel
theorem dX3_held_7 : decode cX3_held 7 = .ok (.if_icmp .ge 25, 3) := by decide +kernel
theorem dX3_held_10 : decode cX3_held 10 = .ok (.iload_n 1, 1) := by decide +kernel
theorem dX3_held_11 : decode cX3_held 11 = .ok (.aload_n 0, 1) := by decide +kernel
theorem dX3_held_12 : decode cX3_held 12 = .ok (.iload_n 2, 1) := by decide +kernel
theorem dX3_held_13 : decode cX3_held 13 = .ok (.invokevirtual 31, 3) := by decide +kernel
theorem dX3_held_16 : decode cX3_held 16 = .ok (.ifCond .eq 7, 3) := by decide +kernel
theorem dX3_held_19 : decode cX3_held 19 = .ok (.iconst 0, 1) := by decide +kernel
theorem dX3_held_20 : decode cX3_held 20 = .ok (.goto 4, 3) := by decide +kernel
theorem dX3_held_23 : decode cX3_held 23 = .ok (.iconst 1, 1) := by decide +kernel
theorem dX3_held_24 : decode cX3_held 24 = .ok (.iadd, 1) := by decide +kernel
theorem dX3_held_25 : decode cX3_held 25 = .ok (.istore_n 1, 1) := by decide +kernel
theorem dX3_held_26 : decode cX3_held 26 = .ok (.iinc 2 1, 3) := by decide +kernel
theorem dX3_held_29 : decode cX3_held 29 = .ok (.goto (-25), 3) := by decide +kernel
theorem dX3_held_32 : decode cX3_held 32 = .ok (.iload_n 1, 1) := by decide +kernel
theorem dX3_held_33 : decode cX3_held 33 = .ok (.ireturn, 1) := by decide +kernel
theorem dX3_wind_0 : decode cX3_wind 0 = .ok (.aload_n 0, 1) := by decide +kernel
theorem dX3_wind_1 : decode cX3_wind 1 = .ok (.getfield 15, 3) := by decide +kernel
theorem dX3_wind_4 : decode cX3_wind 4 = .ok (.iload_n 1, 1) := by decide +kernel
theorem dX3_wind_5 : decode cX3_wind 5 = .ok (.iload_n 2, 1) := by decide +kernel
theorem dX3_wind_6 : decode cX3_wind 6 = .ok (.iastore, 1) := by decide +kernel
theorem dX3_wind_7 : decode cX3_wind 7 = .ok (.aload_n 0, 1) := by decide +kernel
theorem dX3_wind_8 : decode cX3_wind 8 = .ok (.getfield 18, 3) := by decide +kernel
theorem dX3_wind_11 : decode cX3_wind 11 = .ok (.iload_n 1, 1) := by decide +kernel
theorem dX3_wind_12 : decode cX3_wind 12 = .ok (.iload_n 3, 1) := by decide +kernel
theorem dX3_wind_13 : decode cX3_wind 13 = .ok (.iastore, 1) := by decide +kernel
theorem dX3_wind_14 : decode cX3_wind 14 = .ok (.aload_n 0, 1) := by decide +kernel
theorem dX3_wind_15 : decode cX3_wind 15 = .ok (.iload_n 1, 1) := by decide +kernel
theorem dX3_wind_16 : decode cX3_wind 16 = .ok (.iconst 0, 1) := by decide +kernel
theorem dX3_wind_17 : decode cX3_wind 17 = .ok (.iload_n 3, 1) := by decide +kernel
theorem dX3_wind_18 : decode cX3_wind 18 = .ok (.iconst 1, 1) := by decide +kernel
theorem dX3_wind_19 : decode cX3_wind 19 = .ok (.isub, 1) := by decide +kernel
theorem dX3_wind_20 : decode cX3_wind 20 = .ok (.iconst 0, 1) := by decide +kernel
theorem dX3_wind_21 : decode cX3_wind 21 = .ok (.invokevirtual 35, 3) := by decide +kernel
theorem dX3_wind_24 : decode cX3_wind 24 = .ok (.return_, 1) := by decide +kernel
theorem dX3_drop_0 : decode cX3_drop 0 = .ok (.aload_n 0, 1) := by decide +kernel
theorem dX3_drop_1 : decode cX3_drop 1 = .ok (.getfield 15, 3) := by decide +kernel
theorem dX3_drop_4 : decode cX3_drop 4 = .ok (.iload_n 1, 1) := by decide +kernel
theorem dX3_drop_5 : decode cX3_drop 5 = .ok (.iconst (-1), 1) := by decide +kernel
theorem dX3_drop_6 : decode cX3_drop 6 = .ok (.iastore, 1) := by decide +kernel
theorem dX3_drop_7 : decode cX3_drop 7 = .ok (.aload_n 0, 1) := by decide +kernel
theorem dX3_drop_8 : decode cX3_drop 8 = .ok (.getfield 18, 3) := by decide +kernel
theorem dX3_drop_11 : decode cX3_drop 11 = .ok (.iload_n 1, 1) := by decide +kernel
theorem dX3_drop_12 : decode cX3_drop 12 = .ok (.iconst 0, 1) := by decide +kernel
theorem dX3_drop_13 : decode cX3_drop 13 = .ok (.iastore, 1) := by decide +kernel
theorem dX3_drop_14 : decode cX3_drop 14 = .ok (.return_, 1) := by decide +kernel
theorem dX3_flawOfItem_0 : decode cX3_flawOfItem 0 = .ok (.aload_n 0, 1) := by decide +kernel
theorem dX3_flawOfItem_1 : decode cX3_flawOfItem 1 = .ok (.iload_n 1, 1) := by decide +kernel
theorem dX3_flawOfItem_2 : decode cX3_flawOfItem 2 = .ok (.invokevirtual 31, 3) := by decide +kernel
theorem dX3_flawOfItem_5 : decode cX3_flawOfItem 5 = .ok (.ifCond .eq 5, 3) := by decide +kernel
theorem dX3_flawOfItem_8 : decode cX3_flawOfItem 8 = .ok (.iconst 1, 1) := by decide +kernel
theorem dX3_flawOfItem_9 : decode cX3_flawOfItem 9 = .ok (.ireturn, 1) := by decide +kernel
theorem dX3_flawOfItem_10 : decode cX3_flawOfItem 10 = .ok (.aload_n 0, 1) := by decide +kernel
theorem dX3_flawOfItem_11 : decode cX3_flawOfItem 11 = .ok (.getfield 15, 3) := by decide +kernel
theorem dX3_flawOfItem_14 : decode cX3_flawOfItem 14 = .ok (.iload_n 1, 1) := by decide +kernel
theorem dX3_flawOfItem_15 : decode cX3_flawOfItem 15 = .ok (.iaload, 1) := by decide +kernel
theorem dX3_flawOfItem_16 : decode cX3_flawOfItem 16 = .ok (.iload_n 2, 1) := by decide +kernel
theorem dX3_flawOfItem_17 : decode cX3_flawOfItem 17 = .ok (.if_icmp .eq 5, 3) := by decide +kernel
theorem dX3_flawOfItem_20 : decode cX3_flawOfItem 20 = .ok (.iconst 3, 1) := by decide +kernel
theorem dX3_flawOfItem_21 : decode cX3_flawOfItem 21 = .ok (.ireturn, 1) := by decide +kernel
theorem dX3_flawOfItem_22 : decode cX3_flawOfItem 22 = .ok (.iload_n 3, 1) := by decide +kernel
theorem dX3_flawOfItem_23 : decode cX3_flawOfItem 23 = .ok (.ifCond .lt 13, 3) := by decide +kernel
theorem dX3_flawOfItem_26 : decode cX3_flawOfItem 26 = .ok (.iload_n 3, 1) := by decide +kernel
theorem dX3_flawOfItem_27 : decode cX3_flawOfItem 27 = .ok (.aload_n 0, 1) := by decide +kernel
theorem dX3_flawOfItem_28 : decode cX3_flawOfItem 28 = .ok (.getfield 18, 3) := by decide +kernel
theorem dX3_flawOfItem_31 : decode cX3_flawOfItem 31 = .ok (.iload_n 1, 1) := by decide +kernel
theorem dX3_flawOfItem_32 : decode cX3_flawOfItem 32 = .ok (.iaload, 1) := by decide +kernel
theorem dX3_flawOfItem_33 : decode cX3_flawOfItem 33 = .ok (.if_icmp .lt 7, 3) := by decide +kernel
theorem dX3_flawOfItem_36 : decode cX3_flawOfItem 36 = .ok (.iconst 2, 1) := by decide +kernel
theorem dX3_flawOfItem_37 : decode cX3_flawOfItem 37 = .ok (.goto 4, 3) := by decide +kernel
theorem dX3_flawOfItem_40 : decode cX3_flawOfItem 40 = .ok (.iconst 0, 1) := by decide +kernel
theorem dX3_flawOfItem_41 : decode cX3_flawOfItem 41 = .ok (.ireturn, 1) := by decide +kernel
theorem dX3_flawOfMove_0 : decode cX3_flawOfMove 0 = .ok (.aload_n 0, 1) := by decide +kernel
theorem dX3_flawOfMove_1 : decode cX3_flawOfMove 1 = .ok (.iload_n 1, 1) := by decide +kernel
theorem dX3_flawOfMove_2 : decode cX3_flawOfMove 2 = .ok (.invokevirtual 31, 3) := by decide +kernel
theorem dX3_flawOfMove_5 : decode cX3_flawOfMove 5 = .ok (.ifCond .ne 11, 3) := by decide +kernel
theorem dX3_flawOfMove_8 : decode cX3_flawOfMove 8 = .ok (.aload_n 0, 1) := by decide +kernel
theorem dX3_flawOfMove_9 : decode cX3_flawOfMove 9 = .ok (.iload_n 3, 1) := by decide +kernel
theorem dX3_flawOfMove_10 : decode cX3_flawOfMove 10 = .ok (.invokevirtual 31, 3) := by decide +kernel
theorem dX3_flawOfMove_13 : decode cX3_flawOfMove 13 = .ok (.ifCond .eq 5, 3) := by decide +kernel
theorem dX3_flawOfMove_16 : decode cX3_flawOfMove 16 = .ok (.iconst 1, 1) := by decide +kernel
theorem dX3_flawOfMove_17 : decode cX3_flawOfMove 17 = .ok (.ireturn, 1) := by decide +kernel
theorem dX3_flawOfMove_18 : decode cX3_flawOfMove 18 = .ok (.aload_n 0, 1) := by decide +kernel
theorem dX3_flawOfMove_19 : decode cX3_flawOfMove 19 = .ok (.getfield 15, 3) := by decide +kernel
theorem dX3_flawOfMove_22 : decode cX3_flawOfMove 22 = .ok (.iload_n 1, 1) := by decide +kernel
theorem dX3_flawOfMove_23 : decode cX3_flawOfMove 23 = .ok (.iaload, 1) := by decide +kernel
theorem dX3_flawOfMove_24 : decode cX3_flawOfMove 24 = .ok (.aload_n 0, 1) := by decide +kernel
theorem dX3_flawOfMove_25 : decode cX3_flawOfMove 25 = .ok (.getfield 15, 3) := by decide +kernel
theorem dX3_flawOfMove_28 : decode cX3_flawOfMove 28 = .ok (.iload_n 3, 1) := by decide +kernel
theorem dX3_flawOfMove_29 : decode cX3_flawOfMove 29 = .ok (.iaload, 1) := by decide +kernel
theorem dX3_flawOfMove_30 : decode cX3_flawOfMove 30 = .ok (.if_icmp .eq 5, 3) := by decide +kernel
theorem dX3_flawOfMove_33 : decode cX3_flawOfMove 33 = .ok (.iconst 4, 1) := by decide +kernel
theorem dX3_flawOfMove_34 : decode cX3_flawOfMove 34 = .ok (.ireturn, 1) := by decide +kernel
theorem dX3_flawOfMove_35 : decode cX3_flawOfMove 35 = .ok (.aload_n 0, 1) := by decide +kernel
theorem dX3_flawOfMove_36 : decode cX3_flawOfMove 36 = .ok (.iload_n 1, 1) := by decide +kernel
theorem dX3_flawOfMove_37 : decode cX3_flawOfMove 37 = .ok (.iload_n 2, 1) := by decide +kernel
theorem dX3_flawOfMove_38 : decode cX3_flawOfMove 38 = .ok (.iload 5, 2) := by decide +kernel
theorem dX3_flawOfMove_40 : decode cX3_flawOfMove 40 = .ok (.invokevirtual 38, 3) := by decide +kernel
theorem dX3_flawOfMove_43 : decode cX3_flawOfMove 43 = .ok (.ifCond .eq 19, 3) := by decide +kernel
theorem dX3_flawOfMove_46 : decode cX3_flawOfMove 46 = .ok (.aload_n 0, 1) := by decide +kernel
theorem dX3_flawOfMove_47 : decode cX3_flawOfMove 47 = .ok (.iload_n 3, 1) := by decide +kernel
theorem dX3_flawOfMove_48 : decode cX3_flawOfMove 48 = .ok (.iload 4, 2) := by decide +kernel
theorem dX3_flawOfMove_50 : decode cX3_flawOfMove 50 = .ok (.iload 5, 2) := by decide +kernel
theorem dX3_flawOfMove_52 : decode cX3_flawOfMove 52 = .ok (.invokevirtual 38, 3) := by decide +kernel
theorem dX3_flawOfMove_55 : decode cX3_flawOfMove 55 = .ok (.ifCond .eq 7, 3) := by decide +kernel
theorem dX3_flawOfMove_58 : decode cX3_flawOfMove 58 = .ok (.iconst 0, 1) := by decide +kernel
theorem dX3_flawOfMove_59 : decode cX3_flawOfMove 59 = .ok (.goto 4, 3) := by decide +kernel
theorem dX3_flawOfMove_62 : decode cX3_flawOfMove 62 = .ok (.iconst 2, 1) := by decide +kernel
theorem dX3_flawOfMove_63 : decode cX3_flawOfMove 63 = .ok (.ireturn, 1) := by decide +kernel
theorem dX3_hasRun_0 : decode cX3_hasRun 0 = .ok (.iload_n 2, 1) := by decide +kernel
theorem dX3_hasRun_1 : decode cX3_hasRun 1 = .ok (.ifCond .lt 33, 3) := by decide +kernel
theorem dX3_hasRun_4 : decode cX3_hasRun 4 = .ok (.iload_n 3, 1) := by decide +kernel
theorem dX3_hasRun_5 : decode cX3_hasRun 5 = .ok (.ifCond .lt 29, 3) := by decide +kernel
theorem dX3_hasRun_8 : decode cX3_hasRun 8 = .ok (.iload_n 2, 1) := by decide +kernel
theorem dX3_hasRun_9 : decode cX3_hasRun 9 = .ok (.aload_n 0, 1) := by decide +kernel
theorem dX3_hasRun_10 : decode cX3_hasRun 10 = .ok (.getfield 18, 3) := by decide +kernel
theorem dX3_hasRun_13 : decode cX3_hasRun 13 = .ok (.iload_n 1, 1) := by decide +kernel
theorem dX3_hasRun_14 : decode cX3_hasRun 14 = .ok (.iaload, 1) := by decide +kernel
theorem dX3_hasRun_15 : decode cX3_hasRun 15 = .ok (.if_icmp .gt 19, 3) := by decide +kernel
theorem dX3_hasRun_18 : decode cX3_hasRun 18 = .ok (.iload_n 3, 1) := by decide +kernel
theorem dX3_hasRun_19 : decode cX3_hasRun 19 = .ok (.aload_n 0, 1) := by decide +kernel
theorem dX3_hasRun_20 : decode cX3_hasRun 20 = .ok (.getfield 18, 3) := by decide +kernel
theorem dX3_hasRun_23 : decode cX3_hasRun 23 = .ok (.iload_n 1, 1) := by decide +kernel
theorem dX3_hasRun_24 : decode cX3_hasRun 24 = .ok (.iaload, 1) := by decide +kernel
theorem dX3_hasRun_25 : decode cX3_hasRun 25 = .ok (.iload_n 2, 1) := by decide +kernel
theorem dX3_hasRun_26 : decode cX3_hasRun 26 = .ok (.isub, 1) := by decide +kernel
theorem dX3_hasRun_27 : decode cX3_hasRun 27 = .ok (.if_icmp .gt 7, 3) := by decide +kernel
theorem dX3_hasRun_30 : decode cX3_hasRun 30 = .ok (.iconst 1, 1) := by decide +kernel
theorem dX3_hasRun_31 : decode cX3_hasRun 31 = .ok (.goto 4, 3) := by decide +kernel
theorem dX3_hasRun_34 : decode cX3_hasRun 34 = .ok (.iconst 0, 1) := by decide +kernel
theorem dX3_hasRun_35 : decode cX3_hasRun 35 = .ok (.ireturn, 1) := by decide +kernel
theorem dX3_itemOf_0 : decode cX3_itemOf 0 = .ok (.aload_n 0, 1) := by decide +kernel
theorem dX3_itemOf_1 : decode cX3_itemOf 1 = .ok (.getfield 9, 3) := by decide +kernel
theorem dX3_itemOf_4 : decode cX3_itemOf 4 = .ok (.bipush 64, 2) := by decide +kernel
theorem dX3_itemOf_6 : decode cX3_itemOf 6 = .ok (.iload_n 1, 1) := by decide +kernel
theorem dX3_itemOf_7 : decode cX3_itemOf 7 = .ok (.imul, 1) := by decide +kernel
theorem dX3_itemOf_8 : decode cX3_itemOf 8 = .ok (.iload_n 2, 1) := by decide +kernel
theorem dX3_itemOf_9 : decode cX3_itemOf 9 = .ok (.iadd, 1) := by decide +kernel
theorem dX3_itemOf_10 : decode cX3_itemOf 10 = .ok (.iaload, 1) := by decide +kernel
theorem dX3_itemOf_11 : decode cX3_itemOf 11 = .ok (.ireturn, 1) := by decide +kernel
theorem dX3_fill_0 : decode cX3_fill 0 = .ok (.aload_n 0, 1) := by decide +kernel
theorem dX3_fill_1 : decode cX3_fill 1 = .ok (.getfield 15, 3) := by decide +kernel
theorem dX3_fill_4 : decode cX3_fill 4 = .ok (.iload_n 1, 1) := by decide +kernel
theorem dX3_fill_5 : decode cX3_fill 5 = .ok (.iaload, 1) := by decide +kernel
theorem dX3_fill_6 : decode cX3_fill 6 = .ok (.iload 4, 2) := by decide +kernel
theorem dX3_fill_8 : decode cX3_fill 8 = .ok (.invokestatic 42, 3) := by decide +kernel
theorem dX3_fill_11 : decode cX3_fill 11 = .ok (.istore 5, 2) := by decide +kernel
theorem dX3_fill_13 : decode cX3_fill 13 = .ok (.iload_n 2, 1) := by decide +kernel
theorem dX3_fill_14 : decode cX3_fill 14 = .ok (.istore 6, 2) := by decide +kernel
theorem dX3_fill_16 : decode cX3_fill 16 = .ok (.iload 6, 2) := by decide +kernel
theorem dX3_fill_18 : decode cX3_fill 18 = .ok (.iload_n 3, 1) := by decide +kernel
theorem dX3_fill_19 : decode cX3_fill 19 = .ok (.if_icmp .gt 23, 3) := by decide +kernel
theorem dX3_fill_22 : decode cX3_fill 22 = .ok (.aload_n 0, 1) := by decide +kernel
theorem dX3_fill_23 : decode cX3_fill 23 = .ok (.getfield 9, 3) := by decide +kernel
theorem dX3_fill_26 : decode cX3_fill 26 = .ok (.bipush 64, 2) := by decide +kernel
theorem dX3_fill_28 : decode cX3_fill 28 = .ok (.iload_n 1, 1) := by decide +kernel
theorem dX3_fill_29 : decode cX3_fill 29 = .ok (.imul, 1) := by decide +kernel
theorem dX3_fill_30 : decode cX3_fill 30 = .ok (.iload 6, 2) := by decide +kernel
theorem dX3_fill_32 : decode cX3_fill 32 = .ok (.iadd, 1) := by decide +kernel
theorem dX3_fill_33 : decode cX3_fill 33 = .ok (.iload 5, 2) := by decide +kernel
theorem dX3_fill_35 : decode cX3_fill 35 = .ok (.iastore, 1) := by decide +kernel
theorem dX3_fill_36 : decode cX3_fill 36 = .ok (.iinc 6 1, 3) := by decide +kernel
theorem dX3_fill_39 : decode cX3_fill 39 = .ok (.goto (-23), 3) := by decide +kernel
theorem dX3_fill_42 : decode cX3_fill 42 = .ok (.return_, 1) := by decide +kernel
theorem dX3_fitted_0 : decode cX3_fitted 0 = .ok (.iload_n 0, 1) := by decide +kernel
theorem dX3_fitted_1 : decode cX3_fitted 1 = .ok (.ifCond .ne 6, 3) := by decide +kernel
theorem dX3_fitted_4 : decode cX3_fitted 4 = .ok (.iload_n 1, 1) := by decide +kernel
theorem dX3_fitted_5 : decode cX3_fitted 5 = .ok (.i2b, 1) := by decide +kernel
theorem dX3_fitted_6 : decode cX3_fitted 6 = .ok (.ireturn, 1) := by decide +kernel
theorem dX3_fitted_7 : decode cX3_fitted 7 = .ok (.iload_n 0, 1) := by decide +kernel
theorem dX3_fitted_8 : decode cX3_fitted 8 = .ok (.iconst 1, 1) := by decide +kernel
theorem dX3_fitted_9 : decode cX3_fitted 9 = .ok (.if_icmp .ne 8, 3) := by decide +kernel
theorem dX3_fitted_12 : decode cX3_fitted 12 = .ok (.iload_n 1, 1) := by decide +kernel
theorem dX3_fitted_13 : decode cX3_fitted 13 = .ok (.i2s, 1) := by decide +kernel
theorem dX3_fitted_14 : decode cX3_fitted 14 = .ok (.goto 4, 3) := by decide +kernel
theorem dX3_fitted_17 : decode cX3_fitted 17 = .ok (.iload_n 1, 1) := by decide +kernel
theorem dX3_fitted_18 : decode cX3_fitted 18 = .ok (.ireturn, 1) := by decide +kernel
theorem dX3_move_0 : decode cX3_move 0 = .ok (.aload_n 0, 1) := by decide +kernel
theorem dX3_move_1 : decode cX3_move 1 = .ok (.getfield 9, 3) := by decide +kernel
theorem dX3_move_4 : decode cX3_move 4 = .ok (.bipush 64, 2) := by decide +kernel
theorem dX3_move_6 : decode cX3_move 6 = .ok (.iload_n 1, 1) := by decide +kernel
theorem dX3_move_7 : decode cX3_move 7 = .ok (.imul, 1) := by decide +kernel
theorem dX3_move_8 : decode cX3_move 8 = .ok (.iload_n 2, 1) := by decide +kernel
theorem dX3_move_9 : decode cX3_move 9 = .ok (.iadd, 1) := by decide +kernel
theorem dX3_move_10 : decode cX3_move 10 = .ok (.aload_n 0, 1) := by decide +kernel
theorem dX3_move_11 : decode cX3_move 11 = .ok (.getfield 9, 3) := by decide +kernel
theorem dX3_move_14 : decode cX3_move 14 = .ok (.bipush 64, 2) := by decide +kernel
theorem dX3_move_16 : decode cX3_move 16 = .ok (.iload_n 3, 1) := by decide +kernel
theorem dX3_move_17 : decode cX3_move 17 = .ok (.imul, 1) := by decide +kernel
theorem dX3_move_18 : decode cX3_move 18 = .ok (.iload 4, 2) := by decide +kernel
theorem dX3_move_20 : decode cX3_move 20 = .ok (.iadd, 1) := by decide +kernel
theorem dX3_move_21 : decode cX3_move 21 = .ok (.iload 5, 2) := by decide +kernel
theorem dX3_move_23 : decode cX3_move 23 = .ok (.invokestatic 46, 3) := by decide +kernel
theorem dX3_move_26 : decode cX3_move 26 = .ok (.return_, 1) := by decide +kernel
theorem dX3_reading_0 : decode cX3_reading 0 = .ok (.iconst 3, 1) := by decide +kernel
theorem dX3_reading_1 : decode cX3_reading 1 = .ok (.iload_n 1, 1) := by decide +kernel
theorem dX3_reading_2 : decode cX3_reading 2 = .ok (.imul, 1) := by decide +kernel
theorem dX3_reading_3 : decode cX3_reading 3 = .ok (.iload_n 2, 1) := by decide +kernel
theorem dX3_reading_4 : decode cX3_reading 4 = .ok (.iadd, 1) := by decide +kernel
theorem dX3_reading_5 : decode cX3_reading 5 = .ok (.istore 4, 2) := by decide +kernel
theorem dX3_reading_7 : decode cX3_reading 7 = .ok (.iload_n 3, 1) := by decide +kernel
theorem dX3_reading_8 : decode cX3_reading 8 = .ok (.aload_n 0, 1) := by decide +kernel
theorem dX3_reading_9 : decode cX3_reading 9 = .ok (.getfield 18, 3) := by decide +kernel
theorem dX3_reading_12 : decode cX3_reading 12 = .ok (.iload 4, 2) := by decide +kernel
theorem dX3_reading_14 : decode cX3_reading 14 = .ok (.iaload, 1) := by decide +kernel
theorem dX3_reading_15 : decode cX3_reading 15 = .ok (.if_icmp .lt 5, 3) := by decide +kernel
theorem dX3_reading_18 : decode cX3_reading 18 = .ok (.iconst (-1), 1) := by decide +kernel
theorem dX3_reading_19 : decode cX3_reading 19 = .ok (.ireturn, 1) := by decide +kernel
theorem dX3_reading_20 : decode cX3_reading 20 = .ok (.aload_n 0, 1) := by decide +kernel
theorem dX3_reading_21 : decode cX3_reading 21 = .ok (.getfield 9, 3) := by decide +kernel
theorem dX3_reading_24 : decode cX3_reading 24 = .ok (.bipush 64, 2) := by decide +kernel
theorem dX3_reading_26 : decode cX3_reading 26 = .ok (.iload 4, 2) := by decide +kernel
theorem dX3_reading_28 : decode cX3_reading 28 = .ok (.imul, 1) := by decide +kernel
theorem dX3_reading_29 : decode cX3_reading 29 = .ok (.iload_n 3, 1) := by decide +kernel
theorem dX3_reading_30 : decode cX3_reading 30 = .ok (.iadd, 1) := by decide +kernel
theorem dX3_reading_31 : decode cX3_reading 31 = .ok (.iaload, 1) := by decide +kernel
theorem dX3_reading_32 : decode cX3_reading 32 = .ok (.istore 5, 2) := by decide +kernel
theorem dX3_reading_34 : decode cX3_reading 34 = .ok (.iload 5, 2) := by decide +kernel
theorem dX3_reading_36 : decode cX3_reading 36 = .ok (.ifCond .lt 16, 3) := by decide +kernel
theorem dX3_reading_39 : decode cX3_reading 39 = .ok (.iload 5, 2) := by decide +kernel
theorem dX3_reading_41 : decode cX3_reading 41 = .ok (.sipush 1000, 3) := by decide +kernel
theorem dX3_reading_44 : decode cX3_reading 44 = .ok (.if_icmp .gt 8, 3) := by decide +kernel
theorem dX3_reading_47 : decode cX3_reading 47 = .ok (.iload 5, 2) := by decide +kernel
theorem dX3_reading_49 : decode cX3_reading 49 = .ok (.goto 4, 3) := by decide +kernel
theorem dX3_reading_52 : decode cX3_reading 52 = .ok (.iconst (-1), 1) := by decide +kernel
theorem dX3_reading_53 : decode cX3_reading 53 = .ok (.ireturn, 1) := by decide +kernel
theorem dX4_init_0 : decode cX4_init 0 = .ok (.aload_n 0, 1) := by decide +kernel
theorem dX4_init_1 : decode cX4_init 1 = .ok (.invokespecial 3, 3) := by decide +kernel
theorem dX4_init_4 : decode cX4_init 4 = .ok (.aload_n 0, 1) := by decide +kernel
theorem dX4_init_5 : decode cX4_init 5 = .ok (.bipush 40, 2) := by decide +kernel
theorem dX4_init_7 : decode cX4_init 7 = .ok (.newarray .int, 2) := by decide +kernel
theorem dX4_init_9 : decode cX4_init 9 = .ok (.putfield 9, 3) := by decide +kernel
theorem dX4_init_12 : decode cX4_init 12 = .ok (.aload_n 0, 1) := by decide +kernel
theorem dX4_init_13 : decode cX4_init 13 = .ok (.bipush 40, 2) := by decide +kernel
theorem dX4_init_15 : decode cX4_init 15 = .ok (.newarray .int, 2) := by decide +kernel
theorem dX4_init_17 : decode cX4_init 17 = .ok (.putfield 15, 3) := by decide +kernel
theorem dX4_init_20 : decode cX4_init 20 = .ok (.aload_n 0, 1) := by decide +kernel
theorem dX4_init_21 : decode cX4_init 21 = .ok (.bipush 40, 2) := by decide +kernel
theorem dX4_init_23 : decode cX4_init 23 = .ok (.newarray .int, 2) := by decide +kernel
theorem dX4_init_25 : decode cX4_init 25 = .ok (.putfield 18, 3) := by decide +kernel
theorem dX4_init_28 : decode cX4_init 28 = .ok (.aload_n 0, 1) := by decide +kernel
theorem dX4_init_29 : decode cX4_init 29 = .ok (.iconst 0, 1) := by decide +kernel
theorem dX4_init_30 : decode cX4_init 30 = .ok (.putfield 21, 3) := by decide +kernel
theorem dX4_init_33 : decode cX4_init 33 = .ok (.aload_n 0, 1) := by decide +kernel
theorem dX4_init_34 : decode cX4_init 34 = .ok (.bipush 40, 2) := by decide +kernel
theorem dX4_init_36 : decode cX4_init 36 = .ok (.newarray .int, 2) := by decide +kernel
theorem dX4_init_38 : decode cX4_init 38 = .ok (.putfield 25, 3) := by decide +kernel
theorem dX4_init_41 : decode cX4_init 41 = .ok (.aload_n 0, 1) := by decide +kernel
theorem dX4_init_42 : decode cX4_init 42 = .ok (.sipush 160, 3) := by decide +kernel
theorem dX4_init_45 : decode cX4_init 45 = .ok (.newarray .int, 2) := by decide +kernel
theorem dX4_init_47 : decode cX4_init 47 = .ok (.putfield 28, 3) := by decide +kernel
theorem dX4_init_50 : decode cX4_init 50 = .ok (.aload_n 0, 1) := by decide +kernel
theorem dX4_init_51 : decode cX4_init 51 = .ok (.iconst 0, 1) := by decide +kernel
theorem dX4_init_52 : decode cX4_init 52 = .ok (.putfield 31, 3) := by decide +kernel
theorem dX4_init_55 : decode cX4_init 55 = .ok (.return_, 1) := by decide +kernel
theorem dX4_number_0 : decode cX4_number 0 = .ok (.aload_n 0, 1) := by decide +kernel
theorem dX4_number_1 : decode cX4_number 1 = .ok (.getfield 21, 3) := by decide +kernel
theorem dX4_number_4 : decode cX4_number 4 = .ok (.ireturn, 1) := by decide +kernel
theorem dX4_teachers_0 : decode cX4_teachers 0 = .ok (.aload_n 0, 1) := by decide +kernel
theorem dX4_teachers_1 : decode cX4_teachers 1 = .ok (.getfield 31, 3) := by decide +kernel
theorem dX4_teachers_4 : decode cX4_teachers 4 = .ok (.ireturn, 1) := by decide +kernel
theorem dX4_add_0 : decode cX4_add 0 = .ok (.aload_n 0, 1) := by decide +kernel
theorem dX4_add_1 : decode cX4_add 1 = .ok (.getfield 21, 3) := by decide +kernel
theorem dX4_add_4 : decode cX4_add 4 = .ok (.bipush 40, 2) := by decide +kernel
theorem dX4_add_6 : decode cX4_add 6 = .ok (.if_icmp .ge 43, 3) := by decide +kernel
theorem dX4_add_9 : decode cX4_add 9 = .ok (.aload_n 0, 1) := by decide +kernel
theorem dX4_add_10 : decode cX4_add 10 = .ok (.getfield 9, 3) := by decide +kernel
theorem dX4_add_13 : decode cX4_add 13 = .ok (.aload_n 0, 1) := by decide +kernel
theorem dX4_add_14 : decode cX4_add 14 = .ok (.getfield 21, 3) := by decide +kernel
theorem dX4_add_17 : decode cX4_add 17 = .ok (.iload_n 1, 1) := by decide +kernel
theorem dX4_add_18 : decode cX4_add 18 = .ok (.iastore, 1) := by decide +kernel
theorem dX4_add_19 : decode cX4_add 19 = .ok (.aload_n 0, 1) := by decide +kernel
theorem dX4_add_20 : decode cX4_add 20 = .ok (.getfield 15, 3) := by decide +kernel
theorem dX4_add_23 : decode cX4_add 23 = .ok (.aload_n 0, 1) := by decide +kernel
theorem dX4_add_24 : decode cX4_add 24 = .ok (.getfield 21, 3) := by decide +kernel
theorem dX4_add_27 : decode cX4_add 27 = .ok (.iload_n 2, 1) := by decide +kernel
theorem dX4_add_28 : decode cX4_add 28 = .ok (.iastore, 1) := by decide +kernel
theorem dX4_add_29 : decode cX4_add 29 = .ok (.aload_n 0, 1) := by decide +kernel
theorem dX4_add_30 : decode cX4_add 30 = .ok (.getfield 18, 3) := by decide +kernel
theorem dX4_add_33 : decode cX4_add 33 = .ok (.aload_n 0, 1) := by decide +kernel
theorem dX4_add_34 : decode cX4_add 34 = .ok (.getfield 21, 3) := by decide +kernel
theorem dX4_add_37 : decode cX4_add 37 = .ok (.iload_n 3, 1) := by decide +kernel
theorem dX4_add_38 : decode cX4_add 38 = .ok (.iastore, 1) := by decide +kernel
theorem dX4_add_39 : decode cX4_add 39 = .ok (.aload_n 0, 1) := by decide +kernel
theorem dX4_add_40 : decode cX4_add 40 = .ok (.dup, 1) := by decide +kernel
theorem dX4_add_41 : decode cX4_add 41 = .ok (.getfield 21, 3) := by decide +kernel
theorem dX4_add_44 : decode cX4_add 44 = .ok (.iconst 1, 1) := by decide +kernel
theorem dX4_add_45 : decode cX4_add 45 = .ok (.iadd, 1) := by decide +kernel
theorem dX4_add_46 : decode cX4_add 46 = .ok (.putfield 21, 3) := by decide +kernel
theorem dX4_add_49 : decode cX4_add 49 = .ok (.return_, 1) := by decide +kernel
theorem dX4_clear_0 : decode cX4_clear 0 = .ok (.aload_n 0, 1) := by decide +kernel
theorem dX4_clear_1 : decode cX4_clear 1 = .ok (.iconst 0, 1) := by decide +kernel
theorem dX4_clear_2 : decode cX4_clear 2 = .ok (.putfield 21, 3) := by decide +kernel
theorem dX4_clear_5 : decode cX4_clear 5 = .ok (.return_, 1) := by decide +kernel
theorem dX4_gather_0 : decode cX4_gather 0 = .ok (.aload_n 0, 1) := by decide +kernel
theorem dX4_gather_1 : decode cX4_gather 1 = .ok (.iconst 0, 1) := by decide +kernel
theorem dX4_gather_2 : decode cX4_gather 2 = .ok (.putfield 31, 3) := by decide +kernel
theorem dX4_gather_5 : decode cX4_gather 5 = .ok (.iconst 0, 1) := by decide +kernel
theorem dX4_gather_6 : decode cX4_gather 6 = .ok (.istore_n 2, 1) := by decide +kernel
theorem dX4_gather_7 : decode cX4_gather 7 = .ok (.iload_n 2, 1) := by decide +kernel
theorem dX4_gather_8 : decode cX4_gather 8 = .ok (.aload_n 0, 1) := by decide +kernel
theorem dX4_gather_9 : decode cX4_gather 9 = .ok (.getfield 21, 3) := by decide +kernel
theorem dX4_gather_12 : decode cX4_gather 12 = .ok (.if_icmp .ge 98, 3) := by decide +kernel
theorem dX4_gather_15 : decode cX4_gather 15 = .ok (.aload_n 1, 1) := by decide +kernel
theorem dX4_gather_16 : decode cX4_gather 16 = .ok (.aload_n 0, 1) := by decide +kernel
theorem dX4_gather_17 : decode cX4_gather 17 = .ok (.getfield 9, 3) := by decide +kernel
theorem dX4_gather_20 : decode cX4_gather 20 = .ok (.iload_n 2, 1) := by decide +kernel
theorem dX4_gather_21 : decode cX4_gather 21 = .ok (.iaload, 1) := by decide +kernel
theorem dX4_gather_22 : decode cX4_gather 22 = .ok (.aload_n 0, 1) := by decide +kernel
theorem dX4_gather_23 : decode cX4_gather 23 = .ok (.getfield 15, 3) := by decide +kernel
theorem dX4_gather_26 : decode cX4_gather 26 = .ok (.iload_n 2, 1) := by decide +kernel
theorem dX4_gather_27 : decode cX4_gather 27 = .ok (.iaload, 1) := by decide +kernel
theorem dX4_gather_28 : decode cX4_gather 28 = .ok (.invokevirtual 34, 3) := by decide +kernel
theorem dX4_gather_31 : decode cX4_gather 31 = .ok (.iconst 3, 1) := by decide +kernel
theorem dX4_gather_32 : decode cX4_gather 32 = .ok (.if_icmp .ne 72, 3) := by decide +kernel
theorem dX4_gather_35 : decode cX4_gather 35 = .ok (.aload_n 0, 1) := by decide +kernel
theorem dX4_gather_36 : decode cX4_gather 36 = .ok (.getfield 25, 3) := by decide +kernel
theorem dX4_gather_39 : decode cX4_gather 39 = .ok (.aload_n 0, 1) := by decide +kernel
theorem dX4_gather_40 : decode cX4_gather 40 = .ok (.getfield 31, 3) := by decide +kernel
theorem dX4_gather_43 : decode cX4_gather 43 = .ok (.aload_n 0, 1) := by decide +kernel
theorem dX4_gather_44 : decode cX4_gather 44 = .ok (.getfield 18, 3) := by decide +kernel
theorem dX4_gather_47 : decode cX4_gather 47 = .ok (.iload_n 2, 1) := by decide +kernel
theorem dX4_gather_48 : decode cX4_gather 48 = .ok (.iaload, 1) := by decide +kernel
theorem dX4_gather_49 : decode cX4_gather 49 = .ok (.iastore, 1) := by decide +kernel
theorem dX4_gather_50 : decode cX4_gather 50 = .ok (.iconst 0, 1) := by decide +kernel
theorem dX4_gather_51 : decode cX4_gather 51 = .ok (.istore_n 3, 1) := by decide +kernel
theorem dX4_gather_52 : decode cX4_gather 52 = .ok (.iload_n 3, 1) := by decide +kernel
theorem dX4_gather_53 : decode cX4_gather 53 = .ok (.iconst 4, 1) := by decide +kernel
theorem dX4_gather_54 : decode cX4_gather 54 = .ok (.if_icmp .ge 40, 3) := by decide +kernel
theorem dX4_gather_57 : decode cX4_gather 57 = .ok (.aload_n 0, 1) := by decide +kernel
theorem dX4_gather_58 : decode cX4_gather 58 = .ok (.getfield 28, 3) := by decide +kernel
theorem dX4_gather_61 : decode cX4_gather 61 = .ok (.bipush 40, 2) := by decide +kernel
theorem dX4_gather_63 : decode cX4_gather 63 = .ok (.iload_n 3, 1) := by decide +kernel
theorem dX4_gather_64 : decode cX4_gather 64 = .ok (.imul, 1) := by decide +kernel
theorem dX4_gather_65 : decode cX4_gather 65 = .ok (.aload_n 0, 1) := by decide +kernel
theorem dX4_gather_66 : decode cX4_gather 66 = .ok (.getfield 31, 3) := by decide +kernel
theorem dX4_gather_69 : decode cX4_gather 69 = .ok (.iadd, 1) := by decide +kernel
theorem dX4_gather_70 : decode cX4_gather 70 = .ok (.aload_n 1, 1) := by decide +kernel
theorem dX4_gather_71 : decode cX4_gather 71 = .ok (.aload_n 0, 1) := by decide +kernel
theorem dX4_gather_72 : decode cX4_gather 72 = .ok (.getfield 9, 3) := by decide +kernel
theorem dX4_gather_75 : decode cX4_gather 75 = .ok (.iload_n 2, 1) := by decide +kernel
theorem dX4_gather_76 : decode cX4_gather 76 = .ok (.iaload, 1) := by decide +kernel
theorem dX4_gather_77 : decode cX4_gather 77 = .ok (.aload_n 0, 1) := by decide +kernel
theorem dX4_gather_78 : decode cX4_gather 78 = .ok (.getfield 15, 3) := by decide +kernel
theorem dX4_gather_81 : decode cX4_gather 81 = .ok (.iload_n 2, 1) := by decide +kernel
theorem dX4_gather_82 : decode cX4_gather 82 = .ok (.iaload, 1) := by decide +kernel
theorem dX4_gather_83 : decode cX4_gather 83 = .ok (.iload_n 3, 1) := by decide +kernel
theorem dX4_gather_84 : decode cX4_gather 84 = .ok (.invokevirtual 40, 3) := by decide +kernel
theorem dX4_gather_87 : decode cX4_gather 87 = .ok (.iastore, 1) := by decide +kernel
theorem dX4_gather_88 : decode cX4_gather 88 = .ok (.iinc 3 1, 3) := by decide +kernel
theorem dX4_gather_91 : decode cX4_gather 91 = .ok (.goto (-39), 3) := by decide +kernel
theorem dX4_gather_94 : decode cX4_gather 94 = .ok (.aload_n 0, 1) := by decide +kernel
theorem dX4_gather_95 : decode cX4_gather 95 = .ok (.dup, 1) := by decide +kernel
theorem dX4_gather_96 : decode cX4_gather 96 = .ok (.getfield 31, 3) := by decide +kernel
theorem dX4_gather_99 : decode cX4_gather 99 = .ok (.iconst 1, 1) := by decide +kernel
theorem dX4_gather_100 : decode cX4_gather 100 = .ok (.iadd, 1) := by decide +kernel
theorem dX4_gather_101 : decode cX4_gather 101 = .ok (.putfield 31, 3) := by decide +kernel
theorem dX4_gather_104 : decode cX4_gather 104 = .ok (.iinc 2 1, 3) := by decide +kernel
theorem dX4_gather_107 : decode cX4_gather 107 = .ok (.goto (-100), 3) := by decide +kernel
theorem dX4_gather_110 : decode cX4_gather 110 = .ok (.return_, 1) := by decide +kernel
theorem dX4_classOf_0 : decode cX4_classOf 0 = .ok (.aload_n 0, 1) := by decide +kernel
theorem dX4_classOf_1 : decode cX4_classOf 1 = .ok (.getfield 25, 3) := by decide +kernel
theorem dX4_classOf_4 : decode cX4_classOf 4 = .ok (.iload_n 1, 1) := by decide +kernel
theorem dX4_classOf_5 : decode cX4_classOf 5 = .ok (.iaload, 1) := by decide +kernel
theorem dX4_classOf_6 : decode cX4_classOf 6 = .ok (.ireturn, 1) := by decide +kernel
theorem dX4_featureOf_0 : decode cX4_featureOf 0 = .ok (.aload_n 0, 1) := by decide +kernel
theorem dX4_featureOf_1 : decode cX4_featureOf 1 = .ok (.getfield 28, 3) := by decide +kernel
theorem dX4_featureOf_4 : decode cX4_featureOf 4 = .ok (.bipush 40, 2) := by decide +kernel
theorem dX4_featureOf_6 : decode cX4_featureOf 6 = .ok (.iload_n 2, 1) := by decide +kernel
theorem dX4_featureOf_7 : decode cX4_featureOf 7 = .ok (.imul, 1) := by decide +kernel
theorem dX4_featureOf_8 : decode cX4_featureOf 8 = .ok (.iload_n 1, 1) := by decide +kernel
theorem dX4_featureOf_9 : decode cX4_featureOf 9 = .ok (.iadd, 1) := by decide +kernel
theorem dX4_featureOf_10 : decode cX4_featureOf 10 = .ok (.iaload, 1) := by decide +kernel
theorem dX4_featureOf_11 : decode cX4_featureOf 11 = .ok (.ireturn, 1) := by decide +kernel
theorem dX4_nearestClass_0 : decode cX4_nearestClass 0 = .ok (.aload_n 1, 1) := by decide +kernel
theorem dX4_nearestClass_1 : decode cX4_nearestClass 1 = .ok (.iload_n 2, 1) := by decide +kernel
theorem dX4_nearestClass_2 : decode cX4_nearestClass 2 = .ok (.iload_n 3, 1) := by decide +kernel
theorem dX4_nearestClass_3 : decode cX4_nearestClass 3 = .ok (.iconst 0, 1) := by decide +kernel
theorem dX4_nearestClass_4 : decode cX4_nearestClass 4 = .ok (.invokevirtual 40, 3) := by decide +kernel
theorem dX4_nearestClass_7 : decode cX4_nearestClass 7 = .ok (.istore 4, 2) := by decide +kernel
theorem dX4_nearestClass_9 : decode cX4_nearestClass 9 = .ok (.aload_n 1, 1) := by decide +kernel
theorem dX4_nearestClass_10 : decode cX4_nearestClass 10 = .ok (.iload_n 2, 1) := by decide +kernel
theorem dX4_nearestClass_11 : decode cX4_nearestClass 11 = .ok (.iload_n 3, 1) := by decide +kernel
theorem dX4_nearestClass_12 : decode cX4_nearestClass 12 = .ok (.iconst 1, 1) := by decide +kernel
theorem dX4_nearestClass_13 : decode cX4_nearestClass 13 = .ok (.invokevirtual 40, 3) := by decide +kernel
theorem dX4_nearestClass_16 : decode cX4_nearestClass 16 = .ok (.istore 5, 2) := by decide +kernel
theorem dX4_nearestClass_18 : decode cX4_nearestClass 18 = .ok (.aload_n 1, 1) := by decide +kernel
theorem dX4_nearestClass_19 : decode cX4_nearestClass 19 = .ok (.iload_n 2, 1) := by decide +kernel
theorem dX4_nearestClass_20 : decode cX4_nearestClass 20 = .ok (.iload_n 3, 1) := by decide +kernel
theorem dX4_nearestClass_21 : decode cX4_nearestClass 21 = .ok (.iconst 2, 1) := by decide +kernel
theorem dX4_nearestClass_22 : decode cX4_nearestClass 22 = .ok (.invokevirtual 40, 3) := by decide +kernel
theorem dX4_nearestClass_25 : decode cX4_nearestClass 25 = .ok (.istore 6, 2) := by decide +kernel
theorem dX4_nearestClass_27 : decode cX4_nearestClass 27 = .ok (.sipush 3001, 3) := by decide +kernel
theorem dX4_nearestClass_30 : decode cX4_nearestClass 30 = .ok (.istore 7, 2) := by decide +kernel
theorem dX4_nearestClass_32 : decode cX4_nearestClass 32 = .ok (.iconst (-1), 1) := by decide +kernel
theorem dX4_nearestClass_33 : decode cX4_nearestClass 33 = .ok (.istore 8, 2) := by decide +kernel
theorem dX4_nearestClass_35 : decode cX4_nearestClass 35 = .ok (.iconst 0, 1) := by decide +kernel
theorem dX4_nearestClass_36 : decode cX4_nearestClass 36 = .ok (.istore 9, 2) := by decide +kernel
theorem dX4_nearestClass_38 : decode cX4_nearestClass 38 = .ok (.iload 9, 2) := by decide +kernel
theorem dX4_nearestClass_40 : decode cX4_nearestClass 40 = .ok (.aload_n 0, 1) := by decide +kernel
theorem dX4_nearestClass_41 : decode cX4_nearestClass 41 = .ok (.getfield 31, 3) := by decide +kernel
theorem dX4_nearestClass_44 : decode cX4_nearestClass 44 = .ok (.if_icmp .ge 78, 3) := by decide +kernel
theorem dX4_nearestClass_47 : decode cX4_nearestClass 47 = .ok (.aload_n 0, 1) := by decide +kernel
theorem dX4_nearestClass_48 : decode cX4_nearestClass 48 = .ok (.getfield 28, 3) := by decide +kernel
theorem dX4_nearestClass_51 : decode cX4_nearestClass 51 = .ok (.iload 9, 2) := by decide +kernel
theorem dX4_nearestClass_53 : decode cX4_nearestClass 53 = .ok (.iaload, 1) := by decide +kernel
theorem dX4_nearestClass_54 : decode cX4_nearestClass 54 = .ok (.iload 4, 2) := by decide +kernel
theorem dX4_nearestClass_56 : decode cX4_nearestClass 56 = .ok (.isub, 1) := by decide +kernel
theorem dX4_nearestClass_57 : decode cX4_nearestClass 57 = .ok (.invokestatic 44, 3) := by decide +kernel
theorem dX4_nearestClass_60 : decode cX4_nearestClass 60 = .ok (.aload_n 0, 1) := by decide +kernel
theorem dX4_nearestClass_61 : decode cX4_nearestClass 61 = .ok (.getfield 28, 3) := by decide +kernel
theorem dX4_nearestClass_64 : decode cX4_nearestClass 64 = .ok (.bipush 40, 2) := by decide +kernel
theorem dX4_nearestClass_66 : decode cX4_nearestClass 66 = .ok (.iload 9, 2) := by decide +kernel
theorem dX4_nearestClass_68 : decode cX4_nearestClass 68 = .ok (.iadd, 1) := by decide +kernel
theorem dX4_nearestClass_69 : decode cX4_nearestClass 69 = .ok (.iaload, 1) := by decide +kernel
theorem dX4_nearestClass_70 : decode cX4_nearestClass 70 = .ok (.iload 5, 2) := by decide +kernel
theorem dX4_nearestClass_72 : decode cX4_nearestClass 72 = .ok (.isub, 1) := by decide +kernel
theorem dX4_nearestClass_73 : decode cX4_nearestClass 73 = .ok (.invokestatic 44, 3) := by decide +kernel
theorem dX4_nearestClass_76 : decode cX4_nearestClass 76 = .ok (.iadd, 1) := by decide +kernel
theorem dX4_nearestClass_77 : decode cX4_nearestClass 77 = .ok (.aload_n 0, 1) := by decide +kernel
theorem dX4_nearestClass_78 : decode cX4_nearestClass 78 = .ok (.getfield 28, 3) := by decide +kernel
theorem dX4_nearestClass_81 : decode cX4_nearestClass 81 = .ok (.bipush 80, 2) := by decide +kernel
theorem dX4_nearestClass_83 : decode cX4_nearestClass 83 = .ok (.iload 9, 2) := by decide +kernel
theorem dX4_nearestClass_85 : decode cX4_nearestClass 85 = .ok (.iadd, 1) := by decide +kernel
theorem dX4_nearestClass_86 : decode cX4_nearestClass 86 = .ok (.iaload, 1) := by decide +kernel
theorem dX4_nearestClass_87 : decode cX4_nearestClass 87 = .ok (.iload 6, 2) := by decide +kernel
theorem dX4_nearestClass_89 : decode cX4_nearestClass 89 = .ok (.isub, 1) := by decide +kernel
theorem dX4_nearestClass_90 : decode cX4_nearestClass 90 = .ok (.invokestatic 44, 3) := by decide +kernel
theorem dX4_nearestClass_93 : decode cX4_nearestClass 93 = .ok (.iadd, 1) := by decide +kernel
theorem dX4_nearestClass_94 : decode cX4_nearestClass 94 = .ok (.istore 10, 2) := by decide +kernel
theorem dX4_nearestClass_96 : decode cX4_nearestClass 96 = .ok (.iload 10, 2) := by decide +kernel
theorem dX4_nearestClass_98 : decode cX4_nearestClass 98 = .ok (.iload 7, 2) := by decide +kernel
theorem dX4_nearestClass_100 : decode cX4_nearestClass 100 = .ok (.if_icmp .ge 16, 3) := by decide +kernel
theorem dX4_nearestClass_103 : decode cX4_nearestClass 103 = .ok (.iload 10, 2) := by decide +kernel
theorem dX4_nearestClass_105 : decode cX4_nearestClass 105 = .ok (.istore 7, 2) := by decide +kernel
theorem dX4_nearestClass_107 : decode cX4_nearestClass 107 = .ok (.aload_n 0, 1) := by decide +kernel
theorem dX4_nearestClass_108 : decode cX4_nearestClass 108 = .ok (.getfield 25, 3) := by decide +kernel
theorem dX4_nearestClass_111 : decode cX4_nearestClass 111 = .ok (.iload 9, 2) := by decide +kernel
theorem dX4_nearestClass_113 : decode cX4_nearestClass 113 = .ok (.iaload, 1) := by decide +kernel
theorem dX4_nearestClass_114 : decode cX4_nearestClass 114 = .ok (.istore 8, 2) := by decide +kernel
theorem dX4_nearestClass_116 : decode cX4_nearestClass 116 = .ok (.iinc 9 1, 3) := by decide +kernel
theorem dX4_nearestClass_119 : decode cX4_nearestClass 119 = .ok (.goto (-81), 3) := by decide +kernel
theorem dX4_nearestClass_122 : decode cX4_nearestClass 122 = .ok (.iload 8, 2) := by decide +kernel
theorem dX4_nearestClass_124 : decode cX4_nearestClass 124 = .ok (.ireturn, 1) := by decide +kernel
theorem dX5_init_0 : decode cX5_init 0 = .ok (.aload_n 0, 1) := by decide +kernel
theorem dX5_init_1 : decode cX5_init 1 = .ok (.invokespecial 3, 3) := by decide +kernel
theorem dX5_init_4 : decode cX5_init 4 = .ok (.aload_n 0, 1) := by decide +kernel
theorem dX5_init_5 : decode cX5_init 5 = .ok (.bipush 6, 2) := by decide +kernel
theorem dX5_init_7 : decode cX5_init 7 = .ok (.newarray .int, 2) := by decide +kernel
theorem dX5_init_9 : decode cX5_init 9 = .ok (.putfield 9, 3) := by decide +kernel
theorem dX5_init_12 : decode cX5_init 12 = .ok (.aload_n 0, 1) := by decide +kernel
theorem dX5_init_13 : decode cX5_init 13 = .ok (.bipush 6, 2) := by decide +kernel
theorem dX5_init_15 : decode cX5_init 15 = .ok (.newarray .int, 2) := by decide +kernel
theorem dX5_init_17 : decode cX5_init 17 = .ok (.putfield 15, 3) := by decide +kernel
theorem dX5_init_20 : decode cX5_init 20 = .ok (.aload_n 0, 1) := by decide +kernel
theorem dX5_init_21 : decode cX5_init 21 = .ok (.sipush 900, 3) := by decide +kernel
theorem dX5_init_24 : decode cX5_init 24 = .ok (.putfield 18, 3) := by decide +kernel
theorem dX5_init_27 : decode cX5_init 27 = .ok (.aload_n 0, 1) := by decide +kernel
theorem dX5_init_28 : decode cX5_init 28 = .ok (.iconst 2, 1) := by decide +kernel
theorem dX5_init_29 : decode cX5_init 29 = .ok (.putfield 22, 3) := by decide +kernel
theorem dX5_init_32 : decode cX5_init 32 = .ok (.aload_n 0, 1) := by decide +kernel
theorem dX5_init_33 : decode cX5_init 33 = .ok (.aload_n 1, 1) := by decide +kernel
theorem dX5_init_34 : decode cX5_init 34 = .ok (.putfield 25, 3) := by decide +kernel
theorem dX5_init_37 : decode cX5_init 37 = .ok (.return_, 1) := by decide +kernel
theorem dX5_bright_0 : decode cX5_bright 0 = .ok (.aload_n 0, 1) := by decide +kernel
theorem dX5_bright_1 : decode cX5_bright 1 = .ok (.getfield 18, 3) := by decide +kernel
theorem dX5_bright_4 : decode cX5_bright 4 = .ok (.ireturn, 1) := by decide +kernel
theorem dX5_high_0 : decode cX5_high 0 = .ok (.aload_n 0, 1) := by decide +kernel
theorem dX5_high_1 : decode cX5_high 1 = .ok (.getfield 22, 3) := by decide +kernel
theorem dX5_high_4 : decode cX5_high 4 = .ok (.ireturn, 1) := by decide +kernel
theorem dX5_setClouds_0 : decode cX5_setClouds 0 = .ok (.aload_n 0, 1) := by decide +kernel
theorem dX5_setClouds_1 : decode cX5_setClouds 1 = .ok (.iload_n 1, 1) := by decide +kernel
theorem dX5_setClouds_2 : decode cX5_setClouds 2 = .ok (.putfield 18, 3) := by decide +kernel
theorem dX5_setClouds_5 : decode cX5_setClouds 5 = .ok (.aload_n 0, 1) := by decide +kernel
theorem dX5_setClouds_6 : decode cX5_setClouds 6 = .ok (.iload_n 2, 1) := by decide +kernel
theorem dX5_setClouds_7 : decode cX5_setClouds 7 = .ok (.putfield 22, 3) := by decide +kernel
theorem dX5_setClouds_10 : decode cX5_setClouds 10 = .ok (.return_, 1) := by decide +kernel
theorem dX5_setSun_0 : decode cX5_setSun 0 = .ok (.aload_n 0, 1) := by decide +kernel
theorem dX5_setSun_1 : decode cX5_setSun 1 = .ok (.getfield 9, 3) := by decide +kernel
theorem dX5_setSun_4 : decode cX5_setSun 4 = .ok (.iload_n 1, 1) := by decide +kernel
theorem dX5_setSun_5 : decode cX5_setSun 5 = .ok (.iload_n 2, 1) := by decide +kernel
theorem dX5_setSun_6 : decode cX5_setSun 6 = .ok (.iastore, 1) := by decide +kernel
theorem dX5_setSun_7 : decode cX5_setSun 7 = .ok (.aload_n 0, 1) := by decide +kernel
theorem dX5_setSun_8 : decode cX5_setSun 8 = .ok (.getfield 15, 3) := by decide +kernel
theorem dX5_setSun_11 : decode cX5_setSun 11 = .ok (.iload_n 1, 1) := by decide +kernel
theorem dX5_setSun_12 : decode cX5_setSun 12 = .ok (.iload_n 3, 1) := by decide +kernel
theorem dX5_setSun_13 : decode cX5_setSun 13 = .ok (.iastore, 1) := by decide +kernel
theorem dX5_setSun_14 : decode cX5_setSun 14 = .ok (.return_, 1) := by decide +kernel
theorem dX5_stateAt_0 : decode cX5_stateAt 0 = .ok (.iconst 0, 1) := by decide +kernel
theorem dX5_stateAt_1 : decode cX5_stateAt 1 = .ok (.istore_n 3, 1) := by decide +kernel
theorem dX5_stateAt_2 : decode cX5_stateAt 2 = .ok (.iload_n 3, 1) := by decide +kernel
theorem dX5_stateAt_3 : decode cX5_stateAt 3 = .ok (.iconst 3, 1) := by decide +kernel
theorem dX5_stateAt_4 : decode cX5_stateAt 4 = .ok (.if_icmp .ge 25, 3) := by decide +kernel
theorem dX5_stateAt_7 : decode cX5_stateAt 7 = .ok (.aload_n 0, 1) := by decide +kernel
theorem dX5_stateAt_8 : decode cX5_stateAt 8 = .ok (.getfield 25, 3) := by decide +kernel
theorem dX5_stateAt_11 : decode cX5_stateAt 11 = .ok (.iload_n 1, 1) := by decide +kernel
theorem dX5_stateAt_12 : decode cX5_stateAt 12 = .ok (.iload_n 3, 1) := by decide +kernel
theorem dX5_stateAt_13 : decode cX5_stateAt 13 = .ok (.iload_n 2, 1) := by decide +kernel
theorem dX5_stateAt_14 : decode cX5_stateAt 14 = .ok (.invokevirtual 29, 3) := by decide +kernel
theorem dX5_stateAt_17 : decode cX5_stateAt 17 = .ok (.iconst (-1), 1) := by decide +kernel
theorem dX5_stateAt_18 : decode cX5_stateAt 18 = .ok (.if_icmp .ne 5, 3) := by decide +kernel
theorem dX5_stateAt_21 : decode cX5_stateAt 21 = .ok (.iconst 0, 1) := by decide +kernel
theorem dX5_stateAt_22 : decode cX5_stateAt 22 = .ok (.ireturn, 1) := by decide +kernel
theorem dX5_stateAt_23 : decode cX5_stateAt 23 = .ok (.iinc 3 1, 3) := by decide +kernel
theorem dX5_stateAt_26 : decode cX5_stateAt 26 = .ok (.goto (-24), 3) := by decide +kernel
theorem dX5_stateAt_29 : decode cX5_stateAt 29 = .ok (.aload_n 0, 1) := by decide +kernel
theorem dX5_stateAt_30 : decode cX5_stateAt 30 = .ok (.getfield 25, 3) := by decide +kernel
theorem dX5_stateAt_33 : decode cX5_stateAt 33 = .ok (.iload_n 1, 1) := by decide +kernel
theorem dX5_stateAt_34 : decode cX5_stateAt 34 = .ok (.iconst 0, 1) := by decide +kernel
theorem dX5_stateAt_35 : decode cX5_stateAt 35 = .ok (.iload_n 2, 1) := by decide +kernel
theorem dX5_stateAt_36 : decode cX5_stateAt 36 = .ok (.invokevirtual 29, 3) := by decide +kernel
theorem dX5_stateAt_39 : decode cX5_stateAt 39 = .ok (.aload_n 0, 1) := by decide +kernel
theorem dX5_stateAt_40 : decode cX5_stateAt 40 = .ok (.getfield 18, 3) := by decide +kernel
theorem dX5_stateAt_43 : decode cX5_stateAt 43 = .ok (.if_icmp .le 5, 3) := by decide +kernel
theorem dX5_stateAt_46 : decode cX5_stateAt 46 = .ok (.iconst 1, 1) := by decide +kernel
theorem dX5_stateAt_47 : decode cX5_stateAt 47 = .ok (.ireturn, 1) := by decide +kernel
theorem dX5_stateAt_48 : decode cX5_stateAt 48 = .ok (.aload_n 0, 1) := by decide +kernel
theorem dX5_stateAt_49 : decode cX5_stateAt 49 = .ok (.iload_n 1, 1) := by decide +kernel
theorem dX5_stateAt_50 : decode cX5_stateAt 50 = .ok (.iload_n 2, 1) := by decide +kernel
theorem dX5_stateAt_51 : decode cX5_stateAt 51 = .ok (.invokevirtual 35, 3) := by decide +kernel
theorem dX5_stateAt_54 : decode cX5_stateAt 54 = .ok (.ifCond .eq 7, 3) := by decide +kernel
theorem dX5_stateAt_57 : decode cX5_stateAt 57 = .ok (.iconst 2, 1) := by decide +kernel
theorem dX5_stateAt_58 : decode cX5_stateAt 58 = .ok (.goto 4, 3) := by decide +kernel
theorem dX5_stateAt_61 : decode cX5_stateAt 61 = .ok (.iconst 3, 1) := by decide +kernel
theorem dX5_stateAt_62 : decode cX5_stateAt 62 = .ok (.ireturn, 1) := by decide +kernel
theorem dX5_isShadowed_0 : decode cX5_isShadowed 0 = .ok (.aload_n 0, 1) := by decide +kernel
theorem dX5_isShadowed_1 : decode cX5_isShadowed 1 = .ok (.getfield 9, 3) := by decide +kernel
theorem dX5_isShadowed_4 : decode cX5_isShadowed 4 = .ok (.iload_n 1, 1) := by decide +kernel
theorem dX5_isShadowed_5 : decode cX5_isShadowed 5 = .ok (.iaload, 1) := by decide +kernel
theorem dX5_isShadowed_6 : decode cX5_isShadowed 6 = .ok (.ifCond .ne 14, 3) := by decide +kernel
theorem dX5_isShadowed_9 : decode cX5_isShadowed 9 = .ok (.aload_n 0, 1) := by decide +kernel
theorem dX5_isShadowed_10 : decode cX5_isShadowed 10 = .ok (.getfield 15, 3) := by decide +kernel
theorem dX5_isShadowed_13 : decode cX5_isShadowed 13 = .ok (.iload_n 1, 1) := by decide +kernel
theorem dX5_isShadowed_14 : decode cX5_isShadowed 14 = .ok (.iaload, 1) := by decide +kernel
theorem dX5_isShadowed_15 : decode cX5_isShadowed 15 = .ok (.ifCond .ne 5, 3) := by decide +kernel
theorem dX5_isShadowed_18 : decode cX5_isShadowed 18 = .ok (.iconst 0, 1) := by decide +kernel
theorem dX5_isShadowed_19 : decode cX5_isShadowed 19 = .ok (.ireturn, 1) := by decide +kernel
theorem dX5_isShadowed_20 : decode cX5_isShadowed 20 = .ok (.iload_n 2, 1) := by decide +kernel
theorem dX5_isShadowed_21 : decode cX5_isShadowed 21 = .ok (.bipush 8, 2) := by decide +kernel
theorem dX5_isShadowed_23 : decode cX5_isShadowed 23 = .ok (.irem, 1) := by decide +kernel
theorem dX5_isShadowed_24 : decode cX5_isShadowed 24 = .ok (.istore_n 3, 1) := by decide +kernel
theorem dX5_isShadowed_25 : decode cX5_isShadowed 25 = .ok (.iload_n 2, 1) := by decide +kernel
theorem dX5_isShadowed_26 : decode cX5_isShadowed 26 = .ok (.bipush 8, 2) := by decide +kernel
theorem dX5_isShadowed_28 : decode cX5_isShadowed 28 = .ok (.idiv, 1) := by decide +kernel
theorem dX5_isShadowed_29 : decode cX5_isShadowed 29 = .ok (.istore 4, 2) := by decide +kernel
theorem dX5_isShadowed_31 : decode cX5_isShadowed 31 = .ok (.iconst 0, 1) := by decide +kernel
theorem dX5_isShadowed_32 : decode cX5_isShadowed 32 = .ok (.istore 5, 2) := by decide +kernel
theorem dX5_isShadowed_34 : decode cX5_isShadowed 34 = .ok (.iload 5, 2) := by decide +kernel
theorem dX5_isShadowed_36 : decode cX5_isShadowed 36 = .ok (.aload_n 0, 1) := by decide +kernel
theorem dX5_isShadowed_37 : decode cX5_isShadowed 37 = .ok (.getfield 22, 3) := by decide +kernel
theorem dX5_isShadowed_40 : decode cX5_isShadowed 40 = .ok (.if_icmp .ge 77, 3) := by decide +kernel
theorem dX5_isShadowed_43 : decode cX5_isShadowed 43 = .ok (.iload_n 3, 1) := by decide +kernel
theorem dX5_isShadowed_44 : decode cX5_isShadowed 44 = .ok (.aload_n 0, 1) := by decide +kernel
theorem dX5_isShadowed_45 : decode cX5_isShadowed 45 = .ok (.getfield 9, 3) := by decide +kernel
theorem dX5_isShadowed_48 : decode cX5_isShadowed 48 = .ok (.iload_n 1, 1) := by decide +kernel
theorem dX5_isShadowed_49 : decode cX5_isShadowed 49 = .ok (.iaload, 1) := by decide +kernel
theorem dX5_isShadowed_50 : decode cX5_isShadowed 50 = .ok (.isub, 1) := by decide +kernel
theorem dX5_isShadowed_51 : decode cX5_isShadowed 51 = .ok (.istore_n 3, 1) := by decide +kernel
theorem dX5_isShadowed_52 : decode cX5_isShadowed 52 = .ok (.iload 4, 2) := by decide +kernel
theorem dX5_isShadowed_54 : decode cX5_isShadowed 54 = .ok (.aload_n 0, 1) := by decide +kernel
theorem dX5_isShadowed_55 : decode cX5_isShadowed 55 = .ok (.getfield 15, 3) := by decide +kernel
theorem dX5_isShadowed_58 : decode cX5_isShadowed 58 = .ok (.iload_n 1, 1) := by decide +kernel
theorem dX5_isShadowed_59 : decode cX5_isShadowed 59 = .ok (.iaload, 1) := by decide +kernel
theorem dX5_isShadowed_60 : decode cX5_isShadowed 60 = .ok (.isub, 1) := by decide +kernel
theorem dX5_isShadowed_61 : decode cX5_isShadowed 61 = .ok (.istore 4, 2) := by decide +kernel
theorem dX5_isShadowed_63 : decode cX5_isShadowed 63 = .ok (.iload_n 3, 1) := by decide +kernel
theorem dX5_isShadowed_64 : decode cX5_isShadowed 64 = .ok (.iconst 0, 1) := by decide +kernel
theorem dX5_isShadowed_65 : decode cX5_isShadowed 65 = .ok (.bipush 7, 2) := by decide +kernel
theorem dX5_isShadowed_67 : decode cX5_isShadowed 67 = .ok (.invokestatic 39, 3) := by decide +kernel
theorem dX5_isShadowed_70 : decode cX5_isShadowed 70 = .ok (.ifCond .eq 14, 3) := by decide +kernel
theorem dX5_isShadowed_73 : decode cX5_isShadowed 73 = .ok (.iload 4, 2) := by decide +kernel
theorem dX5_isShadowed_75 : decode cX5_isShadowed 75 = .ok (.iconst 0, 1) := by decide +kernel
theorem dX5_isShadowed_76 : decode cX5_isShadowed 76 = .ok (.bipush 7, 2) := by decide +kernel
theorem dX5_isShadowed_78 : decode cX5_isShadowed 78 = .ok (.invokestatic 39, 3) := by decide +kernel
theorem dX5_isShadowed_81 : decode cX5_isShadowed 81 = .ok (.ifCond .ne 5, 3) := by decide +kernel
theorem dX5_isShadowed_84 : decode cX5_isShadowed 84 = .ok (.iconst 0, 1) := by decide +kernel
theorem dX5_isShadowed_85 : decode cX5_isShadowed 85 = .ok (.ireturn, 1) := by decide +kernel
theorem dX5_isShadowed_86 : decode cX5_isShadowed 86 = .ok (.aload_n 0, 1) := by decide +kernel
theorem dX5_isShadowed_87 : decode cX5_isShadowed 87 = .ok (.getfield 25, 3) := by decide +kernel
theorem dX5_isShadowed_90 : decode cX5_isShadowed 90 = .ok (.iload_n 1, 1) := by decide +kernel
theorem dX5_isShadowed_91 : decode cX5_isShadowed 91 = .ok (.iconst 0, 1) := by decide +kernel
theorem dX5_isShadowed_92 : decode cX5_isShadowed 92 = .ok (.bipush 8, 2) := by decide +kernel
theorem dX5_isShadowed_94 : decode cX5_isShadowed 94 = .ok (.iload 4, 2) := by decide +kernel
theorem dX5_isShadowed_96 : decode cX5_isShadowed 96 = .ok (.imul, 1) := by decide +kernel
theorem dX5_isShadowed_97 : decode cX5_isShadowed 97 = .ok (.iload_n 3, 1) := by decide +kernel
theorem dX5_isShadowed_98 : decode cX5_isShadowed 98 = .ok (.iadd, 1) := by decide +kernel
theorem dX5_isShadowed_99 : decode cX5_isShadowed 99 = .ok (.invokevirtual 29, 3) := by decide +kernel
theorem dX5_isShadowed_102 : decode cX5_isShadowed 102 = .ok (.aload_n 0, 1) := by decide +kernel
theorem dX5_isShadowed_103 : decode cX5_isShadowed 103 = .ok (.getfield 18, 3) := by decide +kernel
theorem dX5_isShadowed_106 : decode cX5_isShadowed 106 = .ok (.if_icmp .le 5, 3) := by decide +kernel
theorem dX5_isShadowed_109 : decode cX5_isShadowed 109 = .ok (.iconst 1, 1) := by decide +kernel
theorem dX5_isShadowed_110 : decode cX5_isShadowed 110 = .ok (.ireturn, 1) := by decide +kernel
theorem dX5_isShadowed_111 : decode cX5_isShadowed 111 = .ok (.iinc 5 1, 3) := by decide +kernel
theorem dX5_isShadowed_114 : decode cX5_isShadowed 114 = .ok (.goto (-80), 3) := by decide +kernel
theorem dX5_isShadowed_117 : decode cX5_isShadowed 117 = .ok (.iconst 0, 1) := by decide +kernel
theorem dX5_isShadowed_118 : decode cX5_isShadowed 118 = .ok (.ireturn, 1) := by decide +kernel
theorem dX5_featureAt_0 : decode cX5_featureAt 0 = .ok (.iload_n 3, 1) := by decide +kernel
theorem dX5_featureAt_1 : decode cX5_featureAt 1 = .ok (.iconst 3, 1) := by decide +kernel
theorem dX5_featureAt_2 : decode cX5_featureAt 2 = .ok (.if_icmp .ge 14, 3) := by decide +kernel
theorem dX5_featureAt_5 : decode cX5_featureAt 5 = .ok (.aload_n 0, 1) := by decide +kernel
theorem dX5_featureAt_6 : decode cX5_featureAt 6 = .ok (.getfield 25, 3) := by decide +kernel
theorem dX5_featureAt_9 : decode cX5_featureAt 9 = .ok (.iload_n 1, 1) := by decide +kernel
theorem dX5_featureAt_10 : decode cX5_featureAt 10 = .ok (.iload_n 3, 1) := by decide +kernel
theorem dX5_featureAt_11 : decode cX5_featureAt 11 = .ok (.iload_n 2, 1) := by decide +kernel
theorem dX5_featureAt_12 : decode cX5_featureAt 12 = .ok (.invokevirtual 29, 3) := by decide +kernel
theorem dX5_featureAt_15 : decode cX5_featureAt 15 = .ok (.ireturn, 1) := by decide +kernel
theorem dX5_featureAt_16 : decode cX5_featureAt 16 = .ok (.aload_n 0, 1) := by decide +kernel
theorem dX5_featureAt_17 : decode cX5_featureAt 17 = .ok (.getfield 25, 3) := by decide +kernel
theorem dX5_featureAt_20 : decode cX5_featureAt 20 = .ok (.iload_n 1, 1) := by decide +kernel
theorem dX5_featureAt_21 : decode cX5_featureAt 21 = .ok (.iconst 1, 1) := by decide +kernel
theorem dX5_featureAt_22 : decode cX5_featureAt 22 = .ok (.iload_n 2, 1) := by decide +kernel
theorem dX5_featureAt_23 : decode cX5_featureAt 23 = .ok (.invokevirtual 29, 3) := by decide +kernel
theorem dX5_featureAt_26 : decode cX5_featureAt 26 = .ok (.istore 4, 2) := by decide +kernel
theorem dX5_featureAt_28 : decode cX5_featureAt 28 = .ok (.aload_n 0, 1) := by decide +kernel
theorem dX5_featureAt_29 : decode cX5_featureAt 29 = .ok (.getfield 25, 3) := by decide +kernel
theorem dX5_featureAt_32 : decode cX5_featureAt 32 = .ok (.iload_n 1, 1) := by decide +kernel
theorem dX5_featureAt_33 : decode cX5_featureAt 33 = .ok (.iconst 2, 1) := by decide +kernel
theorem dX5_featureAt_34 : decode cX5_featureAt 34 = .ok (.iload_n 2, 1) := by decide +kernel
theorem dX5_featureAt_35 : decode cX5_featureAt 35 = .ok (.invokevirtual 29, 3) := by decide +kernel
theorem dX5_featureAt_38 : decode cX5_featureAt 38 = .ok (.istore 5, 2) := by decide +kernel
theorem dX5_featureAt_40 : decode cX5_featureAt 40 = .ok (.iload 5, 2) := by decide +kernel
theorem dX5_featureAt_42 : decode cX5_featureAt 42 = .ok (.iload 4, 2) := by decide +kernel
theorem dX5_featureAt_44 : decode cX5_featureAt 44 = .ok (.iadd, 1) := by decide +kernel
theorem dX5_featureAt_45 : decode cX5_featureAt 45 = .ok (.ifCond .gt 7, 3) := by decide +kernel
theorem dX5_featureAt_48 : decode cX5_featureAt 48 = .ok (.iconst 0, 1) := by decide +kernel
theorem dX5_featureAt_49 : decode cX5_featureAt 49 = .ok (.goto 20, 3) := by decide +kernel
theorem dX5_featureAt_52 : decode cX5_featureAt 52 = .ok (.sipush 1000, 3) := by decide +kernel
theorem dX5_featureAt_55 : decode cX5_featureAt 55 = .ok (.iload 5, 2) := by decide +kernel
theorem dX5_featureAt_57 : decode cX5_featureAt 57 = .ok (.iload 4, 2) := by decide +kernel
theorem dX5_featureAt_59 : decode cX5_featureAt 59 = .ok (.isub, 1) := by decide +kernel
theorem dX5_featureAt_60 : decode cX5_featureAt 60 = .ok (.imul, 1) := by decide +kernel
theorem dX5_featureAt_61 : decode cX5_featureAt 61 = .ok (.iload 5, 2) := by decide +kernel
theorem dX5_featureAt_63 : decode cX5_featureAt 63 = .ok (.iload 4, 2) := by decide +kernel
theorem dX5_featureAt_65 : decode cX5_featureAt 65 = .ok (.iadd, 1) := by decide +kernel
theorem dX5_featureAt_66 : decode cX5_featureAt 66 = .ok (.invokestatic 43, 3) := by decide +kernel
theorem dX5_featureAt_69 : decode cX5_featureAt 69 = .ok (.ireturn, 1) := by decide +kernel
theorem dX6_init_0 : decode cX6_init 0 = .ok (.aload_n 0, 1) := by decide +kernel
theorem dX6_init_1 : decode cX6_init 1 = .ok (.invokespecial 3, 3) := by decide +kernel
theorem dX6_init_4 : decode cX6_init 4 = .ok (.aload_n 0, 1) := by decide +kernel
theorem dX6_init_5 : decode cX6_init 5 = .ok (.sipush 256, 3) := by decide +kernel
theorem dX6_init_8 : decode cX6_init 8 = .ok (.newarray .int, 2) := by decide +kernel
theorem dX6_init_10 : decode cX6_init 10 = .ok (.putfield 11, 3) := by decide +kernel
theorem dX6_init_13 : decode cX6_init 13 = .ok (.aload_n 0, 1) := by decide +kernel
theorem dX6_init_14 : decode cX6_init 14 = .ok (.sipush 256, 3) := by decide +kernel
theorem dX6_init_17 : decode cX6_init 17 = .ok (.newarray .long, 2) := by decide +kernel
theorem dX6_init_19 : decode cX6_init 19 = .ok (.putfield 15, 3) := by decide +kernel
theorem dX6_init_22 : decode cX6_init 22 = .ok (.aload_n 0, 1) := by decide +kernel
theorem dX6_init_23 : decode cX6_init 23 = .ok (.iconst 3, 1) := by decide +kernel
theorem dX6_init_24 : decode cX6_init 24 = .ok (.putfield 19, 3) := by decide +kernel
theorem dX6_init_27 : decode cX6_init 27 = .ok (.aload_n 0, 1) := by decide +kernel
theorem dX6_init_28 : decode cX6_init 28 = .ok (.iconst 2, 1) := by decide +kernel
theorem dX6_init_29 : decode cX6_init 29 = .ok (.putfield 23, 3) := by decide +kernel
theorem dX6_init_32 : decode cX6_init 32 = .ok (.aload_n 0, 1) := by decide +kernel
theorem dX6_init_33 : decode cX6_init 33 = .ok (.lconst 0, 1) := by decide +kernel
theorem dX6_init_34 : decode cX6_init 34 = .ok (.putfield 26, 3) := by decide +kernel
theorem dX6_init_37 : decode cX6_init 37 = .ok (.return_, 1) := by decide +kernel
theorem dX6_own_0 : decode cX6_own 0 = .ok (.aload_n 0, 1) := by decide +kernel
theorem dX6_own_1 : decode cX6_own 1 = .ok (.getfield 19, 3) := by decide +kernel
theorem dX6_own_4 : decode cX6_own 4 = .ok (.ireturn, 1) := by decide +kernel
theorem dX6_edge_0 : decode cX6_edge 0 = .ok (.aload_n 0, 1) := by decide +kernel
theorem dX6_edge_1 : decode cX6_edge 1 = .ok (.getfield 23, 3) := by decide +kernel
theorem dX6_edge_4 : decode cX6_edge 4 = .ok (.ireturn, 1) := by decide +kernel
theorem dX6_setWeights_0 : decode cX6_setWeights 0 = .ok (.aload_n 0, 1) := by decide +kernel
theorem dX6_setWeights_1 : decode cX6_setWeights 1 = .ok (.iload_n 1, 1) := by decide +kernel
theorem dX6_setWeights_2 : decode cX6_setWeights 2 = .ok (.putfield 19, 3) := by decide +kernel
theorem dX6_setWeights_5 : decode cX6_setWeights 5 = .ok (.aload_n 0, 1) := by decide +kernel
theorem dX6_setWeights_6 : decode cX6_setWeights 6 = .ok (.iload_n 2, 1) := by decide +kernel
theorem dX6_setWeights_7 : decode cX6_setWeights 7 = .ok (.putfield 23, 3) := by decide +kernel
theorem dX6_setWeights_10 : decode cX6_setWeights 10 = .ok (.return_, 1) := by decide +kernel
theorem dX6_markOf_0 : decode cX6_markOf 0 = .ok (.aload_n 0, 1) := by decide +kernel
theorem dX6_markOf_1 : decode cX6_markOf 1 = .ok (.getfield 26, 3) := by decide +kernel
theorem dX6_markOf_4 : decode cX6_markOf 4 = .ok (.iload_n 1, 1) := by decide +kernel
theorem dX6_markOf_5 : decode cX6_markOf 5 = .ok (.lushr, 1) := by decide +kernel
theorem dX6_markOf_6 : decode cX6_markOf 6 = .ok (.lconst 1, 1) := by decide +kernel
theorem dX6_markOf_7 : decode cX6_markOf 7 = .ok (.land, 1) := by decide +kernel
theorem dX6_markOf_8 : decode cX6_markOf 8 = .ok (.l2i, 1) := by decide +kernel
theorem dX6_markOf_9 : decode cX6_markOf 9 = .ok (.ireturn, 1) := by decide +kernel
theorem dX6_settle_0 : decode cX6_settle 0 = .ok (.aload_n 0, 1) := by decide +kernel
theorem dX6_settle_1 : decode cX6_settle 1 = .ok (.getfield 19, 3) := by decide +kernel
theorem dX6_settle_4 : decode cX6_settle 4 = .ok (.aload_n 1, 1) := by decide +kernel
theorem dX6_settle_5 : decode cX6_settle 5 = .ok (.iload_n 2, 1) := by decide +kernel
theorem dX6_settle_6 : decode cX6_settle 6 = .ok (.iload_n 3, 1) := by decide +kernel
theorem dX6_settle_7 : decode cX6_settle 7 = .ok (.invokevirtual 30, 3) := by decide +kernel
theorem dX6_settle_10 : decode cX6_settle 10 = .ok (.imul, 1) := by decide +kernel
theorem dX6_settle_11 : decode cX6_settle 11 = .ok (.ifCond .ne 10, 3) := by decide +kernel
theorem dX6_settle_14 : decode cX6_settle 14 = .ok (.aload_n 0, 1) := by decide +kernel
theorem dX6_settle_15 : decode cX6_settle 15 = .ok (.lconst 0, 1) := by decide +kernel
theorem dX6_settle_16 : decode cX6_settle 16 = .ok (.putfield 26, 3) := by decide +kernel
theorem dX6_settle_19 : decode cX6_settle 19 = .ok (.iconst 0, 1) := by decide +kernel
theorem dX6_settle_20 : decode cX6_settle 20 = .ok (.ireturn, 1) := by decide +kernel
theorem dX6_settle_21 : decode cX6_settle 21 = .ok (.aload_n 0, 1) := by decide +kernel
theorem dX6_settle_22 : decode cX6_settle 22 = .ok (.getfield 11, 3) := by decide +kernel
theorem dX6_settle_25 : decode cX6_settle 25 = .ok (.ldc 36, 2) := by decide +kernel
theorem dX6_settle_27 : decode cX6_settle 27 = .ok (.invokestatic 37, 3) := by decide +kernel
theorem dX6_settle_30 : decode cX6_settle 30 = .ok (.aload_n 0, 1) := by decide +kernel
theorem dX6_settle_31 : decode cX6_settle 31 = .ok (.getfield 11, 3) := by decide +kernel
theorem dX6_settle_34 : decode cX6_settle 34 = .ok (.iconst 0, 1) := by decide +kernel
theorem dX6_settle_35 : decode cX6_settle 35 = .ok (.iconst 0, 1) := by decide +kernel
theorem dX6_settle_36 : decode cX6_settle 36 = .ok (.iastore, 1) := by decide +kernel
theorem dX6_settle_37 : decode cX6_settle 37 = .ok (.aload_n 0, 1) := by decide +kernel
theorem dX6_settle_38 : decode cX6_settle 38 = .ok (.getfield 15, 3) := by decide +kernel
theorem dX6_settle_41 : decode cX6_settle 41 = .ok (.iconst 0, 1) := by decide +kernel
theorem dX6_settle_42 : decode cX6_settle 42 = .ok (.lconst 0, 1) := by decide +kernel
theorem dX6_settle_43 : decode cX6_settle 43 = .ok (.lastore, 1) := by decide +kernel
theorem dX6_settle_44 : decode cX6_settle 44 = .ok (.iconst 0, 1) := by decide +kernel
theorem dX6_settle_45 : decode cX6_settle 45 = .ok (.istore 4, 2) := by decide +kernel
theorem dX6_settle_47 : decode cX6_settle 47 = .ok (.iload 4, 2) := by decide +kernel
theorem dX6_settle_49 : decode cX6_settle 49 = .ok (.bipush 64, 2) := by decide +kernel
theorem dX6_settle_51 : decode cX6_settle 51 = .ok (.if_icmp .ge 76, 3) := by decide +kernel
theorem dX6_settle_54 : decode cX6_settle 54 = .ok (.aload_n 1, 1) := by decide +kernel
theorem dX6_settle_55 : decode cX6_settle 55 = .ok (.iload_n 2, 1) := by decide +kernel
theorem dX6_settle_56 : decode cX6_settle 56 = .ok (.iload 4, 2) := by decide +kernel
theorem dX6_settle_58 : decode cX6_settle 58 = .ok (.invokevirtual 43, 3) := by decide +kernel
theorem dX6_settle_61 : decode cX6_settle 61 = .ok (.istore 5, 2) := by decide +kernel
theorem dX6_settle_63 : decode cX6_settle 63 = .ok (.iload 5, 2) := by decide +kernel
theorem dX6_settle_65 : decode cX6_settle 65 = .ok (.iload_n 3, 1) := by decide +kernel
theorem dX6_settle_66 : decode cX6_settle 66 = .ok (.if_icmp .ne 10, 3) := by decide +kernel
theorem dX6_settle_69 : decode cX6_settle 69 = .ok (.aload_n 0, 1) := by decide +kernel
theorem dX6_settle_70 : decode cX6_settle 70 = .ok (.getfield 19, 3) := by decide +kernel
theorem dX6_settle_73 : decode cX6_settle 73 = .ok (.goto 4, 3) := by decide +kernel
theorem dX6_settle_76 : decode cX6_settle 76 = .ok (.iconst 0, 1) := by decide +kernel
theorem dX6_settle_77 : decode cX6_settle 77 = .ok (.istore 6, 2) := by decide +kernel
theorem dX6_settle_79 : decode cX6_settle 79 = .ok (.iload 5, 2) := by decide +kernel
theorem dX6_settle_81 : decode cX6_settle 81 = .ok (.iload_n 3, 1) := by decide +kernel
theorem dX6_settle_82 : decode cX6_settle 82 = .ok (.if_icmp .eq 9, 3) := by decide +kernel
theorem dX6_settle_85 : decode cX6_settle 85 = .ok (.iload 5, 2) := by decide +kernel
theorem dX6_settle_87 : decode cX6_settle 87 = .ok (.iconst (-1), 1) := by decide +kernel
theorem dX6_settle_88 : decode cX6_settle 88 = .ok (.if_icmp .ne 7, 3) := by decide +kernel
theorem dX6_settle_91 : decode cX6_settle 91 = .ok (.iconst 0, 1) := by decide +kernel
theorem dX6_settle_92 : decode cX6_settle 92 = .ok (.goto 7, 3) := by decide +kernel
theorem dX6_settle_95 : decode cX6_settle 95 = .ok (.aload_n 0, 1) := by decide +kernel
theorem dX6_settle_96 : decode cX6_settle 96 = .ok (.getfield 19, 3) := by decide +kernel
theorem dX6_settle_99 : decode cX6_settle 99 = .ok (.istore 7, 2) := by decide +kernel
theorem dX6_settle_101 : decode cX6_settle 101 = .ok (.aload_n 0, 1) := by decide +kernel
theorem dX6_settle_102 : decode cX6_settle 102 = .ok (.iload 4, 2) := by decide +kernel
theorem dX6_settle_104 : decode cX6_settle 104 = .ok (.sipush 128, 3) := by decide +kernel
theorem dX6_settle_107 : decode cX6_settle 107 = .ok (.iload 6, 2) := by decide +kernel
theorem dX6_settle_109 : decode cX6_settle 109 = .ok (.imul, 1) := by decide +kernel
theorem dX6_settle_110 : decode cX6_settle 110 = .ok (.sipush 128, 3) := by decide +kernel
theorem dX6_settle_113 : decode cX6_settle 113 = .ok (.iload 7, 2) := by decide +kernel
theorem dX6_settle_115 : decode cX6_settle 115 = .ok (.imul, 1) := by decide +kernel
theorem dX6_settle_116 : decode cX6_settle 116 = .ok (.iconst 1, 1) := by decide +kernel
theorem dX6_settle_117 : decode cX6_settle 117 = .ok (.iadd, 1) := by decide +kernel
theorem dX6_settle_118 : decode cX6_settle 118 = .ok (.invokevirtual 46, 3) := by decide +kernel
theorem dX6_settle_121 : decode cX6_settle 121 = .ok (.iinc 4 1, 3) := by decide +kernel
theorem dX6_settle_124 : decode cX6_settle 124 = .ok (.goto (-77), 3) := by decide +kernel
theorem dX6_settle_127 : decode cX6_settle 127 = .ok (.aload_n 0, 1) := by decide +kernel
theorem dX6_settle_128 : decode cX6_settle 128 = .ok (.invokevirtual 50, 3) := by decide +kernel
theorem dX6_settle_131 : decode cX6_settle 131 = .ok (.ireturn, 1) := by decide +kernel
theorem dX6_addCell_0 : decode cX6_addCell 0 = .ok (.iconst 1, 1) := by decide +kernel
theorem dX6_addCell_1 : decode cX6_addCell 1 = .ok (.iload_n 1, 1) := by decide +kernel
theorem dX6_addCell_2 : decode cX6_addCell 2 = .ok (.bipush 8, 2) := by decide +kernel
theorem dX6_addCell_4 : decode cX6_addCell 4 = .ok (.irem, 1) := by decide +kernel
theorem dX6_addCell_5 : decode cX6_addCell 5 = .ok (.ishl, 1) := by decide +kernel
theorem dX6_addCell_6 : decode cX6_addCell 6 = .ok (.istore 4, 2) := by decide +kernel
theorem dX6_addCell_8 : decode cX6_addCell 8 = .ok (.iload 4, 2) := by decide +kernel
theorem dX6_addCell_10 : decode cX6_addCell 10 = .ok (.iconst 1, 1) := by decide +kernel
theorem dX6_addCell_11 : decode cX6_addCell 11 = .ok (.ishr, 1) := by decide +kernel
theorem dX6_addCell_12 : decode cX6_addCell 12 = .ok (.istore 5, 2) := by decide +kernel
theorem dX6_addCell_14 : decode cX6_addCell 14 = .ok (.iload 5, 2) := by decide +kernel
theorem dX6_addCell_16 : decode cX6_addCell 16 = .ok (.ifCond .ne 7, 3) := by decide +kernel
theorem dX6_addCell_19 : decode cX6_addCell 19 = .ok (.iconst 0, 1) := by decide +kernel
theorem dX6_addCell_20 : decode cX6_addCell 20 = .ok (.goto 11, 3) := by decide +kernel
theorem dX6_addCell_23 : decode cX6_addCell 23 = .ok (.sipush 128, 3) := by decide +kernel
theorem dX6_addCell_26 : decode cX6_addCell 26 = .ok (.aload_n 0, 1) := by decide +kernel
theorem dX6_addCell_27 : decode cX6_addCell 27 = .ok (.getfield 23, 3) := by decide +kernel
theorem dX6_addCell_30 : decode cX6_addCell 30 = .ok (.imul, 1) := by decide +kernel
theorem dX6_addCell_31 : decode cX6_addCell 31 = .ok (.istore 6, 2) := by decide +kernel
theorem dX6_addCell_33 : decode cX6_addCell 33 = .ok (.iload_n 1, 1) := by decide +kernel
theorem dX6_addCell_34 : decode cX6_addCell 34 = .ok (.bipush 8, 2) := by decide +kernel
theorem dX6_addCell_36 : decode cX6_addCell 36 = .ok (.if_icmp .ge 7, 3) := by decide +kernel
theorem dX6_addCell_39 : decode cX6_addCell 39 = .ok (.iconst 0, 1) := by decide +kernel
theorem dX6_addCell_40 : decode cX6_addCell 40 = .ok (.goto 11, 3) := by decide +kernel
theorem dX6_addCell_43 : decode cX6_addCell 43 = .ok (.sipush 128, 3) := by decide +kernel
theorem dX6_addCell_46 : decode cX6_addCell 46 = .ok (.aload_n 0, 1) := by decide +kernel
theorem dX6_addCell_47 : decode cX6_addCell 47 = .ok (.getfield 23, 3) := by decide +kernel
theorem dX6_addCell_50 : decode cX6_addCell 50 = .ok (.imul, 1) := by decide +kernel
theorem dX6_addCell_51 : decode cX6_addCell 51 = .ok (.istore 7, 2) := by decide +kernel
theorem dX6_addCell_53 : decode cX6_addCell 53 = .ok (.iconst 0, 1) := by decide +kernel
theorem dX6_addCell_54 : decode cX6_addCell 54 = .ok (.istore 8, 2) := by decide +kernel
theorem dX6_addCell_56 : decode cX6_addCell 56 = .ok (.iload 8, 2) := by decide +kernel
theorem dX6_addCell_58 : decode cX6_addCell 58 = .ok (.sipush 256, 3) := by decide +kernel
theorem dX6_addCell_61 : decode cX6_addCell 61 = .ok (.if_icmp .ge 72, 3) := by decide +kernel
theorem dX6_addCell_64 : decode cX6_addCell 64 = .ok (.iload 8, 2) := by decide +kernel
theorem dX6_addCell_66 : decode cX6_addCell 66 = .ok (.iload 4, 2) := by decide +kernel
theorem dX6_addCell_68 : decode cX6_addCell 68 = .ok (.iand, 1) := by decide +kernel
theorem dX6_addCell_69 : decode cX6_addCell 69 = .ok (.ifCond .ne 58, 3) := by decide +kernel
theorem dX6_addCell_72 : decode cX6_addCell 72 = .ok (.iload 8, 2) := by decide +kernel
theorem dX6_addCell_74 : decode cX6_addCell 74 = .ok (.iload 5, 2) := by decide +kernel
theorem dX6_addCell_76 : decode cX6_addCell 76 = .ok (.iand, 1) := by decide +kernel
theorem dX6_addCell_77 : decode cX6_addCell 77 = .ok (.ifCond .eq 7, 3) := by decide +kernel
theorem dX6_addCell_80 : decode cX6_addCell 80 = .ok (.iconst 1, 1) := by decide +kernel
theorem dX6_addCell_81 : decode cX6_addCell 81 = .ok (.goto 4, 3) := by decide +kernel
theorem dX6_addCell_84 : decode cX6_addCell 84 = .ok (.iconst 0, 1) := by decide +kernel
theorem dX6_addCell_85 : decode cX6_addCell 85 = .ok (.istore 9, 2) := by decide +kernel
theorem dX6_addCell_87 : decode cX6_addCell 87 = .ok (.aload_n 0, 1) := by decide +kernel
theorem dX6_addCell_88 : decode cX6_addCell 88 = .ok (.iload 8, 2) := by decide +kernel
theorem dX6_addCell_90 : decode cX6_addCell 90 = .ok (.iload 8, 2) := by decide +kernel
theorem dX6_addCell_92 : decode cX6_addCell 92 = .ok (.iload 4, 2) := by decide +kernel
theorem dX6_addCell_94 : decode cX6_addCell 94 = .ok (.ior, 1) := by decide +kernel
theorem dX6_addCell_95 : decode cX6_addCell 95 = .ok (.iload_n 1, 1) := by decide +kernel
theorem dX6_addCell_96 : decode cX6_addCell 96 = .ok (.iload 7, 2) := by decide +kernel
theorem dX6_addCell_98 : decode cX6_addCell 98 = .ok (.iload 9, 2) := by decide +kernel
theorem dX6_addCell_100 : decode cX6_addCell 100 = .ok (.ifCond .eq 10, 3) := by decide +kernel
theorem dX6_addCell_103 : decode cX6_addCell 103 = .ok (.iload_n 2, 1) := by decide +kernel
theorem dX6_addCell_104 : decode cX6_addCell 104 = .ok (.iload 6, 2) := by decide +kernel
theorem dX6_addCell_106 : decode cX6_addCell 106 = .ok (.iadd, 1) := by decide +kernel
theorem dX6_addCell_107 : decode cX6_addCell 107 = .ok (.goto 4, 3) := by decide +kernel
theorem dX6_addCell_110 : decode cX6_addCell 110 = .ok (.iload_n 2, 1) := by decide +kernel
theorem dX6_addCell_111 : decode cX6_addCell 111 = .ok (.iload 9, 2) := by decide +kernel
theorem dX6_addCell_113 : decode cX6_addCell 113 = .ok (.ifCond .eq 7, 3) := by decide +kernel
theorem dX6_addCell_116 : decode cX6_addCell 116 = .ok (.iload_n 3, 1) := by decide +kernel
theorem dX6_addCell_117 : decode cX6_addCell 117 = .ok (.goto 7, 3) := by decide +kernel
theorem dX6_addCell_120 : decode cX6_addCell 120 = .ok (.iload_n 3, 1) := by decide +kernel
theorem dX6_addCell_121 : decode cX6_addCell 121 = .ok (.iload 6, 2) := by decide +kernel
theorem dX6_addCell_123 : decode cX6_addCell 123 = .ok (.iadd, 1) := by decide +kernel
theorem dX6_addCell_124 : decode cX6_addCell 124 = .ok (.invokevirtual 54, 3) := by decide +kernel
theorem dX6_addCell_127 : decode cX6_addCell 127 = .ok (.iinc 8 1, 3) := by decide +kernel
theorem dX6_addCell_130 : decode cX6_addCell 130 = .ok (.goto (-74), 3) := by decide +kernel
theorem dX6_addCell_133 : decode cX6_addCell 133 = .ok (.return_, 1) := by decide +kernel
theorem dX6_addMarks_0 : decode cX6_addMarks 0 = .ok (.aload_n 0, 1) := by decide +kernel
theorem dX6_addMarks_1 : decode cX6_addMarks 1 = .ok (.getfield 11, 3) := by decide +kernel
theorem dX6_addMarks_4 : decode cX6_addMarks 4 = .ok (.iload_n 1, 1) := by decide +kernel
theorem dX6_addMarks_5 : decode cX6_addMarks 5 = .ok (.iaload, 1) := by decide +kernel
theorem dX6_addMarks_6 : decode cX6_addMarks 6 = .ok (.istore 7, 2) := by decide +kernel
theorem dX6_addMarks_8 : decode cX6_addMarks 8 = .ok (.aload_n 0, 1) := by decide +kernel
theorem dX6_addMarks_9 : decode cX6_addMarks 9 = .ok (.getfield 11, 3) := by decide +kernel
theorem dX6_addMarks_12 : decode cX6_addMarks 12 = .ok (.iload_n 2, 1) := by decide +kernel
theorem dX6_addMarks_13 : decode cX6_addMarks 13 = .ok (.iaload, 1) := by decide +kernel
theorem dX6_addMarks_14 : decode cX6_addMarks 14 = .ok (.istore 8, 2) := by decide +kernel
theorem dX6_addMarks_16 : decode cX6_addMarks 16 = .ok (.aload_n 0, 1) := by decide +kernel
theorem dX6_addMarks_17 : decode cX6_addMarks 17 = .ok (.getfield 15, 3) := by decide +kernel
theorem dX6_addMarks_20 : decode cX6_addMarks 20 = .ok (.iload_n 1, 1) := by decide +kernel
theorem dX6_addMarks_21 : decode cX6_addMarks 21 = .ok (.laload, 1) := by decide +kernel
theorem dX6_addMarks_22 : decode cX6_addMarks 22 = .ok (.lstore 9, 2) := by decide +kernel
theorem dX6_addMarks_24 : decode cX6_addMarks 24 = .ok (.aload_n 0, 1) := by decide +kernel
theorem dX6_addMarks_25 : decode cX6_addMarks 25 = .ok (.getfield 15, 3) := by decide +kernel
theorem dX6_addMarks_28 : decode cX6_addMarks 28 = .ok (.iload_n 2, 1) := by decide +kernel
theorem dX6_addMarks_29 : decode cX6_addMarks 29 = .ok (.laload, 1) := by decide +kernel
theorem dX6_addMarks_30 : decode cX6_addMarks 30 = .ok (.lstore 11, 2) := by decide +kernel
theorem dX6_addMarks_32 : decode cX6_addMarks 32 = .ok (.iload 7, 2) := by decide +kernel
theorem dX6_addMarks_34 : decode cX6_addMarks 34 = .ok (.iload 8, 2) := by decide +kernel
theorem dX6_addMarks_36 : decode cX6_addMarks 36 = .ok (.iload 4, 2) := by decide +kernel
theorem dX6_addMarks_38 : decode cX6_addMarks 38 = .ok (.iadd, 1) := by decide +kernel
theorem dX6_addMarks_39 : decode cX6_addMarks 39 = .ok (.if_icmp .gt 7, 3) := by decide +kernel
theorem dX6_addMarks_42 : decode cX6_addMarks 42 = .ok (.iconst 1, 1) := by decide +kernel
theorem dX6_addMarks_43 : decode cX6_addMarks 43 = .ok (.goto 4, 3) := by decide +kernel
theorem dX6_addMarks_46 : decode cX6_addMarks 46 = .ok (.iconst 0, 1) := by decide +kernel
theorem dX6_addMarks_47 : decode cX6_addMarks 47 = .ok (.istore 13, 2) := by decide +kernel
theorem dX6_addMarks_49 : decode cX6_addMarks 49 = .ok (.aload_n 0, 1) := by decide +kernel
theorem dX6_addMarks_50 : decode cX6_addMarks 50 = .ok (.getfield 11, 3) := by decide +kernel
theorem dX6_addMarks_53 : decode cX6_addMarks 53 = .ok (.iload_n 1, 1) := by decide +kernel
theorem dX6_addMarks_54 : decode cX6_addMarks 54 = .ok (.iload 5, 2) := by decide +kernel
theorem dX6_addMarks_56 : decode cX6_addMarks 56 = .ok (.iload 13, 2) := by decide +kernel
theorem dX6_addMarks_58 : decode cX6_addMarks 58 = .ok (.ifCond .eq 8, 3) := by decide +kernel
theorem dX6_addMarks_61 : decode cX6_addMarks 61 = .ok (.iload 7, 2) := by decide +kernel
theorem dX6_addMarks_63 : decode cX6_addMarks 63 = .ok (.goto 8, 3) := by decide +kernel
theorem dX6_addMarks_66 : decode cX6_addMarks 66 = .ok (.iload 8, 2) := by decide +kernel
theorem dX6_addMarks_68 : decode cX6_addMarks 68 = .ok (.iload 4, 2) := by decide +kernel
theorem dX6_addMarks_70 : decode cX6_addMarks 70 = .ok (.iadd, 1) := by decide +kernel
theorem dX6_addMarks_71 : decode cX6_addMarks 71 = .ok (.iadd, 1) := by decide +kernel
theorem dX6_addMarks_72 : decode cX6_addMarks 72 = .ok (.iastore, 1) := by decide +kernel
theorem dX6_addMarks_73 : decode cX6_addMarks 73 = .ok (.aload_n 0, 1) := by decide +kernel
theorem dX6_addMarks_74 : decode cX6_addMarks 74 = .ok (.getfield 15, 3) := by decide +kernel
theorem dX6_addMarks_77 : decode cX6_addMarks 77 = .ok (.iload_n 1, 1) := by decide +kernel
theorem dX6_addMarks_78 : decode cX6_addMarks 78 = .ok (.iload 13, 2) := by decide +kernel
theorem dX6_addMarks_80 : decode cX6_addMarks 80 = .ok (.ifCond .eq 8, 3) := by decide +kernel
theorem dX6_addMarks_83 : decode cX6_addMarks 83 = .ok (.lload 9, 2) := by decide +kernel
theorem dX6_addMarks_85 : decode cX6_addMarks 85 = .ok (.goto 5, 3) := by decide +kernel
theorem dX6_addMarks_88 : decode cX6_addMarks 88 = .ok (.lload 11, 2) := by decide +kernel
theorem dX6_addMarks_90 : decode cX6_addMarks 90 = .ok (.lastore, 1) := by decide +kernel
theorem dX6_addMarks_91 : decode cX6_addMarks 91 = .ok (.iload 7, 2) := by decide +kernel
theorem dX6_addMarks_93 : decode cX6_addMarks 93 = .ok (.iload 4, 2) := by decide +kernel
theorem dX6_addMarks_95 : decode cX6_addMarks 95 = .ok (.iadd, 1) := by decide +kernel
theorem dX6_addMarks_96 : decode cX6_addMarks 96 = .ok (.iload 8, 2) := by decide +kernel
theorem dX6_addMarks_98 : decode cX6_addMarks 98 = .ok (.if_icmp .gt 7, 3) := by decide +kernel
theorem dX6_addMarks_101 : decode cX6_addMarks 101 = .ok (.iconst 1, 1) := by decide +kernel
theorem dX6_addMarks_102 : decode cX6_addMarks 102 = .ok (.goto 4, 3) := by decide +kernel
theorem dX6_addMarks_105 : decode cX6_addMarks 105 = .ok (.iconst 0, 1) := by decide +kernel
theorem dX6_addMarks_106 : decode cX6_addMarks 106 = .ok (.istore 13, 2) := by decide +kernel
theorem dX6_addMarks_108 : decode cX6_addMarks 108 = .ok (.aload_n 0, 1) := by decide +kernel
theorem dX6_addMarks_109 : decode cX6_addMarks 109 = .ok (.getfield 11, 3) := by decide +kernel
theorem dX6_addMarks_112 : decode cX6_addMarks 112 = .ok (.iload_n 2, 1) := by decide +kernel
theorem dX6_addMarks_113 : decode cX6_addMarks 113 = .ok (.iload 6, 2) := by decide +kernel
theorem dX6_addMarks_115 : decode cX6_addMarks 115 = .ok (.iload 13, 2) := by decide +kernel
theorem dX6_addMarks_117 : decode cX6_addMarks 117 = .ok (.ifCond .eq 11, 3) := by decide +kernel
theorem dX6_addMarks_120 : decode cX6_addMarks 120 = .ok (.iload 7, 2) := by decide +kernel
theorem dX6_addMarks_122 : decode cX6_addMarks 122 = .ok (.iload 4, 2) := by decide +kernel
theorem dX6_addMarks_124 : decode cX6_addMarks 124 = .ok (.iadd, 1) := by decide +kernel
theorem dX6_addMarks_125 : decode cX6_addMarks 125 = .ok (.goto 5, 3) := by decide +kernel
theorem dX6_addMarks_128 : decode cX6_addMarks 128 = .ok (.iload 8, 2) := by decide +kernel
theorem dX6_addMarks_130 : decode cX6_addMarks 130 = .ok (.iadd, 1) := by decide +kernel
theorem dX6_addMarks_131 : decode cX6_addMarks 131 = .ok (.iastore, 1) := by decide +kernel
theorem dX6_addMarks_132 : decode cX6_addMarks 132 = .ok (.aload_n 0, 1) := by decide +kernel
theorem dX6_addMarks_133 : decode cX6_addMarks 133 = .ok (.getfield 15, 3) := by decide +kernel
theorem dX6_addMarks_136 : decode cX6_addMarks 136 = .ok (.iload_n 2, 1) := by decide +kernel
theorem dX6_addMarks_137 : decode cX6_addMarks 137 = .ok (.iload 13, 2) := by decide +kernel
theorem dX6_addMarks_139 : decode cX6_addMarks 139 = .ok (.ifCond .eq 8, 3) := by decide +kernel
theorem dX6_addMarks_142 : decode cX6_addMarks 142 = .ok (.lload 9, 2) := by decide +kernel
theorem dX6_addMarks_144 : decode cX6_addMarks 144 = .ok (.goto 5, 3) := by decide +kernel
theorem dX6_addMarks_147 : decode cX6_addMarks 147 = .ok (.lload 11, 2) := by decide +kernel
theorem dX6_addMarks_149 : decode cX6_addMarks 149 = .ok (.lconst 1, 1) := by decide +kernel
theorem dX6_addMarks_150 : decode cX6_addMarks 150 = .ok (.iload_n 3, 1) := by decide +kernel
theorem dX6_addMarks_151 : decode cX6_addMarks 151 = .ok (.lshl, 1) := by decide +kernel
theorem dX6_addMarks_152 : decode cX6_addMarks 152 = .ok (.lor, 1) := by decide +kernel
theorem dX6_addMarks_153 : decode cX6_addMarks 153 = .ok (.lastore, 1) := by decide +kernel
theorem dX6_addMarks_154 : decode cX6_addMarks 154 = .ok (.return_, 1) := by decide +kernel
theorem dX6_takeBest_0 : decode cX6_takeBest 0 = .ok (.iconst 0, 1) := by decide +kernel
theorem dX6_takeBest_1 : decode cX6_takeBest 1 = .ok (.istore_n 1, 1) := by decide +kernel
theorem dX6_takeBest_2 : decode cX6_takeBest 2 = .ok (.iconst 1, 1) := by decide +kernel
theorem dX6_takeBest_3 : decode cX6_takeBest 3 = .ok (.istore_n 2, 1) := by decide +kernel
theorem dX6_takeBest_4 : decode cX6_takeBest 4 = .ok (.iload_n 2, 1) := by decide +kernel
theorem dX6_takeBest_5 : decode cX6_takeBest 5 = .ok (.sipush 256, 3) := by decide +kernel
theorem dX6_takeBest_8 : decode cX6_takeBest 8 = .ok (.if_icmp .ge 26, 3) := by decide +kernel
theorem dX6_takeBest_11 : decode cX6_takeBest 11 = .ok (.aload_n 0, 1) := by decide +kernel
theorem dX6_takeBest_12 : decode cX6_takeBest 12 = .ok (.getfield 11, 3) := by decide +kernel
theorem dX6_takeBest_15 : decode cX6_takeBest 15 = .ok (.iload_n 2, 1) := by decide +kernel
theorem dX6_takeBest_16 : decode cX6_takeBest 16 = .ok (.iaload, 1) := by decide +kernel
theorem dX6_takeBest_17 : decode cX6_takeBest 17 = .ok (.aload_n 0, 1) := by decide +kernel
theorem dX6_takeBest_18 : decode cX6_takeBest 18 = .ok (.getfield 11, 3) := by decide +kernel
theorem dX6_takeBest_21 : decode cX6_takeBest 21 = .ok (.iload_n 1, 1) := by decide +kernel
theorem dX6_takeBest_22 : decode cX6_takeBest 22 = .ok (.iaload, 1) := by decide +kernel
theorem dX6_takeBest_23 : decode cX6_takeBest 23 = .ok (.if_icmp .ge 5, 3) := by decide +kernel
theorem dX6_takeBest_26 : decode cX6_takeBest 26 = .ok (.iload_n 2, 1) := by decide +kernel
theorem dX6_takeBest_27 : decode cX6_takeBest 27 = .ok (.istore_n 1, 1) := by decide +kernel
theorem dX6_takeBest_28 : decode cX6_takeBest 28 = .ok (.iinc 2 1, 3) := by decide +kernel
theorem dX6_takeBest_31 : decode cX6_takeBest 31 = .ok (.goto (-27), 3) := by decide +kernel
theorem dX6_takeBest_34 : decode cX6_takeBest 34 = .ok (.aload_n 0, 1) := by decide +kernel
theorem dX6_takeBest_35 : decode cX6_takeBest 35 = .ok (.aload_n 0, 1) := by decide +kernel
theorem dX6_takeBest_36 : decode cX6_takeBest 36 = .ok (.getfield 15, 3) := by decide +kernel
theorem dX6_takeBest_39 : decode cX6_takeBest 39 = .ok (.iload_n 1, 1) := by decide +kernel
theorem dX6_takeBest_40 : decode cX6_takeBest 40 = .ok (.laload, 1) := by decide +kernel
theorem dX6_takeBest_41 : decode cX6_takeBest 41 = .ok (.putfield 26, 3) := by decide +kernel
theorem dX6_takeBest_44 : decode cX6_takeBest 44 = .ok (.aload_n 0, 1) := by decide +kernel
theorem dX6_takeBest_45 : decode cX6_takeBest 45 = .ok (.getfield 11, 3) := by decide +kernel
theorem dX6_takeBest_48 : decode cX6_takeBest 48 = .ok (.iload_n 1, 1) := by decide +kernel
theorem dX6_takeBest_49 : decode cX6_takeBest 49 = .ok (.iaload, 1) := by decide +kernel
theorem dX6_takeBest_50 : decode cX6_takeBest 50 = .ok (.sipush 128, 3) := by decide +kernel
theorem dX6_takeBest_53 : decode cX6_takeBest 53 = .ok (.idiv, 1) := by decide +kernel
theorem dX6_takeBest_54 : decode cX6_takeBest 54 = .ok (.ireturn, 1) := by decide +kernel
theorem dX7_init_0 : decode cX7_init 0 = .ok (.aload_n 0, 1) := by decide +kernel
theorem dX7_init_1 : decode cX7_init 1 = .ok (.invokespecial 3, 3) := by decide +kernel
theorem dX7_init_4 : decode cX7_init 4 = .ok (.aload_n 0, 1) := by decide +kernel
theorem dX7_init_5 : decode cX7_init 5 = .ok (.bipush 15, 2) := by decide +kernel
theorem dX7_init_7 : decode cX7_init 7 = .ok (.newarray .int, 2) := by decide +kernel
theorem dX7_init_9 : decode cX7_init 9 = .ok (.putfield 9, 3) := by decide +kernel
theorem dX7_init_12 : decode cX7_init 12 = .ok (.aload_n 0, 1) := by decide +kernel
theorem dX7_init_13 : decode cX7_init 13 = .ok (.bipush 15, 2) := by decide +kernel
theorem dX7_init_15 : decode cX7_init 15 = .ok (.newarray .int, 2) := by decide +kernel
theorem dX7_init_17 : decode cX7_init 17 = .ok (.putfield 15, 3) := by decide +kernel
theorem dX7_init_20 : decode cX7_init 20 = .ok (.aload_n 0, 1) := by decide +kernel
theorem dX7_init_21 : decode cX7_init 21 = .ok (.bipush 15, 2) := by decide +kernel
theorem dX7_init_23 : decode cX7_init 23 = .ok (.newarray .int, 2) := by decide +kernel
theorem dX7_init_25 : decode cX7_init 25 = .ok (.putfield 18, 3) := by decide +kernel
theorem dX7_init_28 : decode cX7_init 28 = .ok (.aload_n 0, 1) := by decide +kernel
theorem dX7_init_29 : decode cX7_init 29 = .ok (.bipush 15, 2) := by decide +kernel
theorem dX7_init_31 : decode cX7_init 31 = .ok (.newarray .int, 2) := by decide +kernel
theorem dX7_init_33 : decode cX7_init 33 = .ok (.putfield 21, 3) := by decide +kernel
theorem dX7_init_36 : decode cX7_init 36 = .ok (.aload_n 0, 1) := by decide +kernel
theorem dX7_init_37 : decode cX7_init 37 = .ok (.bipush 40, 2) := by decide +kernel
theorem dX7_init_39 : decode cX7_init 39 = .ok (.newarray .int, 2) := by decide +kernel
theorem dX7_init_41 : decode cX7_init 41 = .ok (.putfield 24, 3) := by decide +kernel
theorem dX7_init_44 : decode cX7_init 44 = .ok (.aload_n 0, 1) := by decide +kernel
theorem dX7_init_45 : decode cX7_init 45 = .ok (.iconst 4, 1) := by decide +kernel
theorem dX7_init_46 : decode cX7_init 46 = .ok (.newarray .int, 2) := by decide +kernel
theorem dX7_init_48 : decode cX7_init 48 = .ok (.putfield 27, 3) := by decide +kernel
theorem dX7_init_51 : decode cX7_init 51 = .ok (.aload_n 0, 1) := by decide +kernel
theorem dX7_init_52 : decode cX7_init 52 = .ok (.iconst 4, 1) := by decide +kernel
theorem dX7_init_53 : decode cX7_init 53 = .ok (.newarray .int, 2) := by decide +kernel
theorem dX7_init_55 : decode cX7_init 55 = .ok (.putfield 30, 3) := by decide +kernel
theorem dX7_init_58 : decode cX7_init 58 = .ok (.aload_n 0, 1) := by decide +kernel
theorem dX7_init_59 : decode cX7_init 59 = .ok (.iconst 4, 1) := by decide +kernel
theorem dX7_init_60 : decode cX7_init 60 = .ok (.putfield 33, 3) := by decide +kernel
theorem dX7_init_63 : decode cX7_init 63 = .ok (.aload_n 0, 1) := by decide +kernel
theorem dX7_init_64 : decode cX7_init 64 = .ok (.iconst 0, 1) := by decide +kernel
theorem dX7_init_65 : decode cX7_init 65 = .ok (.putfield 37, 3) := by decide +kernel
theorem dX7_init_68 : decode cX7_init 68 = .ok (.aload_n 0, 1) := by decide +kernel
theorem dX7_init_69 : decode cX7_init 69 = .ok (.lconst 0, 1) := by decide +kernel
theorem dX7_init_70 : decode cX7_init 70 = .ok (.putfield 40, 3) := by decide +kernel
theorem dX7_init_73 : decode cX7_init 73 = .ok (.aload_n 0, 1) := by decide +kernel
theorem dX7_init_74 : decode cX7_init 74 = .ok (.lconst 1, 1) := by decide +kernel
theorem dX7_init_75 : decode cX7_init 75 = .ok (.putfield 44, 3) := by decide +kernel
theorem dX7_init_78 : decode cX7_init 78 = .ok (.return_, 1) := by decide +kernel
theorem dX7_growFrom_0 : decode cX7_growFrom 0 = .ok (.aload_n 0, 1) := by decide +kernel
theorem dX7_growFrom_1 : decode cX7_growFrom 1 = .ok (.getfield 9, 3) := by decide +kernel
theorem dX7_growFrom_4 : decode cX7_growFrom 4 = .ok (.iconst (-1), 1) := by decide +kernel
theorem dX7_growFrom_5 : decode cX7_growFrom 5 = .ok (.invokestatic 47, 3) := by decide +kernel
theorem dX7_growFrom_8 : decode cX7_growFrom 8 = .ok (.iconst 0, 1) := by decide +kernel
theorem dX7_growFrom_9 : decode cX7_growFrom 9 = .ok (.istore_n 3, 1) := by decide +kernel
theorem dX7_growFrom_10 : decode cX7_growFrom 10 = .ok (.iload_n 3, 1) := by decide +kernel
theorem dX7_growFrom_11 : decode cX7_growFrom 11 = .ok (.aload_n 1, 1) := by decide +kernel
theorem dX7_growFrom_12 : decode cX7_growFrom 12 = .ok (.invokevirtual 53, 3) := by decide +kernel
theorem dX7_growFrom_15 : decode cX7_growFrom 15 = .ok (.if_icmp .ge 16, 3) := by decide +kernel
theorem dX7_growFrom_18 : decode cX7_growFrom 18 = .ok (.aload_n 0, 1) := by decide +kernel
theorem dX7_growFrom_19 : decode cX7_growFrom 19 = .ok (.getfield 24, 3) := by decide +kernel
theorem dX7_growFrom_22 : decode cX7_growFrom 22 = .ok (.iload_n 3, 1) := by decide +kernel
theorem dX7_growFrom_23 : decode cX7_growFrom 23 = .ok (.iload_n 3, 1) := by decide +kernel
theorem dX7_growFrom_24 : decode cX7_growFrom 24 = .ok (.iastore, 1) := by decide +kernel
theorem dX7_growFrom_25 : decode cX7_growFrom 25 = .ok (.iinc 3 1, 3) := by decide +kernel
theorem dX7_growFrom_28 : decode cX7_growFrom 28 = .ok (.goto (-18), 3) := by decide +kernel
theorem dX7_growFrom_31 : decode cX7_growFrom 31 = .ok (.aload_n 0, 1) := by decide +kernel
theorem dX7_growFrom_32 : decode cX7_growFrom 32 = .ok (.iconst 0, 1) := by decide +kernel
theorem dX7_growFrom_33 : decode cX7_growFrom 33 = .ok (.iconst 0, 1) := by decide +kernel
theorem dX7_growFrom_34 : decode cX7_growFrom 34 = .ok (.aload_n 1, 1) := by decide +kernel
theorem dX7_growFrom_35 : decode cX7_growFrom 35 = .ok (.invokevirtual 53, 3) := by decide +kernel
theorem dX7_growFrom_38 : decode cX7_growFrom 38 = .ok (.invokevirtual 59, 3) := by decide +kernel
theorem dX7_growFrom_41 : decode cX7_growFrom 41 = .ok (.iconst 0, 1) := by decide +kernel
theorem dX7_growFrom_42 : decode cX7_growFrom 42 = .ok (.istore_n 3, 1) := by decide +kernel
theorem dX7_growFrom_43 : decode cX7_growFrom 43 = .ok (.iload_n 3, 1) := by decide +kernel
theorem dX7_growFrom_44 : decode cX7_growFrom 44 = .ok (.bipush 15, 2) := by decide +kernel
theorem dX7_growFrom_46 : decode cX7_growFrom 46 = .ok (.if_icmp .ge 39, 3) := by decide +kernel
theorem dX7_growFrom_49 : decode cX7_growFrom 49 = .ok (.aload_n 0, 1) := by decide +kernel
theorem dX7_growFrom_50 : decode cX7_growFrom 50 = .ok (.getfield 9, 3) := by decide +kernel
theorem dX7_growFrom_53 : decode cX7_growFrom 53 = .ok (.iload_n 3, 1) := by decide +kernel
theorem dX7_growFrom_54 : decode cX7_growFrom 54 = .ok (.iaload, 1) := by decide +kernel
theorem dX7_growFrom_55 : decode cX7_growFrom 55 = .ok (.iconst (-1), 1) := by decide +kernel
theorem dX7_growFrom_56 : decode cX7_growFrom 56 = .ok (.if_icmp .eq 23, 3) := by decide +kernel
theorem dX7_growFrom_59 : decode cX7_growFrom 59 = .ok (.aload_n 0, 1) := by decide +kernel
theorem dX7_growFrom_60 : decode cX7_growFrom 60 = .ok (.aload_n 1, 1) := by decide +kernel
theorem dX7_growFrom_61 : decode cX7_growFrom 61 = .ok (.iload_n 3, 1) := by decide +kernel
theorem dX7_growFrom_62 : decode cX7_growFrom 62 = .ok (.iload_n 2, 1) := by decide +kernel
theorem dX7_growFrom_63 : decode cX7_growFrom 63 = .ok (.getstatic 63, 3) := by decide +kernel
theorem dX7_growFrom_66 : decode cX7_growFrom 66 = .ok (.iload_n 3, 1) := by decide +kernel
theorem dX7_growFrom_67 : decode cX7_growFrom 67 = .ok (.iaload, 1) := by decide +kernel
theorem dX7_growFrom_68 : decode cX7_growFrom 68 = .ok (.if_icmp .le 7, 3) := by decide +kernel
theorem dX7_growFrom_71 : decode cX7_growFrom 71 = .ok (.iconst 1, 1) := by decide +kernel
theorem dX7_growFrom_72 : decode cX7_growFrom 72 = .ok (.goto 4, 3) := by decide +kernel
theorem dX7_growFrom_75 : decode cX7_growFrom 75 = .ok (.iconst 0, 1) := by decide +kernel
theorem dX7_growFrom_76 : decode cX7_growFrom 76 = .ok (.invokevirtual 66, 3) := by decide +kernel
theorem dX7_growFrom_79 : decode cX7_growFrom 79 = .ok (.iinc 3 1, 3) := by decide +kernel
theorem dX7_growFrom_82 : decode cX7_growFrom 82 = .ok (.goto (-39), 3) := by decide +kernel
theorem dX7_growFrom_85 : decode cX7_growFrom 85 = .ok (.return_, 1) := by decide +kernel
theorem dX7_plant_0 : decode cX7_plant 0 = .ok (.aload_n 0, 1) := by decide +kernel
theorem dX7_plant_1 : decode cX7_plant 1 = .ok (.getfield 9, 3) := by decide +kernel
theorem dX7_plant_4 : decode cX7_plant 4 = .ok (.iload_n 1, 1) := by decide +kernel
theorem dX7_plant_5 : decode cX7_plant 5 = .ok (.iconst 4, 1) := by decide +kernel
theorem dX7_plant_6 : decode cX7_plant 6 = .ok (.iastore, 1) := by decide +kernel
theorem dX7_plant_7 : decode cX7_plant 7 = .ok (.aload_n 0, 1) := by decide +kernel
theorem dX7_plant_8 : decode cX7_plant 8 = .ok (.getfield 18, 3) := by decide +kernel
theorem dX7_plant_11 : decode cX7_plant 11 = .ok (.iload_n 1, 1) := by decide +kernel
theorem dX7_plant_12 : decode cX7_plant 12 = .ok (.iload_n 2, 1) := by decide +kernel
theorem dX7_plant_13 : decode cX7_plant 13 = .ok (.iastore, 1) := by decide +kernel
theorem dX7_plant_14 : decode cX7_plant 14 = .ok (.aload_n 0, 1) := by decide +kernel
theorem dX7_plant_15 : decode cX7_plant 15 = .ok (.getfield 21, 3) := by decide +kernel
theorem dX7_plant_18 : decode cX7_plant 18 = .ok (.iload_n 1, 1) := by decide +kernel
theorem dX7_plant_19 : decode cX7_plant 19 = .ok (.iload_n 3, 1) := by decide +kernel
theorem dX7_plant_20 : decode cX7_plant 20 = .ok (.iastore, 1) := by decide +kernel
theorem dX7_plant_21 : decode cX7_plant 21 = .ok (.return_, 1) := by decide +kernel
theorem dX7_settle_0 : decode cX7_settle 0 = .ok (.aload_n 0, 1) := by decide +kernel
theorem dX7_settle_1 : decode cX7_settle 1 = .ok (.aload_n 1, 1) := by decide +kernel
theorem dX7_settle_2 : decode cX7_settle 2 = .ok (.aload_n 0, 1) := by decide +kernel
theorem dX7_settle_3 : decode cX7_settle 3 = .ok (.getfield 18, 3) := by decide +kernel
theorem dX7_settle_6 : decode cX7_settle 6 = .ok (.iload_n 2, 1) := by decide +kernel
theorem dX7_settle_7 : decode cX7_settle 7 = .ok (.iaload, 1) := by decide +kernel
theorem dX7_settle_8 : decode cX7_settle 8 = .ok (.aload_n 0, 1) := by decide +kernel
theorem dX7_settle_9 : decode cX7_settle 9 = .ok (.getfield 21, 3) := by decide +kernel
theorem dX7_settle_12 : decode cX7_settle 12 = .ok (.iload_n 2, 1) := by decide +kernel
theorem dX7_settle_13 : decode cX7_settle 13 = .ok (.iaload, 1) := by decide +kernel
theorem dX7_settle_14 : decode cX7_settle 14 = .ok (.invokevirtual 70, 3) := by decide +kernel
theorem dX7_settle_17 : decode cX7_settle 17 = .ok (.iconst 0, 1) := by decide +kernel
theorem dX7_settle_18 : decode cX7_settle 18 = .ok (.istore 4, 2) := by decide +kernel
theorem dX7_settle_20 : decode cX7_settle 20 = .ok (.iconst 1, 1) := by decide +kernel
theorem dX7_settle_21 : decode cX7_settle 21 = .ok (.istore 5, 2) := by decide +kernel
theorem dX7_settle_23 : decode cX7_settle 23 = .ok (.iload 5, 2) := by decide +kernel
theorem dX7_settle_25 : decode cX7_settle 25 = .ok (.iconst 4, 1) := by decide +kernel
theorem dX7_settle_26 : decode cX7_settle 26 = .ok (.if_icmp .ge 30, 3) := by decide +kernel
theorem dX7_settle_29 : decode cX7_settle 29 = .ok (.aload_n 0, 1) := by decide +kernel
theorem dX7_settle_30 : decode cX7_settle 30 = .ok (.getfield 30, 3) := by decide +kernel
theorem dX7_settle_33 : decode cX7_settle 33 = .ok (.iload 5, 2) := by decide +kernel
theorem dX7_settle_35 : decode cX7_settle 35 = .ok (.iaload, 1) := by decide +kernel
theorem dX7_settle_36 : decode cX7_settle 36 = .ok (.aload_n 0, 1) := by decide +kernel
theorem dX7_settle_37 : decode cX7_settle 37 = .ok (.getfield 30, 3) := by decide +kernel
theorem dX7_settle_40 : decode cX7_settle 40 = .ok (.iload 4, 2) := by decide +kernel
theorem dX7_settle_42 : decode cX7_settle 42 = .ok (.iaload, 1) := by decide +kernel
theorem dX7_settle_43 : decode cX7_settle 43 = .ok (.if_icmp .le 7, 3) := by decide +kernel
theorem dX7_settle_46 : decode cX7_settle 46 = .ok (.iload 5, 2) := by decide +kernel
theorem dX7_settle_48 : decode cX7_settle 48 = .ok (.istore 4, 2) := by decide +kernel
theorem dX7_settle_50 : decode cX7_settle 50 = .ok (.iinc 5 1, 3) := by decide +kernel
theorem dX7_settle_53 : decode cX7_settle 53 = .ok (.goto (-30), 3) := by decide +kernel
theorem dX7_settle_56 : decode cX7_settle 56 = .ok (.aload_n 0, 1) := by decide +kernel
theorem dX7_settle_57 : decode cX7_settle 57 = .ok (.getfield 15, 3) := by decide +kernel
theorem dX7_settle_60 : decode cX7_settle 60 = .ok (.iload_n 2, 1) := by decide +kernel
theorem dX7_settle_61 : decode cX7_settle 61 = .ok (.iload 4, 2) := by decide +kernel
theorem dX7_settle_63 : decode cX7_settle 63 = .ok (.iastore, 1) := by decide +kernel
theorem dX7_settle_64 : decode cX7_settle 64 = .ok (.aload_n 0, 1) := by decide +kernel
theorem dX7_settle_65 : decode cX7_settle 65 = .ok (.getfield 30, 3) := by decide +kernel
theorem dX7_settle_68 : decode cX7_settle 68 = .ok (.iload 4, 2) := by decide +kernel
theorem dX7_settle_70 : decode cX7_settle 70 = .ok (.iaload, 1) := by decide +kernel
theorem dX7_settle_71 : decode cX7_settle 71 = .ok (.aload_n 0, 1) := by decide +kernel
theorem dX7_settle_72 : decode cX7_settle 72 = .ok (.getfield 21, 3) := by decide +kernel
theorem dX7_settle_75 : decode cX7_settle 75 = .ok (.iload_n 2, 1) := by decide +kernel
theorem dX7_settle_76 : decode cX7_settle 76 = .ok (.iaload, 1) := by decide +kernel
theorem dX7_settle_77 : decode cX7_settle 77 = .ok (.aload_n 0, 1) := by decide +kernel
theorem dX7_settle_78 : decode cX7_settle 78 = .ok (.getfield 18, 3) := by decide +kernel
theorem dX7_settle_81 : decode cX7_settle 81 = .ok (.iload_n 2, 1) := by decide +kernel
theorem dX7_settle_82 : decode cX7_settle 82 = .ok (.iaload, 1) := by decide +kernel
theorem dX7_settle_83 : decode cX7_settle 83 = .ok (.isub, 1) := by decide +kernel
theorem dX7_settle_84 : decode cX7_settle 84 = .ok (.if_icmp .ge 7, 3) := by decide +kernel
theorem dX7_settle_87 : decode cX7_settle 87 = .ok (.iconst 1, 1) := by decide +kernel
theorem dX7_settle_88 : decode cX7_settle 88 = .ok (.goto 4, 3) := by decide +kernel
theorem dX7_settle_91 : decode cX7_settle 91 = .ok (.iconst 0, 1) := by decide +kernel
theorem dX7_settle_92 : decode cX7_settle 92 = .ok (.istore 5, 2) := by decide +kernel
theorem dX7_settle_94 : decode cX7_settle 94 = .ok (.iload_n 3, 1) := by decide +kernel
theorem dX7_settle_95 : decode cX7_settle 95 = .ok (.ifCond .eq 41, 3) := by decide +kernel
theorem dX7_settle_98 : decode cX7_settle 98 = .ok (.iload 5, 2) := by decide +kernel
theorem dX7_settle_100 : decode cX7_settle 100 = .ok (.ifCond .eq 36, 3) := by decide +kernel
theorem dX7_settle_103 : decode cX7_settle 103 = .ok (.iconst 2, 1) := by decide +kernel
theorem dX7_settle_104 : decode cX7_settle 104 = .ok (.iload_n 2, 1) := by decide +kernel
theorem dX7_settle_105 : decode cX7_settle 105 = .ok (.imul, 1) := by decide +kernel
theorem dX7_settle_106 : decode cX7_settle 106 = .ok (.iconst 2, 1) := by decide +kernel
theorem dX7_settle_107 : decode cX7_settle 107 = .ok (.iadd, 1) := by decide +kernel
theorem dX7_settle_108 : decode cX7_settle 108 = .ok (.bipush 15, 2) := by decide +kernel
theorem dX7_settle_110 : decode cX7_settle 110 = .ok (.if_icmp .ge 26, 3) := by decide +kernel
theorem dX7_settle_113 : decode cX7_settle 113 = .ok (.aload_n 0, 1) := by decide +kernel
theorem dX7_settle_114 : decode cX7_settle 114 = .ok (.aload_n 1, 1) := by decide +kernel
theorem dX7_settle_115 : decode cX7_settle 115 = .ok (.aload_n 0, 1) := by decide +kernel
theorem dX7_settle_116 : decode cX7_settle 116 = .ok (.getfield 18, 3) := by decide +kernel
theorem dX7_settle_119 : decode cX7_settle 119 = .ok (.iload_n 2, 1) := by decide +kernel
theorem dX7_settle_120 : decode cX7_settle 120 = .ok (.iaload, 1) := by decide +kernel
theorem dX7_settle_121 : decode cX7_settle 121 = .ok (.aload_n 0, 1) := by decide +kernel
theorem dX7_settle_122 : decode cX7_settle 122 = .ok (.getfield 21, 3) := by decide +kernel
theorem dX7_settle_125 : decode cX7_settle 125 = .ok (.iload_n 2, 1) := by decide +kernel
theorem dX7_settle_126 : decode cX7_settle 126 = .ok (.iaload, 1) := by decide +kernel
theorem dX7_settle_127 : decode cX7_settle 127 = .ok (.invokevirtual 74, 3) := by decide +kernel
theorem dX7_settle_130 : decode cX7_settle 130 = .ok (.aload_n 0, 1) := by decide +kernel
theorem dX7_settle_131 : decode cX7_settle 131 = .ok (.aload_n 1, 1) := by decide +kernel
theorem dX7_settle_132 : decode cX7_settle 132 = .ok (.iload_n 2, 1) := by decide +kernel
theorem dX7_settle_133 : decode cX7_settle 133 = .ok (.invokevirtual 77, 3) := by decide +kernel
theorem dX7_settle_136 : decode cX7_settle 136 = .ok (.return_, 1) := by decide +kernel
theorem dX7_countClasses_0 : decode cX7_countClasses 0 = .ok (.aload_n 0, 1) := by decide +kernel
theorem dX7_countClasses_1 : decode cX7_countClasses 1 = .ok (.getfield 27, 3) := by decide +kernel
theorem dX7_countClasses_4 : decode cX7_countClasses 4 = .ok (.iconst 0, 1) := by decide +kernel
theorem dX7_countClasses_5 : decode cX7_countClasses 5 = .ok (.invokestatic 47, 3) := by decide +kernel
theorem dX7_countClasses_8 : decode cX7_countClasses 8 = .ok (.aload_n 0, 1) := by decide +kernel
theorem dX7_countClasses_9 : decode cX7_countClasses 9 = .ok (.getfield 30, 3) := by decide +kernel
theorem dX7_countClasses_12 : decode cX7_countClasses 12 = .ok (.iconst 0, 1) := by decide +kernel
theorem dX7_countClasses_13 : decode cX7_countClasses 13 = .ok (.invokestatic 47, 3) := by decide +kernel
theorem dX7_countClasses_16 : decode cX7_countClasses 16 = .ok (.iload_n 2, 1) := by decide +kernel
theorem dX7_countClasses_17 : decode cX7_countClasses 17 = .ok (.istore 4, 2) := by decide +kernel
theorem dX7_countClasses_19 : decode cX7_countClasses 19 = .ok (.iload 4, 2) := by decide +kernel
theorem dX7_countClasses_21 : decode cX7_countClasses 21 = .ok (.iload_n 3, 1) := by decide +kernel
theorem dX7_countClasses_22 : decode cX7_countClasses 22 = .ok (.if_icmp .ge 29, 3) := by decide +kernel
theorem dX7_countClasses_25 : decode cX7_countClasses 25 = .ok (.aload_n 0, 1) := by decide +kernel
theorem dX7_countClasses_26 : decode cX7_countClasses 26 = .ok (.getfield 30, 3) := by decide +kernel
theorem dX7_countClasses_29 : decode cX7_countClasses 29 = .ok (.aload_n 1, 1) := by decide +kernel
theorem dX7_countClasses_30 : decode cX7_countClasses 30 = .ok (.aload_n 0, 1) := by decide +kernel
theorem dX7_countClasses_31 : decode cX7_countClasses 31 = .ok (.getfield 24, 3) := by decide +kernel
theorem dX7_countClasses_34 : decode cX7_countClasses 34 = .ok (.iload 4, 2) := by decide +kernel
theorem dX7_countClasses_36 : decode cX7_countClasses 36 = .ok (.iaload, 1) := by decide +kernel
theorem dX7_countClasses_37 : decode cX7_countClasses 37 = .ok (.invokevirtual 81, 3) := by decide +kernel
theorem dX7_countClasses_40 : decode cX7_countClasses 40 = .ok (.dup2, 1) := by decide +kernel
theorem dX7_countClasses_41 : decode cX7_countClasses 41 = .ok (.iaload, 1) := by decide +kernel
theorem dX7_countClasses_42 : decode cX7_countClasses 42 = .ok (.iconst 1, 1) := by decide +kernel
theorem dX7_countClasses_43 : decode cX7_countClasses 43 = .ok (.iadd, 1) := by decide +kernel
theorem dX7_countClasses_44 : decode cX7_countClasses 44 = .ok (.iastore, 1) := by decide +kernel
theorem dX7_countClasses_45 : decode cX7_countClasses 45 = .ok (.iinc 4 1, 3) := by decide +kernel
theorem dX7_countClasses_48 : decode cX7_countClasses 48 = .ok (.goto (-29), 3) := by decide +kernel
theorem dX7_countClasses_51 : decode cX7_countClasses 51 = .ok (.return_, 1) := by decide +kernel
theorem dX7_seekSplit_0 : decode cX7_seekSplit 0 = .ok (.aload_n 0, 1) := by decide +kernel
theorem dX7_seekSplit_1 : decode cX7_seekSplit 1 = .ok (.iconst 4, 1) := by decide +kernel
theorem dX7_seekSplit_2 : decode cX7_seekSplit 2 = .ok (.putfield 33, 3) := by decide +kernel
theorem dX7_seekSplit_5 : decode cX7_seekSplit 5 = .ok (.aload_n 0, 1) := by decide +kernel
theorem dX7_seekSplit_6 : decode cX7_seekSplit 6 = .ok (.lconst 0, 1) := by decide +kernel
theorem dX7_seekSplit_7 : decode cX7_seekSplit 7 = .ok (.putfield 40, 3) := by decide +kernel
theorem dX7_seekSplit_10 : decode cX7_seekSplit 10 = .ok (.aload_n 0, 1) := by decide +kernel
theorem dX7_seekSplit_11 : decode cX7_seekSplit 11 = .ok (.lconst 1, 1) := by decide +kernel
theorem dX7_seekSplit_12 : decode cX7_seekSplit 12 = .ok (.putfield 44, 3) := by decide +kernel
theorem dX7_seekSplit_15 : decode cX7_seekSplit 15 = .ok (.iconst 0, 1) := by decide +kernel
theorem dX7_seekSplit_16 : decode cX7_seekSplit 16 = .ok (.istore 4, 2) := by decide +kernel
theorem dX7_seekSplit_18 : decode cX7_seekSplit 18 = .ok (.iload 4, 2) := by decide +kernel
theorem dX7_seekSplit_20 : decode cX7_seekSplit 20 = .ok (.iconst 4, 1) := by decide +kernel
theorem dX7_seekSplit_21 : decode cX7_seekSplit 21 = .ok (.if_icmp .ge 34, 3) := by decide +kernel
theorem dX7_seekSplit_24 : decode cX7_seekSplit 24 = .ok (.aload_n 0, 1) := by decide +kernel
theorem dX7_seekSplit_25 : decode cX7_seekSplit 25 = .ok (.aload_n 1, 1) := by decide +kernel
theorem dX7_seekSplit_26 : decode cX7_seekSplit 26 = .ok (.iload 4, 2) := by decide +kernel
theorem dX7_seekSplit_28 : decode cX7_seekSplit 28 = .ok (.iload_n 2, 1) := by decide +kernel
theorem dX7_seekSplit_29 : decode cX7_seekSplit 29 = .ok (.iload_n 3, 1) := by decide +kernel
theorem dX7_seekSplit_30 : decode cX7_seekSplit 30 = .ok (.invokevirtual 85, 3) := by decide +kernel
theorem dX7_seekSplit_33 : decode cX7_seekSplit 33 = .ok (.aload_n 0, 1) := by decide +kernel
theorem dX7_seekSplit_34 : decode cX7_seekSplit 34 = .ok (.aload_n 1, 1) := by decide +kernel
theorem dX7_seekSplit_35 : decode cX7_seekSplit 35 = .ok (.iload_n 2, 1) := by decide +kernel
theorem dX7_seekSplit_36 : decode cX7_seekSplit 36 = .ok (.iload_n 3, 1) := by decide +kernel
theorem dX7_seekSplit_37 : decode cX7_seekSplit 37 = .ok (.invokevirtual 70, 3) := by decide +kernel
theorem dX7_seekSplit_40 : decode cX7_seekSplit 40 = .ok (.aload_n 0, 1) := by decide +kernel
theorem dX7_seekSplit_41 : decode cX7_seekSplit 41 = .ok (.aload_n 1, 1) := by decide +kernel
theorem dX7_seekSplit_42 : decode cX7_seekSplit 42 = .ok (.iload 4, 2) := by decide +kernel
theorem dX7_seekSplit_44 : decode cX7_seekSplit 44 = .ok (.iload_n 2, 1) := by decide +kernel
theorem dX7_seekSplit_45 : decode cX7_seekSplit 45 = .ok (.iload_n 3, 1) := by decide +kernel
theorem dX7_seekSplit_46 : decode cX7_seekSplit 46 = .ok (.invokevirtual 89, 3) := by decide +kernel
theorem dX7_seekSplit_49 : decode cX7_seekSplit 49 = .ok (.iinc 4 1, 3) := by decide +kernel
theorem dX7_seekSplit_52 : decode cX7_seekSplit 52 = .ok (.goto (-34), 3) := by decide +kernel
theorem dX7_seekSplit_55 : decode cX7_seekSplit 55 = .ok (.return_, 1) := by decide +kernel
theorem dX7_sort_0 : decode cX7_sort 0 = .ok (.iload_n 3, 1) := by decide +kernel
theorem dX7_sort_1 : decode cX7_sort 1 = .ok (.iconst 1, 1) := by decide +kernel
theorem dX7_sort_2 : decode cX7_sort 2 = .ok (.iadd, 1) := by decide +kernel
theorem dX7_sort_3 : decode cX7_sort 3 = .ok (.istore 5, 2) := by decide +kernel
theorem dX7_sort_5 : decode cX7_sort 5 = .ok (.iload 5, 2) := by decide +kernel
theorem dX7_sort_7 : decode cX7_sort 7 = .ok (.iload 4, 2) := by decide +kernel
theorem dX7_sort_9 : decode cX7_sort 9 = .ok (.if_icmp .ge 87, 3) := by decide +kernel
theorem dX7_sort_12 : decode cX7_sort 12 = .ok (.aload_n 0, 1) := by decide +kernel
theorem dX7_sort_13 : decode cX7_sort 13 = .ok (.getfield 24, 3) := by decide +kernel
theorem dX7_sort_16 : decode cX7_sort 16 = .ok (.iload 5, 2) := by decide +kernel
theorem dX7_sort_18 : decode cX7_sort 18 = .ok (.iaload, 1) := by decide +kernel
theorem dX7_sort_19 : decode cX7_sort 19 = .ok (.istore 6, 2) := by decide +kernel
theorem dX7_sort_21 : decode cX7_sort 21 = .ok (.aload_n 1, 1) := by decide +kernel
theorem dX7_sort_22 : decode cX7_sort 22 = .ok (.iload 6, 2) := by decide +kernel
theorem dX7_sort_24 : decode cX7_sort 24 = .ok (.iload_n 2, 1) := by decide +kernel
theorem dX7_sort_25 : decode cX7_sort 25 = .ok (.invokevirtual 92, 3) := by decide +kernel
theorem dX7_sort_28 : decode cX7_sort 28 = .ok (.istore 7, 2) := by decide +kernel
theorem dX7_sort_30 : decode cX7_sort 30 = .ok (.iload 5, 2) := by decide +kernel
theorem dX7_sort_32 : decode cX7_sort 32 = .ok (.istore 8, 2) := by decide +kernel
theorem dX7_sort_34 : decode cX7_sort 34 = .ok (.iload 8, 2) := by decide +kernel
theorem dX7_sort_36 : decode cX7_sort 36 = .ok (.iload_n 3, 1) := by decide +kernel
theorem dX7_sort_37 : decode cX7_sort 37 = .ok (.if_icmp .le 44, 3) := by decide +kernel
theorem dX7_sort_40 : decode cX7_sort 40 = .ok (.aload_n 1, 1) := by decide +kernel
theorem dX7_sort_41 : decode cX7_sort 41 = .ok (.aload_n 0, 1) := by decide +kernel
theorem dX7_sort_42 : decode cX7_sort 42 = .ok (.getfield 24, 3) := by decide +kernel
theorem dX7_sort_45 : decode cX7_sort 45 = .ok (.iload 8, 2) := by decide +kernel
theorem dX7_sort_47 : decode cX7_sort 47 = .ok (.iconst 1, 1) := by decide +kernel
theorem dX7_sort_48 : decode cX7_sort 48 = .ok (.isub, 1) := by decide +kernel
theorem dX7_sort_49 : decode cX7_sort 49 = .ok (.iaload, 1) := by decide +kernel
theorem dX7_sort_50 : decode cX7_sort 50 = .ok (.iload_n 2, 1) := by decide +kernel
theorem dX7_sort_51 : decode cX7_sort 51 = .ok (.invokevirtual 92, 3) := by decide +kernel
theorem dX7_sort_54 : decode cX7_sort 54 = .ok (.iload 7, 2) := by decide +kernel
theorem dX7_sort_56 : decode cX7_sort 56 = .ok (.if_icmp .le 25, 3) := by decide +kernel
theorem dX7_sort_59 : decode cX7_sort 59 = .ok (.aload_n 0, 1) := by decide +kernel
theorem dX7_sort_60 : decode cX7_sort 60 = .ok (.getfield 24, 3) := by decide +kernel
theorem dX7_sort_63 : decode cX7_sort 63 = .ok (.iload 8, 2) := by decide +kernel
theorem dX7_sort_65 : decode cX7_sort 65 = .ok (.aload_n 0, 1) := by decide +kernel
theorem dX7_sort_66 : decode cX7_sort 66 = .ok (.getfield 24, 3) := by decide +kernel
theorem dX7_sort_69 : decode cX7_sort 69 = .ok (.iload 8, 2) := by decide +kernel
theorem dX7_sort_71 : decode cX7_sort 71 = .ok (.iconst 1, 1) := by decide +kernel
theorem dX7_sort_72 : decode cX7_sort 72 = .ok (.isub, 1) := by decide +kernel
theorem dX7_sort_73 : decode cX7_sort 73 = .ok (.iaload, 1) := by decide +kernel
theorem dX7_sort_74 : decode cX7_sort 74 = .ok (.iastore, 1) := by decide +kernel
theorem dX7_sort_75 : decode cX7_sort 75 = .ok (.iinc 8 (-1), 3) := by decide +kernel
theorem dX7_sort_78 : decode cX7_sort 78 = .ok (.goto (-44), 3) := by decide +kernel
theorem dX7_sort_81 : decode cX7_sort 81 = .ok (.aload_n 0, 1) := by decide +kernel
theorem dX7_sort_82 : decode cX7_sort 82 = .ok (.getfield 24, 3) := by decide +kernel
theorem dX7_sort_85 : decode cX7_sort 85 = .ok (.iload 8, 2) := by decide +kernel
theorem dX7_sort_87 : decode cX7_sort 87 = .ok (.iload 6, 2) := by decide +kernel
theorem dX7_sort_89 : decode cX7_sort 89 = .ok (.iastore, 1) := by decide +kernel
theorem dX7_sort_90 : decode cX7_sort 90 = .ok (.iinc 5 1, 3) := by decide +kernel
theorem dX7_sort_93 : decode cX7_sort 93 = .ok (.goto (-88), 3) := by decide +kernel
theorem dX7_sort_96 : decode cX7_sort 96 = .ok (.return_, 1) := by decide +kernel
theorem dX7_sweep_0 : decode cX7_sweep 0 = .ok (.lconst 0, 1) := by decide +kernel
theorem dX7_sweep_1 : decode cX7_sweep 1 = .ok (.lstore 5, 2) := by decide +kernel
theorem dX7_sweep_3 : decode cX7_sweep 3 = .ok (.lconst 0, 1) := by decide +kernel
theorem dX7_sweep_4 : decode cX7_sweep 4 = .ok (.lstore 7, 2) := by decide +kernel
theorem dX7_sweep_6 : decode cX7_sweep 6 = .ok (.iconst 0, 1) := by decide +kernel
theorem dX7_sweep_7 : decode cX7_sweep 7 = .ok (.istore 9, 2) := by decide +kernel
theorem dX7_sweep_9 : decode cX7_sweep 9 = .ok (.iload 9, 2) := by decide +kernel
theorem dX7_sweep_11 : decode cX7_sweep 11 = .ok (.iconst 4, 1) := by decide +kernel
theorem dX7_sweep_12 : decode cX7_sweep 12 = .ok (.if_icmp .ge 30, 3) := by decide +kernel
theorem dX7_sweep_15 : decode cX7_sweep 15 = .ok (.lload 7, 2) := by decide +kernel
theorem dX7_sweep_17 : decode cX7_sweep 17 = .ok (.aload_n 0, 1) := by decide +kernel
theorem dX7_sweep_18 : decode cX7_sweep 18 = .ok (.getfield 30, 3) := by decide +kernel
theorem dX7_sweep_21 : decode cX7_sweep 21 = .ok (.iload 9, 2) := by decide +kernel
theorem dX7_sweep_23 : decode cX7_sweep 23 = .ok (.iaload, 1) := by decide +kernel
theorem dX7_sweep_24 : decode cX7_sweep 24 = .ok (.aload_n 0, 1) := by decide +kernel
theorem dX7_sweep_25 : decode cX7_sweep 25 = .ok (.getfield 30, 3) := by decide +kernel
theorem dX7_sweep_28 : decode cX7_sweep 28 = .ok (.iload 9, 2) := by decide +kernel
theorem dX7_sweep_30 : decode cX7_sweep 30 = .ok (.iaload, 1) := by decide +kernel
theorem dX7_sweep_31 : decode cX7_sweep 31 = .ok (.imul, 1) := by decide +kernel
theorem dX7_sweep_32 : decode cX7_sweep 32 = .ok (.i2l, 1) := by decide +kernel
theorem dX7_sweep_33 : decode cX7_sweep 33 = .ok (.ladd, 1) := by decide +kernel
theorem dX7_sweep_34 : decode cX7_sweep 34 = .ok (.lstore 7, 2) := by decide +kernel
theorem dX7_sweep_36 : decode cX7_sweep 36 = .ok (.iinc 9 1, 3) := by decide +kernel
theorem dX7_sweep_39 : decode cX7_sweep 39 = .ok (.goto (-30), 3) := by decide +kernel
theorem dX7_sweep_42 : decode cX7_sweep 42 = .ok (.iload_n 3, 1) := by decide +kernel
theorem dX7_sweep_43 : decode cX7_sweep 43 = .ok (.istore 9, 2) := by decide +kernel
theorem dX7_sweep_45 : decode cX7_sweep 45 = .ok (.iload 9, 2) := by decide +kernel
theorem dX7_sweep_47 : decode cX7_sweep 47 = .ok (.iconst 1, 1) := by decide +kernel
theorem dX7_sweep_48 : decode cX7_sweep 48 = .ok (.iadd, 1) := by decide +kernel
theorem dX7_sweep_49 : decode cX7_sweep 49 = .ok (.iload 4, 2) := by decide +kernel
theorem dX7_sweep_51 : decode cX7_sweep 51 = .ok (.if_icmp .ge 157, 3) := by decide +kernel
theorem dX7_sweep_54 : decode cX7_sweep 54 = .ok (.aload_n 1, 1) := by decide +kernel
theorem dX7_sweep_55 : decode cX7_sweep 55 = .ok (.aload_n 0, 1) := by decide +kernel
theorem dX7_sweep_56 : decode cX7_sweep 56 = .ok (.getfield 24, 3) := by decide +kernel
theorem dX7_sweep_59 : decode cX7_sweep 59 = .ok (.iload 9, 2) := by decide +kernel
theorem dX7_sweep_61 : decode cX7_sweep 61 = .ok (.iaload, 1) := by decide +kernel
theorem dX7_sweep_62 : decode cX7_sweep 62 = .ok (.invokevirtual 81, 3) := by decide +kernel
theorem dX7_sweep_65 : decode cX7_sweep 65 = .ok (.istore 10, 2) := by decide +kernel
theorem dX7_sweep_67 : decode cX7_sweep 67 = .ok (.lload 5, 2) := by decide +kernel
theorem dX7_sweep_69 : decode cX7_sweep 69 = .ok (.iconst 2, 1) := by decide +kernel
theorem dX7_sweep_70 : decode cX7_sweep 70 = .ok (.aload_n 0, 1) := by decide +kernel
theorem dX7_sweep_71 : decode cX7_sweep 71 = .ok (.getfield 27, 3) := by decide +kernel
theorem dX7_sweep_74 : decode cX7_sweep 74 = .ok (.iload 10, 2) := by decide +kernel
theorem dX7_sweep_76 : decode cX7_sweep 76 = .ok (.iaload, 1) := by decide +kernel
theorem dX7_sweep_77 : decode cX7_sweep 77 = .ok (.imul, 1) := by decide +kernel
theorem dX7_sweep_78 : decode cX7_sweep 78 = .ok (.iconst 1, 1) := by decide +kernel
theorem dX7_sweep_79 : decode cX7_sweep 79 = .ok (.iadd, 1) := by decide +kernel
theorem dX7_sweep_80 : decode cX7_sweep 80 = .ok (.i2l, 1) := by decide +kernel
theorem dX7_sweep_81 : decode cX7_sweep 81 = .ok (.ladd, 1) := by decide +kernel
theorem dX7_sweep_82 : decode cX7_sweep 82 = .ok (.lstore 5, 2) := by decide +kernel
theorem dX7_sweep_84 : decode cX7_sweep 84 = .ok (.lload 7, 2) := by decide +kernel
theorem dX7_sweep_86 : decode cX7_sweep 86 = .ok (.iconst 2, 1) := by decide +kernel
theorem dX7_sweep_87 : decode cX7_sweep 87 = .ok (.aload_n 0, 1) := by decide +kernel
theorem dX7_sweep_88 : decode cX7_sweep 88 = .ok (.getfield 30, 3) := by decide +kernel
theorem dX7_sweep_91 : decode cX7_sweep 91 = .ok (.iload 10, 2) := by decide +kernel
theorem dX7_sweep_93 : decode cX7_sweep 93 = .ok (.iaload, 1) := by decide +kernel
theorem dX7_sweep_94 : decode cX7_sweep 94 = .ok (.imul, 1) := by decide +kernel
theorem dX7_sweep_95 : decode cX7_sweep 95 = .ok (.iconst 1, 1) := by decide +kernel
theorem dX7_sweep_96 : decode cX7_sweep 96 = .ok (.isub, 1) := by decide +kernel
theorem dX7_sweep_97 : decode cX7_sweep 97 = .ok (.i2l, 1) := by decide +kernel
theorem dX7_sweep_98 : decode cX7_sweep 98 = .ok (.lsub, 1) := by decide +kernel
theorem dX7_sweep_99 : decode cX7_sweep 99 = .ok (.lstore 7, 2) := by decide +kernel
theorem dX7_sweep_101 : decode cX7_sweep 101 = .ok (.aload_n 0, 1) := by decide +kernel
theorem dX7_sweep_102 : decode cX7_sweep 102 = .ok (.getfield 27, 3) := by decide +kernel
theorem dX7_sweep_105 : decode cX7_sweep 105 = .ok (.iload 10, 2) := by decide +kernel
theorem dX7_sweep_107 : decode cX7_sweep 107 = .ok (.dup2, 1) := by decide +kernel
theorem dX7_sweep_108 : decode cX7_sweep 108 = .ok (.iaload, 1) := by decide +kernel
theorem dX7_sweep_109 : decode cX7_sweep 109 = .ok (.iconst 1, 1) := by decide +kernel
theorem dX7_sweep_110 : decode cX7_sweep 110 = .ok (.iadd, 1) := by decide +kernel
theorem dX7_sweep_111 : decode cX7_sweep 111 = .ok (.iastore, 1) := by decide +kernel
theorem dX7_sweep_112 : decode cX7_sweep 112 = .ok (.aload_n 0, 1) := by decide +kernel
theorem dX7_sweep_113 : decode cX7_sweep 113 = .ok (.getfield 30, 3) := by decide +kernel
theorem dX7_sweep_116 : decode cX7_sweep 116 = .ok (.iload 10, 2) := by decide +kernel
theorem dX7_sweep_118 : decode cX7_sweep 118 = .ok (.dup2, 1) := by decide +kernel
theorem dX7_sweep_119 : decode cX7_sweep 119 = .ok (.iaload, 1) := by decide +kernel
theorem dX7_sweep_120 : decode cX7_sweep 120 = .ok (.iconst 1, 1) := by decide +kernel
theorem dX7_sweep_121 : decode cX7_sweep 121 = .ok (.isub, 1) := by decide +kernel
theorem dX7_sweep_122 : decode cX7_sweep 122 = .ok (.iastore, 1) := by decide +kernel
theorem dX7_sweep_123 : decode cX7_sweep 123 = .ok (.aload_n 1, 1) := by decide +kernel
theorem dX7_sweep_124 : decode cX7_sweep 124 = .ok (.aload_n 0, 1) := by decide +kernel
theorem dX7_sweep_125 : decode cX7_sweep 125 = .ok (.getfield 24, 3) := by decide +kernel
theorem dX7_sweep_128 : decode cX7_sweep 128 = .ok (.iload 9, 2) := by decide +kernel
theorem dX7_sweep_130 : decode cX7_sweep 130 = .ok (.iaload, 1) := by decide +kernel
theorem dX7_sweep_131 : decode cX7_sweep 131 = .ok (.iload_n 2, 1) := by decide +kernel
theorem dX7_sweep_132 : decode cX7_sweep 132 = .ok (.invokevirtual 92, 3) := by decide +kernel
theorem dX7_sweep_135 : decode cX7_sweep 135 = .ok (.istore 11, 2) := by decide +kernel
theorem dX7_sweep_137 : decode cX7_sweep 137 = .ok (.iload 11, 2) := by decide +kernel
theorem dX7_sweep_139 : decode cX7_sweep 139 = .ok (.aload_n 1, 1) := by decide +kernel
theorem dX7_sweep_140 : decode cX7_sweep 140 = .ok (.aload_n 0, 1) := by decide +kernel
theorem dX7_sweep_141 : decode cX7_sweep 141 = .ok (.getfield 24, 3) := by decide +kernel
theorem dX7_sweep_144 : decode cX7_sweep 144 = .ok (.iload 9, 2) := by decide +kernel
theorem dX7_sweep_146 : decode cX7_sweep 146 = .ok (.iconst 1, 1) := by decide +kernel
theorem dX7_sweep_147 : decode cX7_sweep 147 = .ok (.iadd, 1) := by decide +kernel
theorem dX7_sweep_148 : decode cX7_sweep 148 = .ok (.iaload, 1) := by decide +kernel
theorem dX7_sweep_149 : decode cX7_sweep 149 = .ok (.iload_n 2, 1) := by decide +kernel
theorem dX7_sweep_150 : decode cX7_sweep 150 = .ok (.invokevirtual 92, 3) := by decide +kernel
theorem dX7_sweep_153 : decode cX7_sweep 153 = .ok (.if_icmp .ge 49, 3) := by decide +kernel
theorem dX7_sweep_156 : decode cX7_sweep 156 = .ok (.iload 9, 2) := by decide +kernel
theorem dX7_sweep_158 : decode cX7_sweep 158 = .ok (.iconst 1, 1) := by decide +kernel
theorem dX7_sweep_159 : decode cX7_sweep 159 = .ok (.iadd, 1) := by decide +kernel
theorem dX7_sweep_160 : decode cX7_sweep 160 = .ok (.iload_n 3, 1) := by decide +kernel
theorem dX7_sweep_161 : decode cX7_sweep 161 = .ok (.isub, 1) := by decide +kernel
theorem dX7_sweep_162 : decode cX7_sweep 162 = .ok (.i2l, 1) := by decide +kernel
theorem dX7_sweep_163 : decode cX7_sweep 163 = .ok (.lstore 12, 2) := by decide +kernel
theorem dX7_sweep_165 : decode cX7_sweep 165 = .ok (.iload 4, 2) := by decide +kernel
theorem dX7_sweep_167 : decode cX7_sweep 167 = .ok (.iload 9, 2) := by decide +kernel
theorem dX7_sweep_169 : decode cX7_sweep 169 = .ok (.isub, 1) := by decide +kernel
theorem dX7_sweep_170 : decode cX7_sweep 170 = .ok (.iconst 1, 1) := by decide +kernel
theorem dX7_sweep_171 : decode cX7_sweep 171 = .ok (.isub, 1) := by decide +kernel
theorem dX7_sweep_172 : decode cX7_sweep 172 = .ok (.i2l, 1) := by decide +kernel
theorem dX7_sweep_173 : decode cX7_sweep 173 = .ok (.lstore 14, 2) := by decide +kernel
theorem dX7_sweep_175 : decode cX7_sweep 175 = .ok (.lload 5, 2) := by decide +kernel
theorem dX7_sweep_177 : decode cX7_sweep 177 = .ok (.lload 14, 2) := by decide +kernel
theorem dX7_sweep_179 : decode cX7_sweep 179 = .ok (.lmul, 1) := by decide +kernel
theorem dX7_sweep_180 : decode cX7_sweep 180 = .ok (.lload 7, 2) := by decide +kernel
theorem dX7_sweep_182 : decode cX7_sweep 182 = .ok (.lload 12, 2) := by decide +kernel
theorem dX7_sweep_184 : decode cX7_sweep 184 = .ok (.lmul, 1) := by decide +kernel
theorem dX7_sweep_185 : decode cX7_sweep 185 = .ok (.ladd, 1) := by decide +kernel
theorem dX7_sweep_186 : decode cX7_sweep 186 = .ok (.lstore 16, 2) := by decide +kernel
theorem dX7_sweep_188 : decode cX7_sweep 188 = .ok (.aload_n 0, 1) := by decide +kernel
theorem dX7_sweep_189 : decode cX7_sweep 189 = .ok (.iload_n 2, 1) := by decide +kernel
theorem dX7_sweep_190 : decode cX7_sweep 190 = .ok (.iload 11, 2) := by decide +kernel
theorem dX7_sweep_192 : decode cX7_sweep 192 = .ok (.lload 16, 2) := by decide +kernel
theorem dX7_sweep_194 : decode cX7_sweep 194 = .ok (.lload 12, 2) := by decide +kernel
theorem dX7_sweep_196 : decode cX7_sweep 196 = .ok (.lload 14, 2) := by decide +kernel
theorem dX7_sweep_198 : decode cX7_sweep 198 = .ok (.lmul, 1) := by decide +kernel
theorem dX7_sweep_199 : decode cX7_sweep 199 = .ok (.invokevirtual 96, 3) := by decide +kernel
theorem dX7_sweep_202 : decode cX7_sweep 202 = .ok (.iinc 9 1, 3) := by decide +kernel
theorem dX7_sweep_205 : decode cX7_sweep 205 = .ok (.goto (-160), 3) := by decide +kernel
theorem dX7_sweep_208 : decode cX7_sweep 208 = .ok (.return_, 1) := by decide +kernel
theorem dX7_keepBetter_0 : decode cX7_keepBetter 0 = .ok (.lload_n 3, 1) := by decide +kernel
theorem dX7_keepBetter_1 : decode cX7_keepBetter 1 = .ok (.aload_n 0, 1) := by decide +kernel
theorem dX7_keepBetter_2 : decode cX7_keepBetter 2 = .ok (.getfield 44, 3) := by decide +kernel
theorem dX7_keepBetter_5 : decode cX7_keepBetter 5 = .ok (.lmul, 1) := by decide +kernel
theorem dX7_keepBetter_6 : decode cX7_keepBetter 6 = .ok (.aload_n 0, 1) := by decide +kernel
theorem dX7_keepBetter_7 : decode cX7_keepBetter 7 = .ok (.getfield 40, 3) := by decide +kernel
theorem dX7_keepBetter_10 : decode cX7_keepBetter 10 = .ok (.lload 5, 2) := by decide +kernel
theorem dX7_keepBetter_12 : decode cX7_keepBetter 12 = .ok (.lmul, 1) := by decide +kernel
theorem dX7_keepBetter_13 : decode cX7_keepBetter 13 = .ok (.lcmp, 1) := by decide +kernel
theorem dX7_keepBetter_14 : decode cX7_keepBetter 14 = .ok (.ifCond .le 24, 3) := by decide +kernel
theorem dX7_keepBetter_17 : decode cX7_keepBetter 17 = .ok (.aload_n 0, 1) := by decide +kernel
theorem dX7_keepBetter_18 : decode cX7_keepBetter 18 = .ok (.iload_n 1, 1) := by decide +kernel
theorem dX7_keepBetter_19 : decode cX7_keepBetter 19 = .ok (.putfield 33, 3) := by decide +kernel
theorem dX7_keepBetter_22 : decode cX7_keepBetter 22 = .ok (.aload_n 0, 1) := by decide +kernel
theorem dX7_keepBetter_23 : decode cX7_keepBetter 23 = .ok (.iload_n 2, 1) := by decide +kernel
theorem dX7_keepBetter_24 : decode cX7_keepBetter 24 = .ok (.putfield 37, 3) := by decide +kernel
theorem dX7_keepBetter_27 : decode cX7_keepBetter 27 = .ok (.aload_n 0, 1) := by decide +kernel
theorem dX7_keepBetter_28 : decode cX7_keepBetter 28 = .ok (.lload_n 3, 1) := by decide +kernel
theorem dX7_keepBetter_29 : decode cX7_keepBetter 29 = .ok (.putfield 40, 3) := by decide +kernel
theorem dX7_keepBetter_32 : decode cX7_keepBetter 32 = .ok (.aload_n 0, 1) := by decide +kernel
theorem dX7_keepBetter_33 : decode cX7_keepBetter 33 = .ok (.lload 5, 2) := by decide +kernel
theorem dX7_keepBetter_35 : decode cX7_keepBetter 35 = .ok (.putfield 44, 3) := by decide +kernel
theorem dX7_keepBetter_38 : decode cX7_keepBetter 38 = .ok (.return_, 1) := by decide +kernel
theorem dX7_part_0 : decode cX7_part 0 = .ok (.aload_n 0, 1) := by decide +kernel
theorem dX7_part_1 : decode cX7_part 1 = .ok (.getfield 33, 3) := by decide +kernel
theorem dX7_part_4 : decode cX7_part 4 = .ok (.iconst 4, 1) := by decide +kernel
theorem dX7_part_5 : decode cX7_part 5 = .ok (.if_icmp .ne 4, 3) := by decide +kernel
theorem dX7_part_8 : decode cX7_part 8 = .ok (.return_, 1) := by decide +kernel
theorem dX7_part_9 : decode cX7_part 9 = .ok (.aload_n 0, 1) := by decide +kernel
theorem dX7_part_10 : decode cX7_part 10 = .ok (.aload_n 1, 1) := by decide +kernel
theorem dX7_part_11 : decode cX7_part 11 = .ok (.aload_n 0, 1) := by decide +kernel
theorem dX7_part_12 : decode cX7_part 12 = .ok (.getfield 33, 3) := by decide +kernel
theorem dX7_part_15 : decode cX7_part 15 = .ok (.aload_n 0, 1) := by decide +kernel
theorem dX7_part_16 : decode cX7_part 16 = .ok (.getfield 18, 3) := by decide +kernel
theorem dX7_part_19 : decode cX7_part 19 = .ok (.iload_n 2, 1) := by decide +kernel
theorem dX7_part_20 : decode cX7_part 20 = .ok (.iaload, 1) := by decide +kernel
theorem dX7_part_21 : decode cX7_part 21 = .ok (.aload_n 0, 1) := by decide +kernel
theorem dX7_part_22 : decode cX7_part 22 = .ok (.getfield 21, 3) := by decide +kernel
theorem dX7_part_25 : decode cX7_part 25 = .ok (.iload_n 2, 1) := by decide +kernel
theorem dX7_part_26 : decode cX7_part 26 = .ok (.iaload, 1) := by decide +kernel
theorem dX7_part_27 : decode cX7_part 27 = .ok (.invokevirtual 85, 3) := by decide +kernel
theorem dX7_part_30 : decode cX7_part 30 = .ok (.aload_n 0, 1) := by decide +kernel
theorem dX7_part_31 : decode cX7_part 31 = .ok (.getfield 18, 3) := by decide +kernel
theorem dX7_part_34 : decode cX7_part 34 = .ok (.iload_n 2, 1) := by decide +kernel
theorem dX7_part_35 : decode cX7_part 35 = .ok (.iaload, 1) := by decide +kernel
theorem dX7_part_36 : decode cX7_part 36 = .ok (.istore_n 3, 1) := by decide +kernel
theorem dX7_part_37 : decode cX7_part 37 = .ok (.iload_n 3, 1) := by decide +kernel
theorem dX7_part_38 : decode cX7_part 38 = .ok (.aload_n 0, 1) := by decide +kernel
theorem dX7_part_39 : decode cX7_part 39 = .ok (.getfield 21, 3) := by decide +kernel
theorem dX7_part_42 : decode cX7_part 42 = .ok (.iload_n 2, 1) := by decide +kernel
theorem dX7_part_43 : decode cX7_part 43 = .ok (.iaload, 1) := by decide +kernel
theorem dX7_part_44 : decode cX7_part 44 = .ok (.if_icmp .ge 30, 3) := by decide +kernel
theorem dX7_part_47 : decode cX7_part 47 = .ok (.aload_n 1, 1) := by decide +kernel
theorem dX7_part_48 : decode cX7_part 48 = .ok (.aload_n 0, 1) := by decide +kernel
theorem dX7_part_49 : decode cX7_part 49 = .ok (.getfield 24, 3) := by decide +kernel
theorem dX7_part_52 : decode cX7_part 52 = .ok (.iload_n 3, 1) := by decide +kernel
theorem dX7_part_53 : decode cX7_part 53 = .ok (.iaload, 1) := by decide +kernel
theorem dX7_part_54 : decode cX7_part 54 = .ok (.aload_n 0, 1) := by decide +kernel
theorem dX7_part_55 : decode cX7_part 55 = .ok (.getfield 33, 3) := by decide +kernel
theorem dX7_part_58 : decode cX7_part 58 = .ok (.invokevirtual 92, 3) := by decide +kernel
theorem dX7_part_61 : decode cX7_part 61 = .ok (.aload_n 0, 1) := by decide +kernel
theorem dX7_part_62 : decode cX7_part 62 = .ok (.getfield 37, 3) := by decide +kernel
theorem dX7_part_65 : decode cX7_part 65 = .ok (.if_icmp .gt 9, 3) := by decide +kernel
theorem dX7_part_68 : decode cX7_part 68 = .ok (.iinc 3 1, 3) := by decide +kernel
theorem dX7_part_71 : decode cX7_part 71 = .ok (.goto (-34), 3) := by decide +kernel
theorem dX7_part_74 : decode cX7_part 74 = .ok (.aload_n 0, 1) := by decide +kernel
theorem dX7_part_75 : decode cX7_part 75 = .ok (.getfield 9, 3) := by decide +kernel
theorem dX7_part_78 : decode cX7_part 78 = .ok (.iload_n 2, 1) := by decide +kernel
theorem dX7_part_79 : decode cX7_part 79 = .ok (.aload_n 0, 1) := by decide +kernel
theorem dX7_part_80 : decode cX7_part 80 = .ok (.getfield 33, 3) := by decide +kernel
theorem dX7_part_83 : decode cX7_part 83 = .ok (.iastore, 1) := by decide +kernel
theorem dX7_part_84 : decode cX7_part 84 = .ok (.aload_n 0, 1) := by decide +kernel
theorem dX7_part_85 : decode cX7_part 85 = .ok (.getfield 15, 3) := by decide +kernel
theorem dX7_part_88 : decode cX7_part 88 = .ok (.iload_n 2, 1) := by decide +kernel
theorem dX7_part_89 : decode cX7_part 89 = .ok (.aload_n 0, 1) := by decide +kernel
theorem dX7_part_90 : decode cX7_part 90 = .ok (.getfield 37, 3) := by decide +kernel
theorem dX7_part_93 : decode cX7_part 93 = .ok (.iastore, 1) := by decide +kernel
theorem dX7_part_94 : decode cX7_part 94 = .ok (.aload_n 0, 1) := by decide +kernel
theorem dX7_part_95 : decode cX7_part 95 = .ok (.iconst 2, 1) := by decide +kernel
theorem dX7_part_96 : decode cX7_part 96 = .ok (.iload_n 2, 1) := by decide +kernel
theorem dX7_part_97 : decode cX7_part 97 = .ok (.imul, 1) := by decide +kernel
theorem dX7_part_98 : decode cX7_part 98 = .ok (.iconst 1, 1) := by decide +kernel
theorem dX7_part_99 : decode cX7_part 99 = .ok (.iadd, 1) := by decide +kernel
theorem dX7_part_100 : decode cX7_part 100 = .ok (.aload_n 0, 1) := by decide +kernel
theorem dX7_part_101 : decode cX7_part 101 = .ok (.getfield 18, 3) := by decide +kernel
theorem dX7_part_104 : decode cX7_part 104 = .ok (.iload_n 2, 1) := by decide +kernel
theorem dX7_part_105 : decode cX7_part 105 = .ok (.iaload, 1) := by decide +kernel
theorem dX7_part_106 : decode cX7_part 106 = .ok (.iload_n 3, 1) := by decide +kernel
theorem dX7_part_107 : decode cX7_part 107 = .ok (.invokevirtual 59, 3) := by decide +kernel
theorem dX7_part_110 : decode cX7_part 110 = .ok (.aload_n 0, 1) := by decide +kernel
theorem dX7_part_111 : decode cX7_part 111 = .ok (.iconst 2, 1) := by decide +kernel
theorem dX7_part_112 : decode cX7_part 112 = .ok (.iload_n 2, 1) := by decide +kernel
theorem dX7_part_113 : decode cX7_part 113 = .ok (.imul, 1) := by decide +kernel
theorem dX7_part_114 : decode cX7_part 114 = .ok (.iconst 2, 1) := by decide +kernel
theorem dX7_part_115 : decode cX7_part 115 = .ok (.iadd, 1) := by decide +kernel
theorem dX7_part_116 : decode cX7_part 116 = .ok (.iload_n 3, 1) := by decide +kernel
theorem dX7_part_117 : decode cX7_part 117 = .ok (.aload_n 0, 1) := by decide +kernel
theorem dX7_part_118 : decode cX7_part 118 = .ok (.getfield 21, 3) := by decide +kernel
theorem dX7_part_121 : decode cX7_part 121 = .ok (.iload_n 2, 1) := by decide +kernel
theorem dX7_part_122 : decode cX7_part 122 = .ok (.iaload, 1) := by decide +kernel
theorem dX7_part_123 : decode cX7_part 123 = .ok (.invokevirtual 59, 3) := by decide +kernel
theorem dX7_part_126 : decode cX7_part 126 = .ok (.return_, 1) := by decide +kernel
theorem dX7_tell_0 : decode cX7_tell 0 = .ok (.aload_n 0, 1) := by decide +kernel
theorem dX7_tell_1 : decode cX7_tell 1 = .ok (.getfield 9, 3) := by decide +kernel
theorem dX7_tell_4 : decode cX7_tell 4 = .ok (.iload_n 1, 1) := by decide +kernel
theorem dX7_tell_5 : decode cX7_tell 5 = .ok (.iaload, 1) := by decide +kernel
theorem dX7_tell_6 : decode cX7_tell 6 = .ok (.iconst (-1), 1) := by decide +kernel
theorem dX7_tell_7 : decode cX7_tell 7 = .ok (.if_icmp .ne 7, 3) := by decide +kernel
theorem dX7_tell_10 : decode cX7_tell 10 = .ok (.sipush (-2000), 3) := by decide +kernel
theorem dX7_tell_13 : decode cX7_tell 13 = .ok (.ireturn, 1) := by decide +kernel
theorem dX7_tell_14 : decode cX7_tell 14 = .ok (.iload_n 2, 1) := by decide +kernel
theorem dX7_tell_15 : decode cX7_tell 15 = .ok (.iconst 2, 1) := by decide +kernel
theorem dX7_tell_16 : decode cX7_tell 16 = .ok (.if_icmp .ne 17, 3) := by decide +kernel
theorem dX7_tell_19 : decode cX7_tell 19 = .ok (.aload_n 0, 1) := by decide +kernel
theorem dX7_tell_20 : decode cX7_tell 20 = .ok (.getfield 21, 3) := by decide +kernel
theorem dX7_tell_23 : decode cX7_tell 23 = .ok (.iload_n 1, 1) := by decide +kernel
theorem dX7_tell_24 : decode cX7_tell 24 = .ok (.iaload, 1) := by decide +kernel
theorem dX7_tell_25 : decode cX7_tell 25 = .ok (.aload_n 0, 1) := by decide +kernel
theorem dX7_tell_26 : decode cX7_tell 26 = .ok (.getfield 18, 3) := by decide +kernel
theorem dX7_tell_29 : decode cX7_tell 29 = .ok (.iload_n 1, 1) := by decide +kernel
theorem dX7_tell_30 : decode cX7_tell 30 = .ok (.iaload, 1) := by decide +kernel
theorem dX7_tell_31 : decode cX7_tell 31 = .ok (.isub, 1) := by decide +kernel
theorem dX7_tell_32 : decode cX7_tell 32 = .ok (.ireturn, 1) := by decide +kernel
theorem dX7_tell_33 : decode cX7_tell 33 = .ok (.iload_n 2, 1) := by decide +kernel
theorem dX7_tell_34 : decode cX7_tell 34 = .ok (.ifCond .ne 12, 3) := by decide +kernel
theorem dX7_tell_37 : decode cX7_tell 37 = .ok (.aload_n 0, 1) := by decide +kernel
theorem dX7_tell_38 : decode cX7_tell 38 = .ok (.getfield 9, 3) := by decide +kernel
theorem dX7_tell_41 : decode cX7_tell 41 = .ok (.iload_n 1, 1) := by decide +kernel
theorem dX7_tell_42 : decode cX7_tell 42 = .ok (.iaload, 1) := by decide +kernel
theorem dX7_tell_43 : decode cX7_tell 43 = .ok (.goto 9, 3) := by decide +kernel
theorem dX7_tell_46 : decode cX7_tell 46 = .ok (.aload_n 0, 1) := by decide +kernel
theorem dX7_tell_47 : decode cX7_tell 47 = .ok (.getfield 15, 3) := by decide +kernel
theorem dX7_tell_50 : decode cX7_tell 50 = .ok (.iload_n 1, 1) := by decide +kernel
theorem dX7_tell_51 : decode cX7_tell 51 = .ok (.iaload, 1) := by decide +kernel
theorem dX7_tell_52 : decode cX7_tell 52 = .ok (.ireturn, 1) := by decide +kernel
theorem dX7_classAt_0 : decode cX7_classAt 0 = .ok (.iconst 0, 1) := by decide +kernel
theorem dX7_classAt_1 : decode cX7_classAt 1 = .ok (.istore 4, 2) := by decide +kernel
theorem dX7_classAt_3 : decode cX7_classAt 3 = .ok (.iconst 0, 1) := by decide +kernel
theorem dX7_classAt_4 : decode cX7_classAt 4 = .ok (.istore 5, 2) := by decide +kernel
theorem dX7_classAt_6 : decode cX7_classAt 6 = .ok (.iload 5, 2) := by decide +kernel
theorem dX7_classAt_8 : decode cX7_classAt 8 = .ok (.iconst 3, 1) := by decide +kernel
theorem dX7_classAt_9 : decode cX7_classAt 9 = .ok (.if_icmp .ge 55, 3) := by decide +kernel
theorem dX7_classAt_12 : decode cX7_classAt 12 = .ok (.aload_n 0, 1) := by decide +kernel
theorem dX7_classAt_13 : decode cX7_classAt 13 = .ok (.getfield 9, 3) := by decide +kernel
theorem dX7_classAt_16 : decode cX7_classAt 16 = .ok (.iload 4, 2) := by decide +kernel
theorem dX7_classAt_18 : decode cX7_classAt 18 = .ok (.iaload, 1) := by decide +kernel
theorem dX7_classAt_19 : decode cX7_classAt 19 = .ok (.iconst 4, 1) := by decide +kernel
theorem dX7_classAt_20 : decode cX7_classAt 20 = .ok (.if_icmp .eq 44, 3) := by decide +kernel
theorem dX7_classAt_23 : decode cX7_classAt 23 = .ok (.iconst 2, 1) := by decide +kernel
theorem dX7_classAt_24 : decode cX7_classAt 24 = .ok (.iload 4, 2) := by decide +kernel
theorem dX7_classAt_26 : decode cX7_classAt 26 = .ok (.imul, 1) := by decide +kernel
theorem dX7_classAt_27 : decode cX7_classAt 27 = .ok (.aload_n 1, 1) := by decide +kernel
theorem dX7_classAt_28 : decode cX7_classAt 28 = .ok (.iload_n 2, 1) := by decide +kernel
theorem dX7_classAt_29 : decode cX7_classAt 29 = .ok (.iload_n 3, 1) := by decide +kernel
theorem dX7_classAt_30 : decode cX7_classAt 30 = .ok (.aload_n 0, 1) := by decide +kernel
theorem dX7_classAt_31 : decode cX7_classAt 31 = .ok (.getfield 9, 3) := by decide +kernel
theorem dX7_classAt_34 : decode cX7_classAt 34 = .ok (.iload 4, 2) := by decide +kernel
theorem dX7_classAt_36 : decode cX7_classAt 36 = .ok (.iaload, 1) := by decide +kernel
theorem dX7_classAt_37 : decode cX7_classAt 37 = .ok (.invokevirtual 100, 3) := by decide +kernel
theorem dX7_classAt_40 : decode cX7_classAt 40 = .ok (.aload_n 0, 1) := by decide +kernel
theorem dX7_classAt_41 : decode cX7_classAt 41 = .ok (.getfield 15, 3) := by decide +kernel
theorem dX7_classAt_44 : decode cX7_classAt 44 = .ok (.iload 4, 2) := by decide +kernel
theorem dX7_classAt_46 : decode cX7_classAt 46 = .ok (.iaload, 1) := by decide +kernel
theorem dX7_classAt_47 : decode cX7_classAt 47 = .ok (.if_icmp .gt 7, 3) := by decide +kernel
theorem dX7_classAt_50 : decode cX7_classAt 50 = .ok (.iconst 1, 1) := by decide +kernel
theorem dX7_classAt_51 : decode cX7_classAt 51 = .ok (.goto 4, 3) := by decide +kernel
theorem dX7_classAt_54 : decode cX7_classAt 54 = .ok (.iconst 2, 1) := by decide +kernel
theorem dX7_classAt_55 : decode cX7_classAt 55 = .ok (.iadd, 1) := by decide +kernel
theorem dX7_classAt_56 : decode cX7_classAt 56 = .ok (.istore 4, 2) := by decide +kernel
theorem dX7_classAt_58 : decode cX7_classAt 58 = .ok (.iinc 5 1, 3) := by decide +kernel
theorem dX7_classAt_61 : decode cX7_classAt 61 = .ok (.goto (-55), 3) := by decide +kernel
theorem dX7_classAt_64 : decode cX7_classAt 64 = .ok (.aload_n 0, 1) := by decide +kernel
theorem dX7_classAt_65 : decode cX7_classAt 65 = .ok (.getfield 15, 3) := by decide +kernel
theorem dX7_classAt_68 : decode cX7_classAt 68 = .ok (.iload 4, 2) := by decide +kernel
theorem dX7_classAt_70 : decode cX7_classAt 70 = .ok (.iaload, 1) := by decide +kernel
theorem dX7_classAt_71 : decode cX7_classAt 71 = .ok (.ireturn, 1) := by decide +kernel
theorem dX8_init_0 : decode cX8_init 0 = .ok (.aload_n 0, 1) := by decide +kernel
theorem dX8_init_1 : decode cX8_init 1 = .ok (.invokespecial 1, 3) := by decide +kernel
theorem dX8_init_4 : decode cX8_init 4 = .ok (.new 7, 3) := by decide +kernel
theorem dX8_init_7 : decode cX8_init 7 = .ok (.dup, 1) := by decide +kernel
theorem dX8_init_8 : decode cX8_init 8 = .ok (.invokespecial 9, 3) := by decide +kernel
theorem dX8_init_11 : decode cX8_init 11 = .ok (.astore_n 1, 1) := by decide +kernel
theorem dX8_init_12 : decode cX8_init 12 = .ok (.new 10, 3) := by decide +kernel
theorem dX8_init_15 : decode cX8_init 15 = .ok (.dup, 1) := by decide +kernel
theorem dX8_init_16 : decode cX8_init 16 = .ok (.aload_n 1, 1) := by decide +kernel
theorem dX8_init_17 : decode cX8_init 17 = .ok (.invokespecial 12, 3) := by decide +kernel
theorem dX8_init_20 : decode cX8_init 20 = .ok (.astore_n 2, 1) := by decide +kernel
theorem dX8_init_21 : decode cX8_init 21 = .ok (.new 15, 3) := by decide +kernel
theorem dX8_init_24 : decode cX8_init 24 = .ok (.dup, 1) := by decide +kernel
theorem dX8_init_25 : decode cX8_init 25 = .ok (.invokespecial 17, 3) := by decide +kernel
theorem dX8_init_28 : decode cX8_init 28 = .ok (.astore_n 3, 1) := by decide +kernel
theorem dX8_init_29 : decode cX8_init 29 = .ok (.aload_n 0, 1) := by decide +kernel
theorem dX8_init_30 : decode cX8_init 30 = .ok (.aload_n 1, 1) := by decide +kernel
theorem dX8_init_31 : decode cX8_init 31 = .ok (.putfield 18, 3) := by decide +kernel
theorem dX8_init_34 : decode cX8_init 34 = .ok (.aload_n 0, 1) := by decide +kernel
theorem dX8_init_35 : decode cX8_init 35 = .ok (.aload_n 2, 1) := by decide +kernel
theorem dX8_init_36 : decode cX8_init 36 = .ok (.putfield 24, 3) := by decide +kernel
theorem dX8_init_39 : decode cX8_init 39 = .ok (.aload_n 0, 1) := by decide +kernel
theorem dX8_init_40 : decode cX8_init 40 = .ok (.aload_n 3, 1) := by decide +kernel
theorem dX8_init_41 : decode cX8_init 41 = .ok (.putfield 28, 3) := by decide +kernel
theorem dX8_init_44 : decode cX8_init 44 = .ok (.aload_n 0, 1) := by decide +kernel
theorem dX8_init_45 : decode cX8_init 45 = .ok (.new 32, 3) := by decide +kernel
theorem dX8_init_48 : decode cX8_init 48 = .ok (.dup, 1) := by decide +kernel
theorem dX8_init_49 : decode cX8_init 49 = .ok (.aload_n 2, 1) := by decide +kernel
theorem dX8_init_50 : decode cX8_init 50 = .ok (.aload_n 3, 1) := by decide +kernel
theorem dX8_init_51 : decode cX8_init 51 = .ok (.invokespecial 34, 3) := by decide +kernel
theorem dX8_init_54 : decode cX8_init 54 = .ok (.putfield 37, 3) := by decide +kernel
theorem dX8_init_57 : decode cX8_init 57 = .ok (.aload_n 0, 1) := by decide +kernel
theorem dX8_init_58 : decode cX8_init 58 = .ok (.new 41, 3) := by decide +kernel
theorem dX8_init_61 : decode cX8_init 61 = .ok (.dup, 1) := by decide +kernel
theorem dX8_init_62 : decode cX8_init 62 = .ok (.invokespecial 43, 3) := by decide +kernel
theorem dX8_init_65 : decode cX8_init 65 = .ok (.putfield 44, 3) := by decide +kernel
theorem dX8_init_68 : decode cX8_init 68 = .ok (.aload_n 0, 1) := by decide +kernel
theorem dX8_init_69 : decode cX8_init 69 = .ok (.new 48, 3) := by decide +kernel
theorem dX8_init_72 : decode cX8_init 72 = .ok (.dup, 1) := by decide +kernel
theorem dX8_init_73 : decode cX8_init 73 = .ok (.invokespecial 50, 3) := by decide +kernel
theorem dX8_init_76 : decode cX8_init 76 = .ok (.putfield 51, 3) := by decide +kernel
theorem dX8_init_79 : decode cX8_init 79 = .ok (.aload_n 0, 1) := by decide +kernel
theorem dX8_init_80 : decode cX8_init 80 = .ok (.new 55, 3) := by decide +kernel
theorem dX8_init_83 : decode cX8_init 83 = .ok (.dup, 1) := by decide +kernel
theorem dX8_init_84 : decode cX8_init 84 = .ok (.invokespecial 57, 3) := by decide +kernel
theorem dX8_init_87 : decode cX8_init 87 = .ok (.putfield 58, 3) := by decide +kernel
theorem dX8_init_90 : decode cX8_init 90 = .ok (.return_, 1) := by decide +kernel
theorem dX8_reel_0 : decode cX8_reel 0 = .ok (.iload_n 1, 1) := by decide +kernel
theorem dX8_reel_1 : decode cX8_reel 1 = .ok (.invokestatic 62, 3) := by decide +kernel
theorem dX8_reel_4 : decode cX8_reel 4 = .ok (.ifCond .eq 16, 3) := by decide +kernel
theorem dX8_reel_7 : decode cX8_reel 7 = .ok (.iload_n 2, 1) := by decide +kernel
theorem dX8_reel_8 : decode cX8_reel 8 = .ok (.invokestatic 66, 3) := by decide +kernel
theorem dX8_reel_11 : decode cX8_reel 11 = .ok (.ifCond .eq 9, 3) := by decide +kernel
theorem dX8_reel_14 : decode cX8_reel 14 = .ok (.iload_n 3, 1) := by decide +kernel
theorem dX8_reel_15 : decode cX8_reel 15 = .ok (.bipush 64, 2) := by decide +kernel
theorem dX8_reel_17 : decode cX8_reel 17 = .ok (.if_icmp .le 7, 3) := by decide +kernel
theorem dX8_reel_20 : decode cX8_reel 20 = .ok (.sipush (-2000), 3) := by decide +kernel
theorem dX8_reel_23 : decode cX8_reel 23 = .ok (.ireturn, 1) := by decide +kernel
theorem dX8_reel_24 : decode cX8_reel 24 = .ok (.iload_n 3, 1) := by decide +kernel
theorem dX8_reel_25 : decode cX8_reel 25 = .ok (.ifCond .ge 12, 3) := by decide +kernel
theorem dX8_reel_28 : decode cX8_reel 28 = .ok (.aload_n 0, 1) := by decide +kernel
theorem dX8_reel_29 : decode cX8_reel 29 = .ok (.getfield 18, 3) := by decide +kernel
theorem dX8_reel_32 : decode cX8_reel 32 = .ok (.iconst 5, 1) := by decide +kernel
theorem dX8_reel_33 : decode cX8_reel 33 = .ok (.invokevirtual 69, 3) := by decide +kernel
theorem dX8_reel_36 : decode cX8_reel 36 = .ok (.ireturn, 1) := by decide +kernel
theorem dX8_reel_37 : decode cX8_reel 37 = .ok (.aload_n 0, 1) := by decide +kernel
theorem dX8_reel_38 : decode cX8_reel 38 = .ok (.getfield 18, 3) := by decide +kernel
theorem dX8_reel_41 : decode cX8_reel 41 = .ok (.iload_n 1, 1) := by decide +kernel
theorem dX8_reel_42 : decode cX8_reel 42 = .ok (.iload_n 2, 1) := by decide +kernel
theorem dX8_reel_43 : decode cX8_reel 43 = .ok (.iload_n 3, 1) := by decide +kernel
theorem dX8_reel_44 : decode cX8_reel 44 = .ok (.invokevirtual 73, 3) := by decide +kernel
theorem dX8_reel_47 : decode cX8_reel 47 = .ok (.aload_n 0, 1) := by decide +kernel
theorem dX8_reel_48 : decode cX8_reel 48 = .ok (.getfield 37, 3) := by decide +kernel
theorem dX8_reel_51 : decode cX8_reel 51 = .ok (.invokevirtual 77, 3) := by decide +kernel
theorem dX8_reel_54 : decode cX8_reel 54 = .ok (.iload_n 3, 1) := by decide +kernel
theorem dX8_reel_55 : decode cX8_reel 55 = .ok (.ireturn, 1) := by decide +kernel
theorem dX8_lose_0 : decode cX8_lose 0 = .ok (.iload_n 1, 1) := by decide +kernel
theorem dX8_lose_1 : decode cX8_lose 1 = .ok (.invokestatic 62, 3) := by decide +kernel
theorem dX8_lose_4 : decode cX8_lose 4 = .ok (.ifCond .ne 7, 3) := by decide +kernel
theorem dX8_lose_7 : decode cX8_lose 7 = .ok (.sipush (-2000), 3) := by decide +kernel
theorem dX8_lose_10 : decode cX8_lose 10 = .ok (.ireturn, 1) := by decide +kernel
theorem dX8_lose_11 : decode cX8_lose 11 = .ok (.aload_n 0, 1) := by decide +kernel
theorem dX8_lose_12 : decode cX8_lose 12 = .ok (.getfield 18, 3) := by decide +kernel
theorem dX8_lose_15 : decode cX8_lose 15 = .ok (.iload_n 1, 1) := by decide +kernel
theorem dX8_lose_16 : decode cX8_lose 16 = .ok (.invokevirtual 80, 3) := by decide +kernel
theorem dX8_lose_19 : decode cX8_lose 19 = .ok (.ifCond .eq 12, 3) := by decide +kernel
theorem dX8_lose_22 : decode cX8_lose 22 = .ok (.aload_n 0, 1) := by decide +kernel
theorem dX8_lose_23 : decode cX8_lose 23 = .ok (.getfield 18, 3) := by decide +kernel
theorem dX8_lose_26 : decode cX8_lose 26 = .ok (.iconst 1, 1) := by decide +kernel
theorem dX8_lose_27 : decode cX8_lose 27 = .ok (.invokevirtual 69, 3) := by decide +kernel
theorem dX8_lose_30 : decode cX8_lose 30 = .ok (.ireturn, 1) := by decide +kernel
theorem dX8_lose_31 : decode cX8_lose 31 = .ok (.aload_n 0, 1) := by decide +kernel
theorem dX8_lose_32 : decode cX8_lose 32 = .ok (.getfield 18, 3) := by decide +kernel
theorem dX8_lose_35 : decode cX8_lose 35 = .ok (.iload_n 1, 1) := by decide +kernel
theorem dX8_lose_36 : decode cX8_lose 36 = .ok (.invokevirtual 83, 3) := by decide +kernel
theorem dX8_lose_39 : decode cX8_lose 39 = .ok (.istore_n 2, 1) := by decide +kernel
theorem dX8_lose_40 : decode cX8_lose 40 = .ok (.aload_n 0, 1) := by decide +kernel
theorem dX8_lose_41 : decode cX8_lose 41 = .ok (.getfield 18, 3) := by decide +kernel
theorem dX8_lose_44 : decode cX8_lose 44 = .ok (.iload_n 1, 1) := by decide +kernel
theorem dX8_lose_45 : decode cX8_lose 45 = .ok (.invokevirtual 86, 3) := by decide +kernel
theorem dX8_lose_48 : decode cX8_lose 48 = .ok (.aload_n 0, 1) := by decide +kernel
theorem dX8_lose_49 : decode cX8_lose 49 = .ok (.getfield 37, 3) := by decide +kernel
theorem dX8_lose_52 : decode cX8_lose 52 = .ok (.invokevirtual 77, 3) := by decide +kernel
theorem dX8_lose_55 : decode cX8_lose 55 = .ok (.iload_n 2, 1) := by decide +kernel
theorem dX8_lose_56 : decode cX8_lose 56 = .ok (.ireturn, 1) := by decide +kernel
theorem dX8_put_0 : decode cX8_put 0 = .ok (.iload_n 1, 1) := by decide +kernel
theorem dX8_put_1 : decode cX8_put 1 = .ok (.invokestatic 62, 3) := by decide +kernel
theorem dX8_put_4 : decode cX8_put 4 = .ok (.ifCond .eq 10, 3) := by decide +kernel
theorem dX8_put_7 : decode cX8_put 7 = .ok (.iload_n 2, 1) := by decide +kernel
theorem dX8_put_8 : decode cX8_put 8 = .ok (.invokestatic 66, 3) := by decide +kernel
theorem dX8_put_11 : decode cX8_put 11 = .ok (.ifCond .ne 7, 3) := by decide +kernel
theorem dX8_put_14 : decode cX8_put 14 = .ok (.sipush (-2000), 3) := by decide +kernel
theorem dX8_put_17 : decode cX8_put 17 = .ok (.ireturn, 1) := by decide +kernel
theorem dX8_put_18 : decode cX8_put 18 = .ok (.aload_n 0, 1) := by decide +kernel
theorem dX8_put_19 : decode cX8_put 19 = .ok (.getfield 18, 3) := by decide +kernel
theorem dX8_put_22 : decode cX8_put 22 = .ok (.iload_n 1, 1) := by decide +kernel
theorem dX8_put_23 : decode cX8_put 23 = .ok (.iload_n 2, 1) := by decide +kernel
theorem dX8_put_24 : decode cX8_put 24 = .ok (.iload_n 3, 1) := by decide +kernel
theorem dX8_put_25 : decode cX8_put 25 = .ok (.invokevirtual 90, 3) := by decide +kernel
theorem dX8_put_28 : decode cX8_put 28 = .ok (.istore 5, 2) := by decide +kernel
theorem dX8_put_30 : decode cX8_put 30 = .ok (.iload 5, 2) := by decide +kernel
theorem dX8_put_32 : decode cX8_put 32 = .ok (.ifCond .eq 13, 3) := by decide +kernel
theorem dX8_put_35 : decode cX8_put 35 = .ok (.aload_n 0, 1) := by decide +kernel
theorem dX8_put_36 : decode cX8_put 36 = .ok (.getfield 18, 3) := by decide +kernel
theorem dX8_put_39 : decode cX8_put 39 = .ok (.iload 5, 2) := by decide +kernel
theorem dX8_put_41 : decode cX8_put 41 = .ok (.invokevirtual 69, 3) := by decide +kernel
theorem dX8_put_44 : decode cX8_put 44 = .ok (.ireturn, 1) := by decide +kernel
theorem dX8_put_45 : decode cX8_put 45 = .ok (.aload_n 0, 1) := by decide +kernel
theorem dX8_put_46 : decode cX8_put 46 = .ok (.getfield 18, 3) := by decide +kernel
theorem dX8_put_49 : decode cX8_put 49 = .ok (.iload_n 1, 1) := by decide +kernel
theorem dX8_put_50 : decode cX8_put 50 = .ok (.iload_n 3, 1) := by decide +kernel
theorem dX8_put_51 : decode cX8_put 51 = .ok (.iload_n 3, 1) := by decide +kernel
theorem dX8_put_52 : decode cX8_put 52 = .ok (.iload 4, 2) := by decide +kernel
theorem dX8_put_54 : decode cX8_put 54 = .ok (.invokevirtual 94, 3) := by decide +kernel
theorem dX8_put_57 : decode cX8_put 57 = .ok (.aload_n 0, 1) := by decide +kernel
theorem dX8_put_58 : decode cX8_put 58 = .ok (.getfield 37, 3) := by decide +kernel
theorem dX8_put_61 : decode cX8_put 61 = .ok (.invokevirtual 77, 3) := by decide +kernel
theorem dX8_put_64 : decode cX8_put 64 = .ok (.iconst 1, 1) := by decide +kernel
theorem dX8_put_65 : decode cX8_put 65 = .ok (.ireturn, 1) := by decide +kernel
theorem dX8_get_0 : decode cX8_get 0 = .ok (.iload_n 1, 1) := by decide +kernel
theorem dX8_get_1 : decode cX8_get 1 = .ok (.invokestatic 62, 3) := by decide +kernel
theorem dX8_get_4 : decode cX8_get 4 = .ok (.ifCond .eq 10, 3) := by decide +kernel
theorem dX8_get_7 : decode cX8_get 7 = .ok (.iload_n 2, 1) := by decide +kernel
theorem dX8_get_8 : decode cX8_get 8 = .ok (.invokestatic 66, 3) := by decide +kernel
theorem dX8_get_11 : decode cX8_get 11 = .ok (.ifCond .ne 6, 3) := by decide +kernel
theorem dX8_get_14 : decode cX8_get 14 = .ok (.ldc 98, 2) := by decide +kernel
theorem dX8_get_16 : decode cX8_get 16 = .ok (.ireturn, 1) := by decide +kernel
theorem dX8_get_17 : decode cX8_get 17 = .ok (.aload_n 0, 1) := by decide +kernel
theorem dX8_get_18 : decode cX8_get 18 = .ok (.getfield 18, 3) := by decide +kernel
theorem dX8_get_21 : decode cX8_get 21 = .ok (.iload_n 1, 1) := by decide +kernel
theorem dX8_get_22 : decode cX8_get 22 = .ok (.iload_n 2, 1) := by decide +kernel
theorem dX8_get_23 : decode cX8_get 23 = .ok (.iload_n 3, 1) := by decide +kernel
theorem dX8_get_24 : decode cX8_get 24 = .ok (.invokevirtual 90, 3) := by decide +kernel
theorem dX8_get_27 : decode cX8_get 27 = .ok (.istore 4, 2) := by decide +kernel
theorem dX8_get_29 : decode cX8_get 29 = .ok (.iload 4, 2) := by decide +kernel
theorem dX8_get_31 : decode cX8_get 31 = .ok (.ifCond .eq 16, 3) := by decide +kernel
theorem dX8_get_34 : decode cX8_get 34 = .ok (.aload_n 0, 1) := by decide +kernel
theorem dX8_get_35 : decode cX8_get 35 = .ok (.getfield 18, 3) := by decide +kernel
theorem dX8_get_38 : decode cX8_get 38 = .ok (.iload 4, 2) := by decide +kernel
theorem dX8_get_40 : decode cX8_get 40 = .ok (.invokevirtual 69, 3) := by decide +kernel
theorem dX8_get_43 : decode cX8_get 43 = .ok (.pop, 1) := by decide +kernel
theorem dX8_get_44 : decode cX8_get 44 = .ok (.ldc 98, 2) := by decide +kernel
theorem dX8_get_46 : decode cX8_get 46 = .ok (.ireturn, 1) := by decide +kernel
theorem dX8_get_47 : decode cX8_get 47 = .ok (.aload_n 0, 1) := by decide +kernel
theorem dX8_get_48 : decode cX8_get 48 = .ok (.getfield 18, 3) := by decide +kernel
theorem dX8_get_51 : decode cX8_get 51 = .ok (.iload_n 1, 1) := by decide +kernel
theorem dX8_get_52 : decode cX8_get 52 = .ok (.iload_n 3, 1) := by decide +kernel
theorem dX8_get_53 : decode cX8_get 53 = .ok (.invokevirtual 99, 3) := by decide +kernel
theorem dX8_get_56 : decode cX8_get 56 = .ok (.ireturn, 1) := by decide +kernel
theorem dX8_copy_0 : decode cX8_copy 0 = .ok (.iload_n 1, 1) := by decide +kernel
theorem dX8_copy_1 : decode cX8_copy 1 = .ok (.invokestatic 62, 3) := by decide +kernel
theorem dX8_copy_4 : decode cX8_copy 4 = .ok (.ifCond .eq 10, 3) := by decide +kernel
theorem dX8_copy_7 : decode cX8_copy 7 = .ok (.iload_n 3, 1) := by decide +kernel
theorem dX8_copy_8 : decode cX8_copy 8 = .ok (.invokestatic 62, 3) := by decide +kernel
theorem dX8_copy_11 : decode cX8_copy 11 = .ok (.ifCond .ne 7, 3) := by decide +kernel
theorem dX8_copy_14 : decode cX8_copy 14 = .ok (.sipush (-2000), 3) := by decide +kernel
theorem dX8_copy_17 : decode cX8_copy 17 = .ok (.ireturn, 1) := by decide +kernel
theorem dX8_copy_18 : decode cX8_copy 18 = .ok (.aload_n 0, 1) := by decide +kernel
theorem dX8_copy_19 : decode cX8_copy 19 = .ok (.getfield 18, 3) := by decide +kernel
theorem dX8_copy_22 : decode cX8_copy 22 = .ok (.iload_n 1, 1) := by decide +kernel
theorem dX8_copy_23 : decode cX8_copy 23 = .ok (.iload_n 2, 1) := by decide +kernel
theorem dX8_copy_24 : decode cX8_copy 24 = .ok (.iload_n 3, 1) := by decide +kernel
theorem dX8_copy_25 : decode cX8_copy 25 = .ok (.iload 4, 2) := by decide +kernel
theorem dX8_copy_27 : decode cX8_copy 27 = .ok (.iload 5, 2) := by decide +kernel
theorem dX8_copy_29 : decode cX8_copy 29 = .ok (.invokevirtual 103, 3) := by decide +kernel
theorem dX8_copy_32 : decode cX8_copy 32 = .ok (.istore 6, 2) := by decide +kernel
theorem dX8_copy_34 : decode cX8_copy 34 = .ok (.iload 6, 2) := by decide +kernel
theorem dX8_copy_36 : decode cX8_copy 36 = .ok (.ifCond .eq 13, 3) := by decide +kernel
theorem dX8_copy_39 : decode cX8_copy 39 = .ok (.aload_n 0, 1) := by decide +kernel
theorem dX8_copy_40 : decode cX8_copy 40 = .ok (.getfield 18, 3) := by decide +kernel
theorem dX8_copy_43 : decode cX8_copy 43 = .ok (.iload 6, 2) := by decide +kernel
theorem dX8_copy_45 : decode cX8_copy 45 = .ok (.invokevirtual 69, 3) := by decide +kernel
theorem dX8_copy_48 : decode cX8_copy 48 = .ok (.ireturn, 1) := by decide +kernel
theorem dX8_copy_49 : decode cX8_copy 49 = .ok (.aload_n 0, 1) := by decide +kernel
theorem dX8_copy_50 : decode cX8_copy 50 = .ok (.getfield 18, 3) := by decide +kernel
theorem dX8_copy_53 : decode cX8_copy 53 = .ok (.iload_n 1, 1) := by decide +kernel
theorem dX8_copy_54 : decode cX8_copy 54 = .ok (.iload_n 2, 1) := by decide +kernel
theorem dX8_copy_55 : decode cX8_copy 55 = .ok (.iload_n 3, 1) := by decide +kernel
theorem dX8_copy_56 : decode cX8_copy 56 = .ok (.iload 4, 2) := by decide +kernel
theorem dX8_copy_58 : decode cX8_copy 58 = .ok (.iload 5, 2) := by decide +kernel
theorem dX8_copy_60 : decode cX8_copy 60 = .ok (.invokevirtual 107, 3) := by decide +kernel
theorem dX8_copy_63 : decode cX8_copy 63 = .ok (.aload_n 0, 1) := by decide +kernel
theorem dX8_copy_64 : decode cX8_copy 64 = .ok (.getfield 37, 3) := by decide +kernel
theorem dX8_copy_67 : decode cX8_copy 67 = .ok (.invokevirtual 77, 3) := by decide +kernel
theorem dX8_copy_70 : decode cX8_copy 70 = .ok (.iconst 1, 1) := by decide +kernel
theorem dX8_copy_71 : decode cX8_copy 71 = .ok (.ireturn, 1) := by decide +kernel
theorem dX8_paint_0 : decode cX8_paint 0 = .ok (.iload_n 1, 1) := by decide +kernel
theorem dX8_paint_1 : decode cX8_paint 1 = .ok (.invokestatic 62, 3) := by decide +kernel
theorem dX8_paint_4 : decode cX8_paint 4 = .ok (.ifCond .eq 18, 3) := by decide +kernel
theorem dX8_paint_7 : decode cX8_paint 7 = .ok (.iload_n 2, 1) := by decide +kernel
theorem dX8_paint_8 : decode cX8_paint 8 = .ok (.ifCond .lt 14, 3) := by decide +kernel
theorem dX8_paint_11 : decode cX8_paint 11 = .ok (.iload_n 2, 1) := by decide +kernel
theorem dX8_paint_12 : decode cX8_paint 12 = .ok (.iload_n 3, 1) := by decide +kernel
theorem dX8_paint_13 : decode cX8_paint 13 = .ok (.if_icmp .gt 9, 3) := by decide +kernel
theorem dX8_paint_16 : decode cX8_paint 16 = .ok (.iload_n 3, 1) := by decide +kernel
theorem dX8_paint_17 : decode cX8_paint 17 = .ok (.bipush 64, 2) := by decide +kernel
theorem dX8_paint_19 : decode cX8_paint 19 = .ok (.if_icmp .lt 7, 3) := by decide +kernel
theorem dX8_paint_22 : decode cX8_paint 22 = .ok (.sipush (-2000), 3) := by decide +kernel
theorem dX8_paint_25 : decode cX8_paint 25 = .ok (.ireturn, 1) := by decide +kernel
theorem dX8_paint_26 : decode cX8_paint 26 = .ok (.aload_n 0, 1) := by decide +kernel
theorem dX8_paint_27 : decode cX8_paint 27 = .ok (.getfield 18, 3) := by decide +kernel
theorem dX8_paint_30 : decode cX8_paint 30 = .ok (.iload_n 1, 1) := by decide +kernel
theorem dX8_paint_31 : decode cX8_paint 31 = .ok (.invokevirtual 80, 3) := by decide +kernel
theorem dX8_paint_34 : decode cX8_paint 34 = .ok (.ifCond .eq 12, 3) := by decide +kernel
theorem dX8_paint_37 : decode cX8_paint 37 = .ok (.aload_n 0, 1) := by decide +kernel
theorem dX8_paint_38 : decode cX8_paint 38 = .ok (.getfield 18, 3) := by decide +kernel
theorem dX8_paint_41 : decode cX8_paint 41 = .ok (.iconst 1, 1) := by decide +kernel
theorem dX8_paint_42 : decode cX8_paint 42 = .ok (.invokevirtual 69, 3) := by decide +kernel
theorem dX8_paint_45 : decode cX8_paint 45 = .ok (.ireturn, 1) := by decide +kernel
theorem dX8_paint_46 : decode cX8_paint 46 = .ok (.iload_n 3, 1) := by decide +kernel
theorem dX8_paint_47 : decode cX8_paint 47 = .ok (.aload_n 0, 1) := by decide +kernel
theorem dX8_paint_48 : decode cX8_paint 48 = .ok (.getfield 18, 3) := by decide +kernel
theorem dX8_paint_51 : decode cX8_paint 51 = .ok (.iload_n 1, 1) := by decide +kernel
theorem dX8_paint_52 : decode cX8_paint 52 = .ok (.invokevirtual 83, 3) := by decide +kernel
theorem dX8_paint_55 : decode cX8_paint 55 = .ok (.if_icmp .lt 12, 3) := by decide +kernel
theorem dX8_paint_58 : decode cX8_paint 58 = .ok (.aload_n 0, 1) := by decide +kernel
theorem dX8_paint_59 : decode cX8_paint 59 = .ok (.getfield 18, 3) := by decide +kernel
theorem dX8_paint_62 : decode cX8_paint 62 = .ok (.iconst 2, 1) := by decide +kernel
theorem dX8_paint_63 : decode cX8_paint 63 = .ok (.invokevirtual 69, 3) := by decide +kernel
theorem dX8_paint_66 : decode cX8_paint 66 = .ok (.ireturn, 1) := by decide +kernel
theorem dX8_paint_67 : decode cX8_paint 67 = .ok (.aload_n 0, 1) := by decide +kernel
theorem dX8_paint_68 : decode cX8_paint 68 = .ok (.getfield 18, 3) := by decide +kernel
theorem dX8_paint_71 : decode cX8_paint 71 = .ok (.iload_n 1, 1) := by decide +kernel
theorem dX8_paint_72 : decode cX8_paint 72 = .ok (.iload_n 2, 1) := by decide +kernel
theorem dX8_paint_73 : decode cX8_paint 73 = .ok (.iload_n 3, 1) := by decide +kernel
theorem dX8_paint_74 : decode cX8_paint 74 = .ok (.iload 4, 2) := by decide +kernel
theorem dX8_paint_76 : decode cX8_paint 76 = .ok (.invokevirtual 94, 3) := by decide +kernel
theorem dX8_paint_79 : decode cX8_paint 79 = .ok (.aload_n 0, 1) := by decide +kernel
theorem dX8_paint_80 : decode cX8_paint 80 = .ok (.getfield 37, 3) := by decide +kernel
theorem dX8_paint_83 : decode cX8_paint 83 = .ok (.invokevirtual 77, 3) := by decide +kernel
theorem dX8_paint_86 : decode cX8_paint 86 = .ok (.iload_n 3, 1) := by decide +kernel
theorem dX8_paint_87 : decode cX8_paint 87 = .ok (.iload_n 2, 1) := by decide +kernel
theorem dX8_paint_88 : decode cX8_paint 88 = .ok (.isub, 1) := by decide +kernel
theorem dX8_paint_89 : decode cX8_paint 89 = .ok (.iconst 1, 1) := by decide +kernel
theorem dX8_paint_90 : decode cX8_paint 90 = .ok (.iadd, 1) := by decide +kernel
theorem dX8_paint_91 : decode cX8_paint 91 = .ok (.ireturn, 1) := by decide +kernel
theorem dX8_clouds_0 : decode cX8_clouds 0 = .ok (.iload_n 1, 1) := by decide +kernel
theorem dX8_clouds_1 : decode cX8_clouds 1 = .ok (.iconst 0, 1) := by decide +kernel
theorem dX8_clouds_2 : decode cX8_clouds 2 = .ok (.sipush 1000, 3) := by decide +kernel
theorem dX8_clouds_5 : decode cX8_clouds 5 = .ok (.invokestatic 111, 3) := by decide +kernel
theorem dX8_clouds_8 : decode cX8_clouds 8 = .ok (.ifCond .eq 12, 3) := by decide +kernel
theorem dX8_clouds_11 : decode cX8_clouds 11 = .ok (.iload_n 2, 1) := by decide +kernel
theorem dX8_clouds_12 : decode cX8_clouds 12 = .ok (.iconst 0, 1) := by decide +kernel
theorem dX8_clouds_13 : decode cX8_clouds 13 = .ok (.iconst 4, 1) := by decide +kernel
theorem dX8_clouds_14 : decode cX8_clouds 14 = .ok (.invokestatic 111, 3) := by decide +kernel
theorem dX8_clouds_17 : decode cX8_clouds 17 = .ok (.ifCond .ne 7, 3) := by decide +kernel
theorem dX8_clouds_20 : decode cX8_clouds 20 = .ok (.sipush (-2000), 3) := by decide +kernel
theorem dX8_clouds_23 : decode cX8_clouds 23 = .ok (.ireturn, 1) := by decide +kernel
theorem dX8_clouds_24 : decode cX8_clouds 24 = .ok (.aload_n 0, 1) := by decide +kernel
theorem dX8_clouds_25 : decode cX8_clouds 25 = .ok (.getfield 24, 3) := by decide +kernel
theorem dX8_clouds_28 : decode cX8_clouds 28 = .ok (.iload_n 1, 1) := by decide +kernel
theorem dX8_clouds_29 : decode cX8_clouds 29 = .ok (.iload_n 2, 1) := by decide +kernel
theorem dX8_clouds_30 : decode cX8_clouds 30 = .ok (.invokevirtual 115, 3) := by decide +kernel
theorem dX8_clouds_33 : decode cX8_clouds 33 = .ok (.aload_n 0, 1) := by decide +kernel
theorem dX8_clouds_34 : decode cX8_clouds 34 = .ok (.getfield 37, 3) := by decide +kernel
theorem dX8_clouds_37 : decode cX8_clouds 37 = .ok (.invokevirtual 77, 3) := by decide +kernel
theorem dX8_clouds_40 : decode cX8_clouds 40 = .ok (.iconst 1, 1) := by decide +kernel
theorem dX8_clouds_41 : decode cX8_clouds 41 = .ok (.ireturn, 1) := by decide +kernel
theorem dX8_sun_0 : decode cX8_sun 0 = .ok (.iload_n 1, 1) := by decide +kernel
theorem dX8_sun_1 : decode cX8_sun 1 = .ok (.invokestatic 119, 3) := by decide +kernel
theorem dX8_sun_4 : decode cX8_sun 4 = .ok (.ifCond .eq 23, 3) := by decide +kernel
theorem dX8_sun_7 : decode cX8_sun 7 = .ok (.iload_n 2, 1) := by decide +kernel
theorem dX8_sun_8 : decode cX8_sun 8 = .ok (.bipush (-2), 2) := by decide +kernel
theorem dX8_sun_10 : decode cX8_sun 10 = .ok (.iconst 2, 1) := by decide +kernel
theorem dX8_sun_11 : decode cX8_sun 11 = .ok (.invokestatic 111, 3) := by decide +kernel
theorem dX8_sun_14 : decode cX8_sun 14 = .ok (.ifCond .eq 13, 3) := by decide +kernel
theorem dX8_sun_17 : decode cX8_sun 17 = .ok (.iload_n 3, 1) := by decide +kernel
theorem dX8_sun_18 : decode cX8_sun 18 = .ok (.bipush (-2), 2) := by decide +kernel
theorem dX8_sun_20 : decode cX8_sun 20 = .ok (.iconst 2, 1) := by decide +kernel
theorem dX8_sun_21 : decode cX8_sun 21 = .ok (.invokestatic 111, 3) := by decide +kernel
theorem dX8_sun_24 : decode cX8_sun 24 = .ok (.ifCond .ne 7, 3) := by decide +kernel
theorem dX8_sun_27 : decode cX8_sun 27 = .ok (.sipush (-2000), 3) := by decide +kernel
theorem dX8_sun_30 : decode cX8_sun 30 = .ok (.ireturn, 1) := by decide +kernel
theorem dX8_sun_31 : decode cX8_sun 31 = .ok (.aload_n 0, 1) := by decide +kernel
theorem dX8_sun_32 : decode cX8_sun 32 = .ok (.getfield 24, 3) := by decide +kernel
theorem dX8_sun_35 : decode cX8_sun 35 = .ok (.iload_n 1, 1) := by decide +kernel
theorem dX8_sun_36 : decode cX8_sun 36 = .ok (.iload_n 2, 1) := by decide +kernel
theorem dX8_sun_37 : decode cX8_sun 37 = .ok (.iload_n 3, 1) := by decide +kernel
theorem dX8_sun_38 : decode cX8_sun 38 = .ok (.invokevirtual 122, 3) := by decide +kernel
theorem dX8_sun_41 : decode cX8_sun 41 = .ok (.aload_n 0, 1) := by decide +kernel
theorem dX8_sun_42 : decode cX8_sun 42 = .ok (.getfield 37, 3) := by decide +kernel
theorem dX8_sun_45 : decode cX8_sun 45 = .ok (.invokevirtual 77, 3) := by decide +kernel
theorem dX8_sun_48 : decode cX8_sun 48 = .ok (.iconst 1, 1) := by decide +kernel
theorem dX8_sun_49 : decode cX8_sun 49 = .ok (.ireturn, 1) := by decide +kernel
theorem dX8_sky_0 : decode cX8_sky 0 = .ok (.iload_n 1, 1) := by decide +kernel
theorem dX8_sky_1 : decode cX8_sky 1 = .ok (.invokestatic 119, 3) := by decide +kernel
theorem dX8_sky_4 : decode cX8_sky 4 = .ok (.ifCond .eq 22, 3) := by decide +kernel
theorem dX8_sky_7 : decode cX8_sky 7 = .ok (.iload_n 2, 1) := by decide +kernel
theorem dX8_sky_8 : decode cX8_sky 8 = .ok (.invokestatic 125, 3) := by decide +kernel
theorem dX8_sky_11 : decode cX8_sky 11 = .ok (.ifCond .eq 15, 3) := by decide +kernel
theorem dX8_sky_14 : decode cX8_sky 14 = .ok (.aload_n 0, 1) := by decide +kernel
theorem dX8_sky_15 : decode cX8_sky 15 = .ok (.getfield 24, 3) := by decide +kernel
theorem dX8_sky_18 : decode cX8_sky 18 = .ok (.iload_n 1, 1) := by decide +kernel
theorem dX8_sky_19 : decode cX8_sky 19 = .ok (.iload_n 2, 1) := by decide +kernel
theorem dX8_sky_20 : decode cX8_sky 20 = .ok (.invokevirtual 128, 3) := by decide +kernel
theorem dX8_sky_23 : decode cX8_sky 23 = .ok (.goto 6, 3) := by decide +kernel
theorem dX8_sky_26 : decode cX8_sky 26 = .ok (.sipush (-2000), 3) := by decide +kernel
theorem dX8_sky_29 : decode cX8_sky 29 = .ok (.ireturn, 1) := by decide +kernel
theorem dX8_feature_0 : decode cX8_feature 0 = .ok (.iload_n 1, 1) := by decide +kernel
theorem dX8_feature_1 : decode cX8_feature 1 = .ok (.invokestatic 119, 3) := by decide +kernel
theorem dX8_feature_4 : decode cX8_feature 4 = .ok (.ifCond .eq 19, 3) := by decide +kernel
theorem dX8_feature_7 : decode cX8_feature 7 = .ok (.iload_n 2, 1) := by decide +kernel
theorem dX8_feature_8 : decode cX8_feature 8 = .ok (.invokestatic 125, 3) := by decide +kernel
theorem dX8_feature_11 : decode cX8_feature 11 = .ok (.ifCond .eq 12, 3) := by decide +kernel
theorem dX8_feature_14 : decode cX8_feature 14 = .ok (.iload_n 3, 1) := by decide +kernel
theorem dX8_feature_15 : decode cX8_feature 15 = .ok (.iconst 0, 1) := by decide +kernel
theorem dX8_feature_16 : decode cX8_feature 16 = .ok (.iconst 3, 1) := by decide +kernel
theorem dX8_feature_17 : decode cX8_feature 17 = .ok (.invokestatic 111, 3) := by decide +kernel
theorem dX8_feature_20 : decode cX8_feature 20 = .ok (.ifCond .ne 7, 3) := by decide +kernel
theorem dX8_feature_23 : decode cX8_feature 23 = .ok (.sipush (-2000), 3) := by decide +kernel
theorem dX8_feature_26 : decode cX8_feature 26 = .ok (.ireturn, 1) := by decide +kernel
theorem dX8_feature_27 : decode cX8_feature 27 = .ok (.aload_n 0, 1) := by decide +kernel
theorem dX8_feature_28 : decode cX8_feature 28 = .ok (.getfield 24, 3) := by decide +kernel
theorem dX8_feature_31 : decode cX8_feature 31 = .ok (.iload_n 1, 1) := by decide +kernel
theorem dX8_feature_32 : decode cX8_feature 32 = .ok (.iload_n 2, 1) := by decide +kernel
theorem dX8_feature_33 : decode cX8_feature 33 = .ok (.invokevirtual 128, 3) := by decide +kernel
theorem dX8_feature_36 : decode cX8_feature 36 = .ok (.iconst 3, 1) := by decide +kernel
theorem dX8_feature_37 : decode cX8_feature 37 = .ok (.if_icmp .ne 16, 3) := by decide +kernel
theorem dX8_feature_40 : decode cX8_feature 40 = .ok (.aload_n 0, 1) := by decide +kernel
theorem dX8_feature_41 : decode cX8_feature 41 = .ok (.getfield 24, 3) := by decide +kernel
theorem dX8_feature_44 : decode cX8_feature 44 = .ok (.iload_n 1, 1) := by decide +kernel
theorem dX8_feature_45 : decode cX8_feature 45 = .ok (.iload_n 2, 1) := by decide +kernel
theorem dX8_feature_46 : decode cX8_feature 46 = .ok (.iload_n 3, 1) := by decide +kernel
theorem dX8_feature_47 : decode cX8_feature 47 = .ok (.invokevirtual 131, 3) := by decide +kernel
theorem dX8_feature_50 : decode cX8_feature 50 = .ok (.goto 6, 3) := by decide +kernel
theorem dX8_feature_53 : decode cX8_feature 53 = .ok (.sipush (-2001), 3) := by decide +kernel
theorem dX8_feature_56 : decode cX8_feature 56 = .ok (.ireturn, 1) := by decide +kernel
theorem dX8_sample_0 : decode cX8_sample 0 = .ok (.iload_n 1, 1) := by decide +kernel
theorem dX8_sample_1 : decode cX8_sample 1 = .ok (.invokestatic 119, 3) := by decide +kernel
theorem dX8_sample_4 : decode cX8_sample 4 = .ok (.ifCond .eq 17, 3) := by decide +kernel
theorem dX8_sample_7 : decode cX8_sample 7 = .ok (.iload_n 2, 1) := by decide +kernel
theorem dX8_sample_8 : decode cX8_sample 8 = .ok (.invokestatic 125, 3) := by decide +kernel
theorem dX8_sample_11 : decode cX8_sample 11 = .ok (.ifCond .eq 10, 3) := by decide +kernel
theorem dX8_sample_14 : decode cX8_sample 14 = .ok (.iload_n 3, 1) := by decide +kernel
theorem dX8_sample_15 : decode cX8_sample 15 = .ok (.invokestatic 134, 3) := by decide +kernel
theorem dX8_sample_18 : decode cX8_sample 18 = .ok (.ifCond .ne 7, 3) := by decide +kernel
theorem dX8_sample_21 : decode cX8_sample 21 = .ok (.sipush (-2000), 3) := by decide +kernel
theorem dX8_sample_24 : decode cX8_sample 24 = .ok (.ireturn, 1) := by decide +kernel
theorem dX8_sample_25 : decode cX8_sample 25 = .ok (.aload_n 0, 1) := by decide +kernel
theorem dX8_sample_26 : decode cX8_sample 26 = .ok (.getfield 28, 3) := by decide +kernel
theorem dX8_sample_29 : decode cX8_sample 29 = .ok (.invokevirtual 137, 3) := by decide +kernel
theorem dX8_sample_32 : decode cX8_sample 32 = .ok (.bipush 40, 2) := by decide +kernel
theorem dX8_sample_34 : decode cX8_sample 34 = .ok (.if_icmp .lt 7, 3) := by decide +kernel
theorem dX8_sample_37 : decode cX8_sample 37 = .ok (.sipush (-2002), 3) := by decide +kernel
theorem dX8_sample_40 : decode cX8_sample 40 = .ok (.ireturn, 1) := by decide +kernel
theorem dX8_sample_41 : decode cX8_sample 41 = .ok (.aload_n 0, 1) := by decide +kernel
theorem dX8_sample_42 : decode cX8_sample 42 = .ok (.getfield 28, 3) := by decide +kernel
theorem dX8_sample_45 : decode cX8_sample 45 = .ok (.iload_n 1, 1) := by decide +kernel
theorem dX8_sample_46 : decode cX8_sample 46 = .ok (.iload_n 2, 1) := by decide +kernel
theorem dX8_sample_47 : decode cX8_sample 47 = .ok (.iload_n 3, 1) := by decide +kernel
theorem dX8_sample_48 : decode cX8_sample 48 = .ok (.invokevirtual 141, 3) := by decide +kernel
theorem dX8_sample_51 : decode cX8_sample 51 = .ok (.aload_n 0, 1) := by decide +kernel
theorem dX8_sample_52 : decode cX8_sample 52 = .ok (.getfield 37, 3) := by decide +kernel
theorem dX8_sample_55 : decode cX8_sample 55 = .ok (.invokevirtual 77, 3) := by decide +kernel
theorem dX8_sample_58 : decode cX8_sample 58 = .ok (.aload_n 0, 1) := by decide +kernel
theorem dX8_sample_59 : decode cX8_sample 59 = .ok (.getfield 28, 3) := by decide +kernel
theorem dX8_sample_62 : decode cX8_sample 62 = .ok (.invokevirtual 137, 3) := by decide +kernel
theorem dX8_sample_65 : decode cX8_sample 65 = .ok (.ireturn, 1) := by decide +kernel
theorem dX8_forget_0 : decode cX8_forget 0 = .ok (.aload_n 0, 1) := by decide +kernel
theorem dX8_forget_1 : decode cX8_forget 1 = .ok (.getfield 28, 3) := by decide +kernel
theorem dX8_forget_4 : decode cX8_forget 4 = .ok (.invokevirtual 137, 3) := by decide +kernel
theorem dX8_forget_7 : decode cX8_forget 7 = .ok (.istore_n 1, 1) := by decide +kernel
theorem dX8_forget_8 : decode cX8_forget 8 = .ok (.aload_n 0, 1) := by decide +kernel
theorem dX8_forget_9 : decode cX8_forget 9 = .ok (.getfield 28, 3) := by decide +kernel
theorem dX8_forget_12 : decode cX8_forget 12 = .ok (.invokevirtual 144, 3) := by decide +kernel
theorem dX8_forget_15 : decode cX8_forget 15 = .ok (.aload_n 0, 1) := by decide +kernel
theorem dX8_forget_16 : decode cX8_forget 16 = .ok (.getfield 37, 3) := by decide +kernel
theorem dX8_forget_19 : decode cX8_forget 19 = .ok (.invokevirtual 77, 3) := by decide +kernel
theorem dX8_forget_22 : decode cX8_forget 22 = .ok (.iload_n 1, 1) := by decide +kernel
theorem dX8_forget_23 : decode cX8_forget 23 = .ok (.ireturn, 1) := by decide +kernel
theorem dX8_teaching_0 : decode cX8_teaching 0 = .ok (.aload_n 0, 1) := by decide +kernel
theorem dX8_teaching_1 : decode cX8_teaching 1 = .ok (.getfield 37, 3) := by decide +kernel
theorem dX8_teaching_4 : decode cX8_teaching 4 = .ok (.invokevirtual 147, 3) := by decide +kernel
theorem dX8_teaching_7 : decode cX8_teaching 7 = .ok (.aload_n 0, 1) := by decide +kernel
theorem dX8_teaching_8 : decode cX8_teaching 8 = .ok (.getfield 28, 3) := by decide +kernel
theorem dX8_teaching_11 : decode cX8_teaching 11 = .ok (.invokevirtual 150, 3) := by decide +kernel
theorem dX8_teaching_14 : decode cX8_teaching 14 = .ok (.ireturn, 1) := by decide +kernel
theorem dX8_grow_0 : decode cX8_grow 0 = .ok (.iload_n 1, 1) := by decide +kernel
theorem dX8_grow_1 : decode cX8_grow 1 = .ok (.iconst 0, 1) := by decide +kernel
theorem dX8_grow_2 : decode cX8_grow 2 = .ok (.iconst 3, 1) := by decide +kernel
theorem dX8_grow_3 : decode cX8_grow 3 = .ok (.invokestatic 111, 3) := by decide +kernel
theorem dX8_grow_6 : decode cX8_grow 6 = .ok (.ifCond .eq 12, 3) := by decide +kernel
theorem dX8_grow_9 : decode cX8_grow 9 = .ok (.iload_n 2, 1) := by decide +kernel
theorem dX8_grow_10 : decode cX8_grow 10 = .ok (.iconst 0, 1) := by decide +kernel
theorem dX8_grow_11 : decode cX8_grow 11 = .ok (.iconst 1, 1) := by decide +kernel
theorem dX8_grow_12 : decode cX8_grow 12 = .ok (.invokestatic 111, 3) := by decide +kernel
theorem dX8_grow_15 : decode cX8_grow 15 = .ok (.ifCond .ne 7, 3) := by decide +kernel
theorem dX8_grow_18 : decode cX8_grow 18 = .ok (.sipush (-2000), 3) := by decide +kernel
theorem dX8_grow_21 : decode cX8_grow 21 = .ok (.ireturn, 1) := by decide +kernel
theorem dX8_grow_22 : decode cX8_grow 22 = .ok (.aload_n 0, 1) := by decide +kernel
theorem dX8_grow_23 : decode cX8_grow 23 = .ok (.getfield 37, 3) := by decide +kernel
theorem dX8_grow_26 : decode cX8_grow 26 = .ok (.iload_n 1, 1) := by decide +kernel
theorem dX8_grow_27 : decode cX8_grow 27 = .ok (.iload_n 2, 1) := by decide +kernel
theorem dX8_grow_28 : decode cX8_grow 28 = .ok (.invokevirtual 153, 3) := by decide +kernel
theorem dX8_grow_31 : decode cX8_grow 31 = .ok (.iconst 1, 1) := by decide +kernel
theorem dX8_grow_32 : decode cX8_grow 32 = .ok (.ireturn, 1) := by decide +kernel
theorem dX8_tree_0 : decode cX8_tree 0 = .ok (.iload_n 1, 1) := by decide +kernel
theorem dX8_tree_1 : decode cX8_tree 1 = .ok (.iconst 0, 1) := by decide +kernel
theorem dX8_tree_2 : decode cX8_tree 2 = .ok (.bipush 14, 2) := by decide +kernel
theorem dX8_tree_4 : decode cX8_tree 4 = .ok (.invokestatic 111, 3) := by decide +kernel
theorem dX8_tree_7 : decode cX8_tree 7 = .ok (.ifCond .eq 12, 3) := by decide +kernel
theorem dX8_tree_10 : decode cX8_tree 10 = .ok (.iload_n 2, 1) := by decide +kernel
theorem dX8_tree_11 : decode cX8_tree 11 = .ok (.iconst 0, 1) := by decide +kernel
theorem dX8_tree_12 : decode cX8_tree 12 = .ok (.iconst 2, 1) := by decide +kernel
theorem dX8_tree_13 : decode cX8_tree 13 = .ok (.invokestatic 111, 3) := by decide +kernel
theorem dX8_tree_16 : decode cX8_tree 16 = .ok (.ifCond .ne 7, 3) := by decide +kernel
theorem dX8_tree_19 : decode cX8_tree 19 = .ok (.sipush (-2000), 3) := by decide +kernel
theorem dX8_tree_22 : decode cX8_tree 22 = .ok (.ireturn, 1) := by decide +kernel
theorem dX8_tree_23 : decode cX8_tree 23 = .ok (.aload_n 0, 1) := by decide +kernel
theorem dX8_tree_24 : decode cX8_tree 24 = .ok (.getfield 37, 3) := by decide +kernel
theorem dX8_tree_27 : decode cX8_tree 27 = .ok (.invokevirtual 147, 3) := by decide +kernel
theorem dX8_tree_30 : decode cX8_tree 30 = .ok (.aload_n 0, 1) := by decide +kernel
theorem dX8_tree_31 : decode cX8_tree 31 = .ok (.getfield 37, 3) := by decide +kernel
theorem dX8_tree_34 : decode cX8_tree 34 = .ok (.invokevirtual 156, 3) := by decide +kernel
theorem dX8_tree_37 : decode cX8_tree 37 = .ok (.iload_n 1, 1) := by decide +kernel
theorem dX8_tree_38 : decode cX8_tree 38 = .ok (.iload_n 2, 1) := by decide +kernel
theorem dX8_tree_39 : decode cX8_tree 39 = .ok (.invokevirtual 160, 3) := by decide +kernel
theorem dX8_tree_42 : decode cX8_tree 42 = .ok (.ireturn, 1) := by decide +kernel
theorem dX8_kind_0 : decode cX8_kind 0 = .ok (.iload_n 1, 1) := by decide +kernel
theorem dX8_kind_1 : decode cX8_kind 1 = .ok (.invokestatic 119, 3) := by decide +kernel
theorem dX8_kind_4 : decode cX8_kind 4 = .ok (.ifCond .eq 10, 3) := by decide +kernel
theorem dX8_kind_7 : decode cX8_kind 7 = .ok (.iload_n 2, 1) := by decide +kernel
theorem dX8_kind_8 : decode cX8_kind 8 = .ok (.invokestatic 125, 3) := by decide +kernel
theorem dX8_kind_11 : decode cX8_kind 11 = .ok (.ifCond .ne 7, 3) := by decide +kernel
theorem dX8_kind_14 : decode cX8_kind 14 = .ok (.sipush (-2000), 3) := by decide +kernel
theorem dX8_kind_17 : decode cX8_kind 17 = .ok (.ireturn, 1) := by decide +kernel
theorem dX8_kind_18 : decode cX8_kind 18 = .ok (.aload_n 0, 1) := by decide +kernel
theorem dX8_kind_19 : decode cX8_kind 19 = .ok (.getfield 37, 3) := by decide +kernel
theorem dX8_kind_22 : decode cX8_kind 22 = .ok (.invokevirtual 147, 3) := by decide +kernel
theorem dX8_kind_25 : decode cX8_kind 25 = .ok (.aload_n 0, 1) := by decide +kernel
theorem dX8_kind_26 : decode cX8_kind 26 = .ok (.getfield 37, 3) := by decide +kernel
theorem dX8_kind_29 : decode cX8_kind 29 = .ok (.iload_n 1, 1) := by decide +kernel
theorem dX8_kind_30 : decode cX8_kind 30 = .ok (.iload_n 2, 1) := by decide +kernel
theorem dX8_kind_31 : decode cX8_kind 31 = .ok (.invokevirtual 165, 3) := by decide +kernel
theorem dX8_kind_34 : decode cX8_kind 34 = .ok (.ireturn, 1) := by decide +kernel
theorem dX8_many_0 : decode cX8_many 0 = .ok (.iload_n 1, 1) := by decide +kernel
theorem dX8_many_1 : decode cX8_many 1 = .ok (.invokestatic 119, 3) := by decide +kernel
theorem dX8_many_4 : decode cX8_many 4 = .ok (.ifCond .eq 15, 3) := by decide +kernel
theorem dX8_many_7 : decode cX8_many 7 = .ok (.iload_n 2, 1) := by decide +kernel
theorem dX8_many_8 : decode cX8_many 8 = .ok (.iconst (-1), 1) := by decide +kernel
theorem dX8_many_9 : decode cX8_many 9 = .ok (.if_icmp .eq 14, 3) := by decide +kernel
theorem dX8_many_12 : decode cX8_many 12 = .ok (.iload_n 2, 1) := by decide +kernel
theorem dX8_many_13 : decode cX8_many 13 = .ok (.invokestatic 134, 3) := by decide +kernel
theorem dX8_many_16 : decode cX8_many 16 = .ok (.ifCond .ne 7, 3) := by decide +kernel
theorem dX8_many_19 : decode cX8_many 19 = .ok (.sipush (-2000), 3) := by decide +kernel
theorem dX8_many_22 : decode cX8_many 22 = .ok (.ireturn, 1) := by decide +kernel
theorem dX8_many_23 : decode cX8_many 23 = .ok (.aload_n 0, 1) := by decide +kernel
theorem dX8_many_24 : decode cX8_many 24 = .ok (.getfield 37, 3) := by decide +kernel
theorem dX8_many_27 : decode cX8_many 27 = .ok (.invokevirtual 147, 3) := by decide +kernel
theorem dX8_many_30 : decode cX8_many 30 = .ok (.aload_n 0, 1) := by decide +kernel
theorem dX8_many_31 : decode cX8_many 31 = .ok (.getfield 37, 3) := by decide +kernel
theorem dX8_many_34 : decode cX8_many 34 = .ok (.iload_n 1, 1) := by decide +kernel
theorem dX8_many_35 : decode cX8_many 35 = .ok (.iload_n 2, 1) := by decide +kernel
theorem dX8_many_36 : decode cX8_many 36 = .ok (.invokevirtual 168, 3) := by decide +kernel
theorem dX8_many_39 : decode cX8_many 39 = .ok (.ireturn, 1) := by decide +kernel
theorem dX8_weigh_0 : decode cX8_weigh 0 = .ok (.iload_n 1, 1) := by decide +kernel
theorem dX8_weigh_1 : decode cX8_weigh 1 = .ok (.iconst 0, 1) := by decide +kernel
theorem dX8_weigh_2 : decode cX8_weigh 2 = .ok (.bipush 100, 2) := by decide +kernel
theorem dX8_weigh_4 : decode cX8_weigh 4 = .ok (.invokestatic 111, 3) := by decide +kernel
theorem dX8_weigh_7 : decode cX8_weigh 7 = .ok (.ifCond .eq 13, 3) := by decide +kernel
theorem dX8_weigh_10 : decode cX8_weigh 10 = .ok (.iload_n 2, 1) := by decide +kernel
theorem dX8_weigh_11 : decode cX8_weigh 11 = .ok (.iconst 0, 1) := by decide +kernel
theorem dX8_weigh_12 : decode cX8_weigh 12 = .ok (.bipush 100, 2) := by decide +kernel
theorem dX8_weigh_14 : decode cX8_weigh 14 = .ok (.invokestatic 111, 3) := by decide +kernel
theorem dX8_weigh_17 : decode cX8_weigh 17 = .ok (.ifCond .ne 7, 3) := by decide +kernel
theorem dX8_weigh_20 : decode cX8_weigh 20 = .ok (.sipush (-2000), 3) := by decide +kernel
theorem dX8_weigh_23 : decode cX8_weigh 23 = .ok (.ireturn, 1) := by decide +kernel
theorem dX8_weigh_24 : decode cX8_weigh 24 = .ok (.aload_n 0, 1) := by decide +kernel
theorem dX8_weigh_25 : decode cX8_weigh 25 = .ok (.getfield 44, 3) := by decide +kernel
theorem dX8_weigh_28 : decode cX8_weigh 28 = .ok (.iload_n 1, 1) := by decide +kernel
theorem dX8_weigh_29 : decode cX8_weigh 29 = .ok (.iload_n 2, 1) := by decide +kernel
theorem dX8_weigh_30 : decode cX8_weigh 30 = .ok (.invokevirtual 171, 3) := by decide +kernel
theorem dX8_weigh_33 : decode cX8_weigh 33 = .ok (.iconst 1, 1) := by decide +kernel
theorem dX8_weigh_34 : decode cX8_weigh 34 = .ok (.ireturn, 1) := by decide +kernel
theorem dX8_smooth_0 : decode cX8_smooth 0 = .ok (.iload_n 1, 1) := by decide +kernel
theorem dX8_smooth_1 : decode cX8_smooth 1 = .ok (.invokestatic 119, 3) := by decide +kernel
theorem dX8_smooth_4 : decode cX8_smooth 4 = .ok (.ifCond .eq 10, 3) := by decide +kernel
theorem dX8_smooth_7 : decode cX8_smooth 7 = .ok (.iload_n 2, 1) := by decide +kernel
theorem dX8_smooth_8 : decode cX8_smooth 8 = .ok (.invokestatic 134, 3) := by decide +kernel
theorem dX8_smooth_11 : decode cX8_smooth 11 = .ok (.ifCond .ne 7, 3) := by decide +kernel
theorem dX8_smooth_14 : decode cX8_smooth 14 = .ok (.sipush (-2000), 3) := by decide +kernel
theorem dX8_smooth_17 : decode cX8_smooth 17 = .ok (.ireturn, 1) := by decide +kernel
theorem dX8_smooth_18 : decode cX8_smooth 18 = .ok (.aload_n 0, 1) := by decide +kernel
theorem dX8_smooth_19 : decode cX8_smooth 19 = .ok (.getfield 37, 3) := by decide +kernel
theorem dX8_smooth_22 : decode cX8_smooth 22 = .ok (.invokevirtual 147, 3) := by decide +kernel
theorem dX8_smooth_25 : decode cX8_smooth 25 = .ok (.aload_n 0, 1) := by decide +kernel
theorem dX8_smooth_26 : decode cX8_smooth 26 = .ok (.getfield 44, 3) := by decide +kernel
theorem dX8_smooth_29 : decode cX8_smooth 29 = .ok (.aload_n 0, 1) := by decide +kernel
theorem dX8_smooth_30 : decode cX8_smooth 30 = .ok (.getfield 37, 3) := by decide +kernel
theorem dX8_smooth_33 : decode cX8_smooth 33 = .ok (.iload_n 1, 1) := by decide +kernel
theorem dX8_smooth_34 : decode cX8_smooth 34 = .ok (.iload_n 2, 1) := by decide +kernel
theorem dX8_smooth_35 : decode cX8_smooth 35 = .ok (.invokevirtual 174, 3) := by decide +kernel
theorem dX8_smooth_38 : decode cX8_smooth 38 = .ok (.ireturn, 1) := by decide +kernel
theorem dX8_mark_0 : decode cX8_mark 0 = .ok (.iload_n 1, 1) := by decide +kernel
theorem dX8_mark_1 : decode cX8_mark 1 = .ok (.invokestatic 125, 3) := by decide +kernel
theorem dX8_mark_4 : decode cX8_mark 4 = .ok (.ifCond .eq 14, 3) := by decide +kernel
theorem dX8_mark_7 : decode cX8_mark 7 = .ok (.aload_n 0, 1) := by decide +kernel
theorem dX8_mark_8 : decode cX8_mark 8 = .ok (.getfield 44, 3) := by decide +kernel
theorem dX8_mark_11 : decode cX8_mark 11 = .ok (.iload_n 1, 1) := by decide +kernel
theorem dX8_mark_12 : decode cX8_mark 12 = .ok (.invokevirtual 178, 3) := by decide +kernel
theorem dX8_mark_15 : decode cX8_mark 15 = .ok (.goto 6, 3) := by decide +kernel
theorem dX8_mark_18 : decode cX8_mark 18 = .ok (.sipush (-2000), 3) := by decide +kernel
theorem dX8_mark_21 : decode cX8_mark 21 = .ok (.ireturn, 1) := by decide +kernel
theorem dX8_allow_0 : decode cX8_allow 0 = .ok (.iload_n 1, 1) := by decide +kernel
theorem dX8_allow_1 : decode cX8_allow 1 = .ok (.invokestatic 134, 3) := by decide +kernel
theorem dX8_allow_4 : decode cX8_allow 4 = .ok (.ifCond .eq 15, 3) := by decide +kernel
theorem dX8_allow_7 : decode cX8_allow 7 = .ok (.iload_n 2, 1) := by decide +kernel
theorem dX8_allow_8 : decode cX8_allow 8 = .ok (.invokestatic 134, 3) := by decide +kernel
theorem dX8_allow_11 : decode cX8_allow 11 = .ok (.ifCond .eq 8, 3) := by decide +kernel
theorem dX8_allow_14 : decode cX8_allow 14 = .ok (.iload_n 1, 1) := by decide +kernel
theorem dX8_allow_15 : decode cX8_allow 15 = .ok (.iload_n 2, 1) := by decide +kernel
theorem dX8_allow_16 : decode cX8_allow 16 = .ok (.if_icmp .ne 7, 3) := by decide +kernel
theorem dX8_allow_19 : decode cX8_allow 19 = .ok (.sipush (-2000), 3) := by decide +kernel
theorem dX8_allow_22 : decode cX8_allow 22 = .ok (.ireturn, 1) := by decide +kernel
theorem dX8_allow_23 : decode cX8_allow 23 = .ok (.aload_n 0, 1) := by decide +kernel
theorem dX8_allow_24 : decode cX8_allow 24 = .ok (.getfield 51, 3) := by decide +kernel
theorem dX8_allow_27 : decode cX8_allow 27 = .ok (.iload_n 1, 1) := by decide +kernel
theorem dX8_allow_28 : decode cX8_allow 28 = .ok (.iload_n 2, 1) := by decide +kernel
theorem dX8_allow_29 : decode cX8_allow 29 = .ok (.iload_n 3, 1) := by decide +kernel
theorem dX8_allow_30 : decode cX8_allow 30 = .ok (.invokevirtual 181, 3) := by decide +kernel
theorem dX8_allow_33 : decode cX8_allow 33 = .ok (.iconst 1, 1) := by decide +kernel
theorem dX8_allow_34 : decode cX8_allow 34 = .ok (.ireturn, 1) := by decide +kernel
theorem dX8_path_0 : decode cX8_path 0 = .ok (.iload_n 1, 1) := by decide +kernel
theorem dX8_path_1 : decode cX8_path 1 = .ok (.invokestatic 125, 3) := by decide +kernel
theorem dX8_path_4 : decode cX8_path 4 = .ok (.ifCond .ne 7, 3) := by decide +kernel
theorem dX8_path_7 : decode cX8_path 7 = .ok (.sipush (-2000), 3) := by decide +kernel
theorem dX8_path_10 : decode cX8_path 10 = .ok (.ireturn, 1) := by decide +kernel
theorem dX8_path_11 : decode cX8_path 11 = .ok (.aload_n 0, 1) := by decide +kernel
theorem dX8_path_12 : decode cX8_path 12 = .ok (.getfield 37, 3) := by decide +kernel
theorem dX8_path_15 : decode cX8_path 15 = .ok (.invokevirtual 147, 3) := by decide +kernel
theorem dX8_path_18 : decode cX8_path 18 = .ok (.aload_n 0, 1) := by decide +kernel
theorem dX8_path_19 : decode cX8_path 19 = .ok (.getfield 51, 3) := by decide +kernel
theorem dX8_path_22 : decode cX8_path 22 = .ok (.aload_n 0, 1) := by decide +kernel
theorem dX8_path_23 : decode cX8_path 23 = .ok (.getfield 37, 3) := by decide +kernel
theorem dX8_path_26 : decode cX8_path 26 = .ok (.iload_n 1, 1) := by decide +kernel
theorem dX8_path_27 : decode cX8_path 27 = .ok (.invokevirtual 185, 3) := by decide +kernel
theorem dX8_path_30 : decode cX8_path 30 = .ok (.aload_n 0, 1) := by decide +kernel
theorem dX8_path_31 : decode cX8_path 31 = .ok (.getfield 51, 3) := by decide +kernel
theorem dX8_path_34 : decode cX8_path 34 = .ok (.invokevirtual 189, 3) := by decide +kernel
theorem dX8_path_37 : decode cX8_path 37 = .ok (.ireturn, 1) := by decide +kernel
theorem dX8_on_0 : decode cX8_on 0 = .ok (.iload_n 1, 1) := by decide +kernel
theorem dX8_on_1 : decode cX8_on 1 = .ok (.invokestatic 125, 3) := by decide +kernel
theorem dX8_on_4 : decode cX8_on 4 = .ok (.ifCond .eq 10, 3) := by decide +kernel
theorem dX8_on_7 : decode cX8_on 7 = .ok (.iload_n 2, 1) := by decide +kernel
theorem dX8_on_8 : decode cX8_on 8 = .ok (.invokestatic 119, 3) := by decide +kernel
theorem dX8_on_11 : decode cX8_on 11 = .ok (.ifCond .ne 7, 3) := by decide +kernel
theorem dX8_on_14 : decode cX8_on 14 = .ok (.sipush (-2000), 3) := by decide +kernel
theorem dX8_on_17 : decode cX8_on 17 = .ok (.ireturn, 1) := by decide +kernel
theorem dX8_on_18 : decode cX8_on 18 = .ok (.aload_n 0, 1) := by decide +kernel
theorem dX8_on_19 : decode cX8_on 19 = .ok (.getfield 37, 3) := by decide +kernel
theorem dX8_on_22 : decode cX8_on 22 = .ok (.invokevirtual 147, 3) := by decide +kernel
theorem dX8_on_25 : decode cX8_on 25 = .ok (.aload_n 0, 1) := by decide +kernel
theorem dX8_on_26 : decode cX8_on 26 = .ok (.getfield 51, 3) := by decide +kernel
theorem dX8_on_29 : decode cX8_on 29 = .ok (.aload_n 0, 1) := by decide +kernel
theorem dX8_on_30 : decode cX8_on 30 = .ok (.getfield 37, 3) := by decide +kernel
theorem dX8_on_33 : decode cX8_on 33 = .ok (.iload_n 1, 1) := by decide +kernel
theorem dX8_on_34 : decode cX8_on 34 = .ok (.invokevirtual 185, 3) := by decide +kernel
theorem dX8_on_37 : decode cX8_on 37 = .ok (.aload_n 0, 1) := by decide +kernel
theorem dX8_on_38 : decode cX8_on 38 = .ok (.getfield 51, 3) := by decide +kernel
theorem dX8_on_41 : decode cX8_on 41 = .ok (.iload_n 2, 1) := by decide +kernel
theorem dX8_on_42 : decode cX8_on 42 = .ok (.invokevirtual 192, 3) := by decide +kernel
theorem dX8_on_45 : decode cX8_on 45 = .ok (.ireturn, 1) := by decide +kernel
theorem dX8_changed_0 : decode cX8_changed 0 = .ok (.iload_n 1, 1) := by decide +kernel
theorem dX8_changed_1 : decode cX8_changed 1 = .ok (.invokestatic 134, 3) := by decide +kernel
theorem dX8_changed_4 : decode cX8_changed 4 = .ok (.ifCond .eq 15, 3) := by decide +kernel
theorem dX8_changed_7 : decode cX8_changed 7 = .ok (.iload_n 2, 1) := by decide +kernel
theorem dX8_changed_8 : decode cX8_changed 8 = .ok (.invokestatic 134, 3) := by decide +kernel
theorem dX8_changed_11 : decode cX8_changed 11 = .ok (.ifCond .eq 8, 3) := by decide +kernel
theorem dX8_changed_14 : decode cX8_changed 14 = .ok (.iload_n 1, 1) := by decide +kernel
theorem dX8_changed_15 : decode cX8_changed 15 = .ok (.iload_n 2, 1) := by decide +kernel
theorem dX8_changed_16 : decode cX8_changed 16 = .ok (.if_icmp .ne 7, 3) := by decide +kernel
theorem dX8_changed_19 : decode cX8_changed 19 = .ok (.sipush (-2000), 3) := by decide +kernel
theorem dX8_changed_22 : decode cX8_changed 22 = .ok (.ireturn, 1) := by decide +kernel
theorem dX8_changed_23 : decode cX8_changed 23 = .ok (.aload_n 0, 1) := by decide +kernel
theorem dX8_changed_24 : decode cX8_changed 24 = .ok (.getfield 37, 3) := by decide +kernel
theorem dX8_changed_27 : decode cX8_changed 27 = .ok (.invokevirtual 147, 3) := by decide +kernel
theorem dX8_changed_30 : decode cX8_changed 30 = .ok (.iconst 0, 1) := by decide +kernel
theorem dX8_changed_31 : decode cX8_changed 31 = .ok (.istore_n 3, 1) := by decide +kernel
theorem dX8_changed_32 : decode cX8_changed 32 = .ok (.iconst 0, 1) := by decide +kernel
theorem dX8_changed_33 : decode cX8_changed 33 = .ok (.istore 4, 2) := by decide +kernel
theorem dX8_changed_35 : decode cX8_changed 35 = .ok (.iload 4, 2) := by decide +kernel
theorem dX8_changed_37 : decode cX8_changed 37 = .ok (.bipush 64, 2) := by decide +kernel
theorem dX8_changed_39 : decode cX8_changed 39 = .ok (.if_icmp .ge 34, 3) := by decide +kernel
theorem dX8_changed_42 : decode cX8_changed 42 = .ok (.aload_n 0, 1) := by decide +kernel
theorem dX8_changed_43 : decode cX8_changed 43 = .ok (.getfield 51, 3) := by decide +kernel
theorem dX8_changed_46 : decode cX8_changed 46 = .ok (.aload_n 0, 1) := by decide +kernel
theorem dX8_changed_47 : decode cX8_changed 47 = .ok (.getfield 37, 3) := by decide +kernel
theorem dX8_changed_50 : decode cX8_changed 50 = .ok (.iload 4, 2) := by decide +kernel
theorem dX8_changed_52 : decode cX8_changed 52 = .ok (.invokevirtual 185, 3) := by decide +kernel
theorem dX8_changed_55 : decode cX8_changed 55 = .ok (.iload_n 3, 1) := by decide +kernel
theorem dX8_changed_56 : decode cX8_changed 56 = .ok (.aload_n 0, 1) := by decide +kernel
theorem dX8_changed_57 : decode cX8_changed 57 = .ok (.getfield 51, 3) := by decide +kernel
theorem dX8_changed_60 : decode cX8_changed 60 = .ok (.iload_n 1, 1) := by decide +kernel
theorem dX8_changed_61 : decode cX8_changed 61 = .ok (.iload_n 2, 1) := by decide +kernel
theorem dX8_changed_62 : decode cX8_changed 62 = .ok (.invokevirtual 195, 3) := by decide +kernel
theorem dX8_changed_65 : decode cX8_changed 65 = .ok (.iadd, 1) := by decide +kernel
theorem dX8_changed_66 : decode cX8_changed 66 = .ok (.istore_n 3, 1) := by decide +kernel
theorem dX8_changed_67 : decode cX8_changed 67 = .ok (.iinc 4 1, 3) := by decide +kernel
theorem dX8_changed_70 : decode cX8_changed 70 = .ok (.goto (-35), 3) := by decide +kernel
theorem dX8_changed_73 : decode cX8_changed 73 = .ok (.iload_n 3, 1) := by decide +kernel
theorem dX8_changed_74 : decode cX8_changed 74 = .ok (.ireturn, 1) := by decide +kernel
theorem dX8_prove_0 : decode cX8_prove 0 = .ok (.iload_n 1, 1) := by decide +kernel
theorem dX8_prove_1 : decode cX8_prove 1 = .ok (.invokestatic 134, 3) := by decide +kernel
theorem dX8_prove_4 : decode cX8_prove 4 = .ok (.ifCond .eq 21, 3) := by decide +kernel
theorem dX8_prove_7 : decode cX8_prove 7 = .ok (.iload_n 2, 1) := by decide +kernel
theorem dX8_prove_8 : decode cX8_prove 8 = .ok (.invokestatic 134, 3) := by decide +kernel
theorem dX8_prove_11 : decode cX8_prove 11 = .ok (.ifCond .eq 14, 3) := by decide +kernel
theorem dX8_prove_14 : decode cX8_prove 14 = .ok (.iload_n 3, 1) := by decide +kernel
theorem dX8_prove_15 : decode cX8_prove 15 = .ok (.iconst 1, 1) := by decide +kernel
theorem dX8_prove_16 : decode cX8_prove 16 = .ok (.sipush 1000, 3) := by decide +kernel
theorem dX8_prove_19 : decode cX8_prove 19 = .ok (.invokestatic 111, 3) := by decide +kernel
theorem dX8_prove_22 : decode cX8_prove 22 = .ok (.ifCond .ne 7, 3) := by decide +kernel
theorem dX8_prove_25 : decode cX8_prove 25 = .ok (.sipush (-2000), 3) := by decide +kernel
theorem dX8_prove_28 : decode cX8_prove 28 = .ok (.ireturn, 1) := by decide +kernel
theorem dX8_prove_29 : decode cX8_prove 29 = .ok (.aload_n 0, 1) := by decide +kernel
theorem dX8_prove_30 : decode cX8_prove 30 = .ok (.getfield 58, 3) := by decide +kernel
theorem dX8_prove_33 : decode cX8_prove 33 = .ok (.iload_n 1, 1) := by decide +kernel
theorem dX8_prove_34 : decode cX8_prove 34 = .ok (.iload_n 2, 1) := by decide +kernel
theorem dX8_prove_35 : decode cX8_prove 35 = .ok (.iload_n 3, 1) := by decide +kernel
theorem dX8_prove_36 : decode cX8_prove 36 = .ok (.invokevirtual 198, 3) := by decide +kernel
theorem dX8_prove_39 : decode cX8_prove 39 = .ok (.ireturn, 1) := by decide +kernel
theorem dX8_area_0 : decode cX8_area 0 = .ok (.iload_n 1, 1) := by decide +kernel
theorem dX8_area_1 : decode cX8_area 1 = .ok (.invokestatic 119, 3) := by decide +kernel
theorem dX8_area_4 : decode cX8_area 4 = .ok (.ifCond .eq 10, 3) := by decide +kernel
theorem dX8_area_7 : decode cX8_area 7 = .ok (.iload_n 2, 1) := by decide +kernel
theorem dX8_area_8 : decode cX8_area 8 = .ok (.invokestatic 134, 3) := by decide +kernel
theorem dX8_area_11 : decode cX8_area 11 = .ok (.ifCond .ne 7, 3) := by decide +kernel
theorem dX8_area_14 : decode cX8_area 14 = .ok (.ldc2_w 200, 3) := by decide +kernel
theorem dX8_area_17 : decode cX8_area 17 = .ok (.lreturn, 1) := by decide +kernel
theorem dX8_area_18 : decode cX8_area 18 = .ok (.aload_n 0, 1) := by decide +kernel
theorem dX8_area_19 : decode cX8_area 19 = .ok (.getfield 37, 3) := by decide +kernel
theorem dX8_area_22 : decode cX8_area 22 = .ok (.invokevirtual 147, 3) := by decide +kernel
theorem dX8_area_25 : decode cX8_area 25 = .ok (.aload_n 0, 1) := by decide +kernel
theorem dX8_area_26 : decode cX8_area 26 = .ok (.getfield 58, 3) := by decide +kernel
theorem dX8_area_29 : decode cX8_area 29 = .ok (.aload_n 0, 1) := by decide +kernel
theorem dX8_area_30 : decode cX8_area 30 = .ok (.getfield 37, 3) := by decide +kernel
theorem dX8_area_33 : decode cX8_area 33 = .ok (.iload_n 1, 1) := by decide +kernel
theorem dX8_area_34 : decode cX8_area 34 = .ok (.iload_n 2, 1) := by decide +kernel
theorem dX8_area_35 : decode cX8_area 35 = .ok (.invokevirtual 202, 3) := by decide +kernel
theorem dX8_area_38 : decode cX8_area 38 = .ok (.lreturn, 1) := by decide +kernel
theorem dX8_count_0 : decode cX8_count 0 = .ok (.iload_n 1, 1) := by decide +kernel
theorem dX8_count_1 : decode cX8_count 1 = .ok (.tableswitch 123 0 8 #[51, 59, 67, 75, 83, 91, 99, 107, 115], 51) := by decide +kernel
theorem dX8_count_52 : decode cX8_count 52 = .ok (.aload_n 0, 1) := by decide +kernel
theorem dX8_count_53 : decode cX8_count 53 = .ok (.getfield 28, 3) := by decide +kernel
theorem dX8_count_56 : decode cX8_count 56 = .ok (.invokevirtual 137, 3) := by decide +kernel
theorem dX8_count_59 : decode cX8_count 59 = .ok (.ireturn, 1) := by decide +kernel
theorem dX8_count_60 : decode cX8_count 60 = .ok (.aload_n 0, 1) := by decide +kernel
theorem dX8_count_61 : decode cX8_count 61 = .ok (.getfield 37, 3) := by decide +kernel
theorem dX8_count_64 : decode cX8_count 64 = .ok (.invokevirtual 206, 3) := by decide +kernel
theorem dX8_count_67 : decode cX8_count 67 = .ok (.ireturn, 1) := by decide +kernel
theorem dX8_count_68 : decode cX8_count 68 = .ok (.aload_n 0, 1) := by decide +kernel
theorem dX8_count_69 : decode cX8_count 69 = .ok (.getfield 37, 3) := by decide +kernel
theorem dX8_count_72 : decode cX8_count 72 = .ok (.invokevirtual 209, 3) := by decide +kernel
theorem dX8_count_75 : decode cX8_count 75 = .ok (.ireturn, 1) := by decide +kernel
theorem dX8_count_76 : decode cX8_count 76 = .ok (.aload_n 0, 1) := by decide +kernel
theorem dX8_count_77 : decode cX8_count 77 = .ok (.getfield 44, 3) := by decide +kernel
theorem dX8_count_80 : decode cX8_count 80 = .ok (.invokevirtual 212, 3) := by decide +kernel
theorem dX8_count_83 : decode cX8_count 83 = .ok (.ireturn, 1) := by decide +kernel
theorem dX8_count_84 : decode cX8_count 84 = .ok (.aload_n 0, 1) := by decide +kernel
theorem dX8_count_85 : decode cX8_count 85 = .ok (.getfield 44, 3) := by decide +kernel
theorem dX8_count_88 : decode cX8_count 88 = .ok (.invokevirtual 215, 3) := by decide +kernel
theorem dX8_count_91 : decode cX8_count 91 = .ok (.ireturn, 1) := by decide +kernel
theorem dX8_count_92 : decode cX8_count 92 = .ok (.aload_n 0, 1) := by decide +kernel
theorem dX8_count_93 : decode cX8_count 93 = .ok (.getfield 18, 3) := by decide +kernel
theorem dX8_count_96 : decode cX8_count 96 = .ok (.invokevirtual 218, 3) := by decide +kernel
theorem dX8_count_99 : decode cX8_count 99 = .ok (.ireturn, 1) := by decide +kernel
theorem dX8_count_100 : decode cX8_count 100 = .ok (.aload_n 0, 1) := by decide +kernel
theorem dX8_count_101 : decode cX8_count 101 = .ok (.getfield 18, 3) := by decide +kernel
theorem dX8_count_104 : decode cX8_count 104 = .ok (.invokevirtual 221, 3) := by decide +kernel
theorem dX8_count_107 : decode cX8_count 107 = .ok (.ireturn, 1) := by decide +kernel
theorem dX8_count_108 : decode cX8_count 108 = .ok (.aload_n 0, 1) := by decide +kernel
theorem dX8_count_109 : decode cX8_count 109 = .ok (.getfield 24, 3) := by decide +kernel
theorem dX8_count_112 : decode cX8_count 112 = .ok (.invokevirtual 224, 3) := by decide +kernel
theorem dX8_count_115 : decode cX8_count 115 = .ok (.ireturn, 1) := by decide +kernel
theorem dX8_count_116 : decode cX8_count 116 = .ok (.aload_n 0, 1) := by decide +kernel
theorem dX8_count_117 : decode cX8_count 117 = .ok (.getfield 24, 3) := by decide +kernel
theorem dX8_count_120 : decode cX8_count 120 = .ok (.invokevirtual 227, 3) := by decide +kernel
theorem dX8_count_123 : decode cX8_count 123 = .ok (.ireturn, 1) := by decide +kernel
theorem dX8_count_124 : decode cX8_count 124 = .ok (.sipush (-2000), 3) := by decide +kernel
theorem dX8_count_127 : decode cX8_count 127 = .ok (.ireturn, 1) := by decide +kernel
theorem dX8_digest_0 : decode cX8_digest 0 = .ok (.aload_n 0, 1) := by decide +kernel
theorem dX8_digest_1 : decode cX8_digest 1 = .ok (.getfield 37, 3) := by decide +kernel
theorem dX8_digest_4 : decode cX8_digest 4 = .ok (.invokevirtual 147, 3) := by decide +kernel
theorem dX8_digest_7 : decode cX8_digest 7 = .ok (.ldc2_w 230, 3) := by decide +kernel
theorem dX8_digest_10 : decode cX8_digest 10 = .ok (.lstore_n 1, 1) := by decide +kernel
theorem dX8_digest_11 : decode cX8_digest 11 = .ok (.iconst 0, 1) := by decide +kernel
theorem dX8_digest_12 : decode cX8_digest 12 = .ok (.istore_n 3, 1) := by decide +kernel
theorem dX8_digest_13 : decode cX8_digest 13 = .ok (.iload_n 3, 1) := by decide +kernel
theorem dX8_digest_14 : decode cX8_digest 14 = .ok (.bipush 8, 2) := by decide +kernel
theorem dX8_digest_16 : decode cX8_digest 16 = .ok (.if_icmp .gt 28, 3) := by decide +kernel
theorem dX8_digest_19 : decode cX8_digest 19 = .ok (.iload_n 3, 1) := by decide +kernel
theorem dX8_digest_20 : decode cX8_digest 20 = .ok (.bipush 6, 2) := by decide +kernel
theorem dX8_digest_22 : decode cX8_digest 22 = .ok (.if_icmp .eq 16, 3) := by decide +kernel
theorem dX8_digest_25 : decode cX8_digest 25 = .ok (.ldc2_w 232, 3) := by decide +kernel
theorem dX8_digest_28 : decode cX8_digest 28 = .ok (.lload_n 1, 1) := by decide +kernel
theorem dX8_digest_29 : decode cX8_digest 29 = .ok (.lmul, 1) := by decide +kernel
theorem dX8_digest_30 : decode cX8_digest 30 = .ok (.aload_n 0, 1) := by decide +kernel
theorem dX8_digest_31 : decode cX8_digest 31 = .ok (.iload_n 3, 1) := by decide +kernel
theorem dX8_digest_32 : decode cX8_digest 32 = .ok (.invokevirtual 234, 3) := by decide +kernel
theorem dX8_digest_35 : decode cX8_digest 35 = .ok (.i2l, 1) := by decide +kernel
theorem dX8_digest_36 : decode cX8_digest 36 = .ok (.ladd, 1) := by decide +kernel
theorem dX8_digest_37 : decode cX8_digest 37 = .ok (.lstore_n 1, 1) := by decide +kernel
theorem dX8_digest_38 : decode cX8_digest 38 = .ok (.iinc 3 1, 3) := by decide +kernel
theorem dX8_digest_41 : decode cX8_digest 41 = .ok (.goto (-28), 3) := by decide +kernel
theorem dX8_digest_44 : decode cX8_digest 44 = .ok (.iconst 0, 1) := by decide +kernel
theorem dX8_digest_45 : decode cX8_digest 45 = .ok (.istore_n 3, 1) := by decide +kernel
theorem dX8_digest_46 : decode cX8_digest 46 = .ok (.iload_n 3, 1) := by decide +kernel
theorem dX8_digest_47 : decode cX8_digest 47 = .ok (.bipush 6, 2) := by decide +kernel
theorem dX8_digest_49 : decode cX8_digest 49 = .ok (.if_icmp .ge 77, 3) := by decide +kernel
theorem dX8_digest_52 : decode cX8_digest 52 = .ok (.iconst 0, 1) := by decide +kernel
theorem dX8_digest_53 : decode cX8_digest 53 = .ok (.istore 4, 2) := by decide +kernel
theorem dX8_digest_55 : decode cX8_digest 55 = .ok (.iload 4, 2) := by decide +kernel
theorem dX8_digest_57 : decode cX8_digest 57 = .ok (.bipush 64, 2) := by decide +kernel
theorem dX8_digest_59 : decode cX8_digest 59 = .ok (.if_icmp .ge 27, 3) := by decide +kernel
theorem dX8_digest_62 : decode cX8_digest 62 = .ok (.ldc2_w 232, 3) := by decide +kernel
theorem dX8_digest_65 : decode cX8_digest 65 = .ok (.lload_n 1, 1) := by decide +kernel
theorem dX8_digest_66 : decode cX8_digest 66 = .ok (.lmul, 1) := by decide +kernel
theorem dX8_digest_67 : decode cX8_digest 67 = .ok (.aload_n 0, 1) := by decide +kernel
theorem dX8_digest_68 : decode cX8_digest 68 = .ok (.getfield 24, 3) := by decide +kernel
theorem dX8_digest_71 : decode cX8_digest 71 = .ok (.iload_n 3, 1) := by decide +kernel
theorem dX8_digest_72 : decode cX8_digest 72 = .ok (.iload 4, 2) := by decide +kernel
theorem dX8_digest_74 : decode cX8_digest 74 = .ok (.invokevirtual 128, 3) := by decide +kernel
theorem dX8_digest_77 : decode cX8_digest 77 = .ok (.i2l, 1) := by decide +kernel
theorem dX8_digest_78 : decode cX8_digest 78 = .ok (.ladd, 1) := by decide +kernel
theorem dX8_digest_79 : decode cX8_digest 79 = .ok (.lstore_n 1, 1) := by decide +kernel
theorem dX8_digest_80 : decode cX8_digest 80 = .ok (.iinc 4 1, 3) := by decide +kernel
theorem dX8_digest_83 : decode cX8_digest 83 = .ok (.goto (-28), 3) := by decide +kernel
theorem dX8_digest_86 : decode cX8_digest 86 = .ok (.iconst 0, 1) := by decide +kernel
theorem dX8_digest_87 : decode cX8_digest 87 = .ok (.istore 4, 2) := by decide +kernel
theorem dX8_digest_89 : decode cX8_digest 89 = .ok (.iload 4, 2) := by decide +kernel
theorem dX8_digest_91 : decode cX8_digest 91 = .ok (.bipush 64, 2) := by decide +kernel
theorem dX8_digest_93 : decode cX8_digest 93 = .ok (.if_icmp .ge 27, 3) := by decide +kernel
theorem dX8_digest_96 : decode cX8_digest 96 = .ok (.ldc2_w 232, 3) := by decide +kernel
theorem dX8_digest_99 : decode cX8_digest 99 = .ok (.lload_n 1, 1) := by decide +kernel
theorem dX8_digest_100 : decode cX8_digest 100 = .ok (.lmul, 1) := by decide +kernel
theorem dX8_digest_101 : decode cX8_digest 101 = .ok (.aload_n 0, 1) := by decide +kernel
theorem dX8_digest_102 : decode cX8_digest 102 = .ok (.getfield 37, 3) := by decide +kernel
theorem dX8_digest_105 : decode cX8_digest 105 = .ok (.iload_n 3, 1) := by decide +kernel
theorem dX8_digest_106 : decode cX8_digest 106 = .ok (.iload 4, 2) := by decide +kernel
theorem dX8_digest_108 : decode cX8_digest 108 = .ok (.invokevirtual 165, 3) := by decide +kernel
theorem dX8_digest_111 : decode cX8_digest 111 = .ok (.i2l, 1) := by decide +kernel
theorem dX8_digest_112 : decode cX8_digest 112 = .ok (.ladd, 1) := by decide +kernel
theorem dX8_digest_113 : decode cX8_digest 113 = .ok (.lstore_n 1, 1) := by decide +kernel
theorem dX8_digest_114 : decode cX8_digest 114 = .ok (.iinc 4 9, 3) := by decide +kernel
theorem dX8_digest_117 : decode cX8_digest 117 = .ok (.goto (-28), 3) := by decide +kernel
theorem dX8_digest_120 : decode cX8_digest 120 = .ok (.iinc 3 1, 3) := by decide +kernel
theorem dX8_digest_123 : decode cX8_digest 123 = .ok (.goto (-77), 3) := by decide +kernel
theorem dX8_digest_126 : decode cX8_digest 126 = .ok (.iconst 0, 1) := by decide +kernel
theorem dX8_digest_127 : decode cX8_digest 127 = .ok (.istore_n 3, 1) := by decide +kernel
theorem dX8_digest_128 : decode cX8_digest 128 = .ok (.iload_n 3, 1) := by decide +kernel
theorem dX8_digest_129 : decode cX8_digest 129 = .ok (.bipush 64, 2) := by decide +kernel
theorem dX8_digest_131 : decode cX8_digest 131 = .ok (.if_icmp .ge 25, 3) := by decide +kernel
theorem dX8_digest_134 : decode cX8_digest 134 = .ok (.ldc2_w 232, 3) := by decide +kernel
theorem dX8_digest_137 : decode cX8_digest 137 = .ok (.lload_n 1, 1) := by decide +kernel
theorem dX8_digest_138 : decode cX8_digest 138 = .ok (.lmul, 1) := by decide +kernel
theorem dX8_digest_139 : decode cX8_digest 139 = .ok (.aload_n 0, 1) := by decide +kernel
theorem dX8_digest_140 : decode cX8_digest 140 = .ok (.getfield 44, 3) := by decide +kernel
theorem dX8_digest_143 : decode cX8_digest 143 = .ok (.iload_n 3, 1) := by decide +kernel
theorem dX8_digest_144 : decode cX8_digest 144 = .ok (.invokevirtual 178, 3) := by decide +kernel
theorem dX8_digest_147 : decode cX8_digest 147 = .ok (.i2l, 1) := by decide +kernel
theorem dX8_digest_148 : decode cX8_digest 148 = .ok (.ladd, 1) := by decide +kernel
theorem dX8_digest_149 : decode cX8_digest 149 = .ok (.lstore_n 1, 1) := by decide +kernel
theorem dX8_digest_150 : decode cX8_digest 150 = .ok (.iinc 3 1, 3) := by decide +kernel
theorem dX8_digest_153 : decode cX8_digest 153 = .ok (.goto (-25), 3) := by decide +kernel
theorem dX8_digest_156 : decode cX8_digest 156 = .ok (.lload_n 1, 1) := by decide +kernel
theorem dX8_digest_157 : decode cX8_digest 157 = .ok (.lreturn, 1) := by decide +kernel
theorem dX8_within_0 : decode cX8_within 0 = .ok (.iload_n 0, 1) := by decide +kernel
theorem dX8_within_1 : decode cX8_within 1 = .ok (.iload_n 1, 1) := by decide +kernel
theorem dX8_within_2 : decode cX8_within 2 = .ok (.if_icmp .lt 12, 3) := by decide +kernel
theorem dX8_within_5 : decode cX8_within 5 = .ok (.iload_n 0, 1) := by decide +kernel
theorem dX8_within_6 : decode cX8_within 6 = .ok (.iload_n 2, 1) := by decide +kernel
theorem dX8_within_7 : decode cX8_within 7 = .ok (.if_icmp .gt 7, 3) := by decide +kernel
theorem dX8_within_10 : decode cX8_within 10 = .ok (.iconst 1, 1) := by decide +kernel
theorem dX8_within_11 : decode cX8_within 11 = .ok (.goto 4, 3) := by decide +kernel
theorem dX8_within_14 : decode cX8_within 14 = .ok (.iconst 0, 1) := by decide +kernel
theorem dX8_within_15 : decode cX8_within 15 = .ok (.ireturn, 1) := by decide +kernel
theorem dX8_isReel_0 : decode cX8_isReel 0 = .ok (.iload_n 0, 1) := by decide +kernel
theorem dX8_isReel_1 : decode cX8_isReel 1 = .ok (.iconst 0, 1) := by decide +kernel
theorem dX8_isReel_2 : decode cX8_isReel 2 = .ok (.bipush 17, 2) := by decide +kernel
theorem dX8_isReel_4 : decode cX8_isReel 4 = .ok (.invokestatic 111, 3) := by decide +kernel
theorem dX8_isReel_7 : decode cX8_isReel 7 = .ok (.ireturn, 1) := by decide +kernel
theorem dX8_isForm_0 : decode cX8_isForm 0 = .ok (.iload_n 0, 1) := by decide +kernel
theorem dX8_isForm_1 : decode cX8_isForm 1 = .ok (.iconst 0, 1) := by decide +kernel
theorem dX8_isForm_2 : decode cX8_isForm 2 = .ok (.iconst 2, 1) := by decide +kernel
theorem dX8_isForm_3 : decode cX8_isForm 3 = .ok (.invokestatic 111, 3) := by decide +kernel
theorem dX8_isForm_6 : decode cX8_isForm 6 = .ok (.ireturn, 1) := by decide +kernel
theorem dX8_isDate_0 : decode cX8_isDate 0 = .ok (.iload_n 0, 1) := by decide +kernel
theorem dX8_isDate_1 : decode cX8_isDate 1 = .ok (.iconst 0, 1) := by decide +kernel
theorem dX8_isDate_2 : decode cX8_isDate 2 = .ok (.iconst 5, 1) := by decide +kernel
theorem dX8_isDate_3 : decode cX8_isDate 3 = .ok (.invokestatic 111, 3) := by decide +kernel
theorem dX8_isDate_6 : decode cX8_isDate 6 = .ok (.ireturn, 1) := by decide +kernel
theorem dX8_isCell_0 : decode cX8_isCell 0 = .ok (.iload_n 0, 1) := by decide +kernel
theorem dX8_isCell_1 : decode cX8_isCell 1 = .ok (.iconst 0, 1) := by decide +kernel
theorem dX8_isCell_2 : decode cX8_isCell 2 = .ok (.bipush 63, 2) := by decide +kernel
theorem dX8_isCell_4 : decode cX8_isCell 4 = .ok (.invokestatic 111, 3) := by decide +kernel
theorem dX8_isCell_7 : decode cX8_isCell 7 = .ok (.ireturn, 1) := by decide +kernel
theorem dX8_isClass_0 : decode cX8_isClass 0 = .ok (.iload_n 0, 1) := by decide +kernel
theorem dX8_isClass_1 : decode cX8_isClass 1 = .ok (.iconst 0, 1) := by decide +kernel
theorem dX8_isClass_2 : decode cX8_isClass 2 = .ok (.iconst 3, 1) := by decide +kernel
theorem dX8_isClass_3 : decode cX8_isClass 3 = .ok (.invokestatic 111, 3) := by decide +kernel
theorem dX8_isClass_6 : decode cX8_isClass 6 = .ok (.ireturn, 1) := by decide +kernel
theorem dX9_init_0 : decode cX9_init 0 = .ok (.aload_n 0, 1) := by decide +kernel
theorem dX9_init_1 : decode cX9_init 1 = .ok (.invokespecial 1, 3) := by decide +kernel
theorem dX9_init_4 : decode cX9_init 4 = .ok (.aload_n 0, 1) := by decide +kernel
theorem dX9_init_5 : decode cX9_init 5 = .ok (.bipush 18, 2) := by decide +kernel
theorem dX9_init_7 : decode cX9_init 7 = .ok (.newarray .int, 2) := by decide +kernel
theorem dX9_init_9 : decode cX9_init 9 = .ok (.putfield 7, 3) := by decide +kernel
theorem dX9_init_12 : decode cX9_init 12 = .ok (.aload_n 0, 1) := by decide +kernel
theorem dX9_init_13 : decode cX9_init 13 = .ok (.bipush 18, 2) := by decide +kernel
theorem dX9_init_15 : decode cX9_init 15 = .ok (.newarray .int, 2) := by decide +kernel
theorem dX9_init_17 : decode cX9_init 17 = .ok (.putfield 13, 3) := by decide +kernel
theorem dX9_init_20 : decode cX9_init 20 = .ok (.aload_n 0, 1) := by decide +kernel
theorem dX9_init_21 : decode cX9_init 21 = .ok (.sipush 1152, 3) := by decide +kernel
theorem dX9_init_24 : decode cX9_init 24 = .ok (.newarray .int, 2) := by decide +kernel
theorem dX9_init_26 : decode cX9_init 26 = .ok (.putfield 16, 3) := by decide +kernel
theorem dX9_init_29 : decode cX9_init 29 = .ok (.aload_n 0, 1) := by decide +kernel
theorem dX9_init_30 : decode cX9_init 30 = .ok (.bipush 64, 2) := by decide +kernel
theorem dX9_init_32 : decode cX9_init 32 = .ok (.newarray .int, 2) := by decide +kernel
theorem dX9_init_34 : decode cX9_init 34 = .ok (.putfield 19, 3) := by decide +kernel
theorem dX9_init_37 : decode cX9_init 37 = .ok (.aload_n 0, 1) := by decide +kernel
theorem dX9_init_38 : decode cX9_init 38 = .ok (.sipush 900, 3) := by decide +kernel
theorem dX9_init_41 : decode cX9_init 41 = .ok (.putfield 22, 3) := by decide +kernel
theorem dX9_init_44 : decode cX9_init 44 = .ok (.aload_n 0, 1) := by decide +kernel
theorem dX9_init_45 : decode cX9_init 45 = .ok (.iconst 2, 1) := by decide +kernel
theorem dX9_init_46 : decode cX9_init 46 = .ok (.putfield 26, 3) := by decide +kernel
theorem dX9_init_49 : decode cX9_init 49 = .ok (.aload_n 0, 1) := by decide +kernel
theorem dX9_init_50 : decode cX9_init 50 = .ok (.bipush 6, 2) := by decide +kernel
theorem dX9_init_52 : decode cX9_init 52 = .ok (.newarray .int, 2) := by decide +kernel
theorem dX9_init_54 : decode cX9_init 54 = .ok (.putfield 29, 3) := by decide +kernel
theorem dX9_init_57 : decode cX9_init 57 = .ok (.aload_n 0, 1) := by decide +kernel
theorem dX9_init_58 : decode cX9_init 58 = .ok (.bipush 6, 2) := by decide +kernel
theorem dX9_init_60 : decode cX9_init 60 = .ok (.newarray .int, 2) := by decide +kernel
theorem dX9_init_62 : decode cX9_init 62 = .ok (.putfield 32, 3) := by decide +kernel
theorem dX9_init_65 : decode cX9_init 65 = .ok (.aload_n 0, 1) := by decide +kernel
theorem dX9_init_66 : decode cX9_init 66 = .ok (.bipush 40, 2) := by decide +kernel
theorem dX9_init_68 : decode cX9_init 68 = .ok (.newarray .int, 2) := by decide +kernel
theorem dX9_init_70 : decode cX9_init 70 = .ok (.putfield 35, 3) := by decide +kernel
theorem dX9_init_73 : decode cX9_init 73 = .ok (.aload_n 0, 1) := by decide +kernel
theorem dX9_init_74 : decode cX9_init 74 = .ok (.bipush 40, 2) := by decide +kernel
theorem dX9_init_76 : decode cX9_init 76 = .ok (.newarray .int, 2) := by decide +kernel
theorem dX9_init_78 : decode cX9_init 78 = .ok (.putfield 38, 3) := by decide +kernel
theorem dX9_init_81 : decode cX9_init 81 = .ok (.aload_n 0, 1) := by decide +kernel
theorem dX9_init_82 : decode cX9_init 82 = .ok (.bipush 40, 2) := by decide +kernel
theorem dX9_init_84 : decode cX9_init 84 = .ok (.newarray .int, 2) := by decide +kernel
theorem dX9_init_86 : decode cX9_init 86 = .ok (.putfield 41, 3) := by decide +kernel
theorem dX9_init_89 : decode cX9_init 89 = .ok (.aload_n 0, 1) := by decide +kernel
theorem dX9_init_90 : decode cX9_init 90 = .ok (.iconst 2, 1) := by decide +kernel
theorem dX9_init_91 : decode cX9_init 91 = .ok (.putfield 44, 3) := by decide +kernel
theorem dX9_init_94 : decode cX9_init 94 = .ok (.aload_n 0, 1) := by decide +kernel
theorem dX9_init_95 : decode cX9_init 95 = .ok (.sipush 160, 3) := by decide +kernel
theorem dX9_init_98 : decode cX9_init 98 = .ok (.newarray .int, 2) := by decide +kernel
theorem dX9_init_100 : decode cX9_init 100 = .ok (.putfield 47, 3) := by decide +kernel
theorem dX9_init_103 : decode cX9_init 103 = .ok (.aload_n 0, 1) := by decide +kernel
theorem dX9_init_104 : decode cX9_init 104 = .ok (.bipush 40, 2) := by decide +kernel
theorem dX9_init_106 : decode cX9_init 106 = .ok (.newarray .int, 2) := by decide +kernel
theorem dX9_init_108 : decode cX9_init 108 = .ok (.putfield 50, 3) := by decide +kernel
theorem dX9_init_111 : decode cX9_init 111 = .ok (.aload_n 0, 1) := by decide +kernel
theorem dX9_init_112 : decode cX9_init 112 = .ok (.bipush 40, 2) := by decide +kernel
theorem dX9_init_114 : decode cX9_init 114 = .ok (.newarray .int, 2) := by decide +kernel
theorem dX9_init_116 : decode cX9_init 116 = .ok (.putfield 53, 3) := by decide +kernel
theorem dX9_init_119 : decode cX9_init 119 = .ok (.aload_n 0, 1) := by decide +kernel
theorem dX9_init_120 : decode cX9_init 120 = .ok (.bipush 40, 2) := by decide +kernel
theorem dX9_init_122 : decode cX9_init 122 = .ok (.newarray .int, 2) := by decide +kernel
theorem dX9_init_124 : decode cX9_init 124 = .ok (.putfield 56, 3) := by decide +kernel
theorem dX9_init_127 : decode cX9_init 127 = .ok (.aload_n 0, 1) := by decide +kernel
theorem dX9_init_128 : decode cX9_init 128 = .ok (.bipush 15, 2) := by decide +kernel
theorem dX9_init_130 : decode cX9_init 130 = .ok (.newarray .boolean, 2) := by decide +kernel
theorem dX9_init_132 : decode cX9_init 132 = .ok (.putfield 59, 3) := by decide +kernel
theorem dX9_init_135 : decode cX9_init 135 = .ok (.aload_n 0, 1) := by decide +kernel
theorem dX9_init_136 : decode cX9_init 136 = .ok (.bipush 15, 2) := by decide +kernel
theorem dX9_init_138 : decode cX9_init 138 = .ok (.newarray .int, 2) := by decide +kernel
theorem dX9_init_140 : decode cX9_init 140 = .ok (.putfield 63, 3) := by decide +kernel
theorem dX9_init_143 : decode cX9_init 143 = .ok (.aload_n 0, 1) := by decide +kernel
theorem dX9_init_144 : decode cX9_init 144 = .ok (.bipush 15, 2) := by decide +kernel
theorem dX9_init_146 : decode cX9_init 146 = .ok (.newarray .int, 2) := by decide +kernel
theorem dX9_init_148 : decode cX9_init 148 = .ok (.putfield 66, 3) := by decide +kernel
theorem dX9_init_151 : decode cX9_init 151 = .ok (.aload_n 0, 1) := by decide +kernel
theorem dX9_init_152 : decode cX9_init 152 = .ok (.bipush 15, 2) := by decide +kernel
theorem dX9_init_154 : decode cX9_init 154 = .ok (.newarray .int, 2) := by decide +kernel
theorem dX9_init_156 : decode cX9_init 156 = .ok (.putfield 69, 3) := by decide +kernel
theorem dX9_init_159 : decode cX9_init 159 = .ok (.aload_n 0, 1) := by decide +kernel
theorem dX9_init_160 : decode cX9_init 160 = .ok (.iconst 4, 1) := by decide +kernel
theorem dX9_init_161 : decode cX9_init 161 = .ok (.newarray .int, 2) := by decide +kernel
theorem dX9_init_163 : decode cX9_init 163 = .ok (.putfield 72, 3) := by decide +kernel
theorem dX9_init_166 : decode cX9_init 166 = .ok (.aload_n 0, 1) := by decide +kernel
theorem dX9_init_167 : decode cX9_init 167 = .ok (.iconst 4, 1) := by decide +kernel
theorem dX9_init_168 : decode cX9_init 168 = .ok (.newarray .int, 2) := by decide +kernel
theorem dX9_init_170 : decode cX9_init 170 = .ok (.putfield 75, 3) := by decide +kernel
theorem dX9_init_173 : decode cX9_init 173 = .ok (.aload_n 0, 1) := by decide +kernel
theorem dX9_init_174 : decode cX9_init 174 = .ok (.iconst 3, 1) := by decide +kernel
theorem dX9_init_175 : decode cX9_init 175 = .ok (.putfield 78, 3) := by decide +kernel
theorem dX9_init_178 : decode cX9_init 178 = .ok (.aload_n 0, 1) := by decide +kernel
theorem dX9_init_179 : decode cX9_init 179 = .ok (.iconst 2, 1) := by decide +kernel
theorem dX9_init_180 : decode cX9_init 180 = .ok (.putfield 81, 3) := by decide +kernel
theorem dX9_init_183 : decode cX9_init 183 = .ok (.aload_n 0, 1) := by decide +kernel
theorem dX9_init_184 : decode cX9_init 184 = .ok (.bipush 64, 2) := by decide +kernel
theorem dX9_init_186 : decode cX9_init 186 = .ok (.newarray .int, 2) := by decide +kernel
theorem dX9_init_188 : decode cX9_init 188 = .ok (.putfield 84, 3) := by decide +kernel
theorem dX9_init_191 : decode cX9_init 191 = .ok (.aload_n 0, 1) := by decide +kernel
theorem dX9_init_192 : decode cX9_init 192 = .ok (.bipush 64, 2) := by decide +kernel
theorem dX9_init_194 : decode cX9_init 194 = .ok (.newarray .int, 2) := by decide +kernel
theorem dX9_init_196 : decode cX9_init 196 = .ok (.putfield 87, 3) := by decide +kernel
theorem dX9_init_199 : decode cX9_init 199 = .ok (.aload_n 0, 1) := by decide +kernel
theorem dX9_init_200 : decode cX9_init 200 = .ok (.sipush 256, 3) := by decide +kernel
theorem dX9_init_203 : decode cX9_init 203 = .ok (.newarray .int, 2) := by decide +kernel
theorem dX9_init_205 : decode cX9_init 205 = .ok (.putfield 90, 3) := by decide +kernel
theorem dX9_init_208 : decode cX9_init 208 = .ok (.aload_n 0, 1) := by decide +kernel
theorem dX9_init_209 : decode cX9_init 209 = .ok (.bipush 64, 2) := by decide +kernel
theorem dX9_init_211 : decode cX9_init 211 = .ok (.newarray .int, 2) := by decide +kernel
theorem dX9_init_213 : decode cX9_init 213 = .ok (.putfield 93, 3) := by decide +kernel
theorem dX9_init_216 : decode cX9_init 216 = .ok (.aload_n 0, 1) := by decide +kernel
theorem dX9_init_217 : decode cX9_init 217 = .ok (.bipush 64, 2) := by decide +kernel
theorem dX9_init_219 : decode cX9_init 219 = .ok (.newarray .int, 2) := by decide +kernel
theorem dX9_init_221 : decode cX9_init 221 = .ok (.putfield 96, 3) := by decide +kernel
theorem dX9_init_224 : decode cX9_init 224 = .ok (.aload_n 0, 1) := by decide +kernel
theorem dX9_init_225 : decode cX9_init 225 = .ok (.bipush 64, 2) := by decide +kernel
theorem dX9_init_227 : decode cX9_init 227 = .ok (.newarray .int, 2) := by decide +kernel
theorem dX9_init_229 : decode cX9_init 229 = .ok (.putfield 99, 3) := by decide +kernel
theorem dX9_init_232 : decode cX9_init 232 = .ok (.aload_n 0, 1) := by decide +kernel
theorem dX9_init_233 : decode cX9_init 233 = .ok (.bipush 16, 2) := by decide +kernel
theorem dX9_init_235 : decode cX9_init 235 = .ok (.newarray .boolean, 2) := by decide +kernel
theorem dX9_init_237 : decode cX9_init 237 = .ok (.putfield 102, 3) := by decide +kernel
theorem dX9_init_240 : decode cX9_init 240 = .ok (.aload_n 0, 1) := by decide +kernel
theorem dX9_init_241 : decode cX9_init 241 = .ok (.bipush 24, 2) := by decide +kernel
theorem dX9_init_243 : decode cX9_init 243 = .ok (.newarray .int, 2) := by decide +kernel
theorem dX9_init_245 : decode cX9_init 245 = .ok (.putfield 105, 3) := by decide +kernel
theorem dX9_init_248 : decode cX9_init 248 = .ok (.aload_n 0, 1) := by decide +kernel
theorem dX9_init_249 : decode cX9_init 249 = .ok (.bipush 6, 2) := by decide +kernel
theorem dX9_init_251 : decode cX9_init 251 = .ok (.newarray .int, 2) := by decide +kernel
theorem dX9_init_253 : decode cX9_init 253 = .ok (.putfield 108, 3) := by decide +kernel
theorem dX9_init_256 : decode cX9_init 256 = .ok (.aload_n 0, 1) := by decide +kernel
theorem dX9_init_257 : decode cX9_init 257 = .ok (.bipush 16, 2) := by decide +kernel
theorem dX9_init_259 : decode cX9_init 259 = .ok (.newarray .int, 2) := by decide +kernel
theorem dX9_init_261 : decode cX9_init 261 = .ok (.putfield 111, 3) := by decide +kernel
theorem dX9_init_264 : decode cX9_init 264 = .ok (.iconst 0, 1) := by decide +kernel
theorem dX9_init_265 : decode cX9_init 265 = .ok (.istore_n 1, 1) := by decide +kernel
theorem dX9_init_266 : decode cX9_init 266 = .ok (.iload_n 1, 1) := by decide +kernel
theorem dX9_init_267 : decode cX9_init 267 = .ok (.bipush 18, 2) := by decide +kernel
theorem dX9_init_269 : decode cX9_init 269 = .ok (.if_icmp .ge 16, 3) := by decide +kernel
theorem dX9_init_272 : decode cX9_init 272 = .ok (.aload_n 0, 1) := by decide +kernel
theorem dX9_init_273 : decode cX9_init 273 = .ok (.getfield 7, 3) := by decide +kernel
theorem dX9_init_276 : decode cX9_init 276 = .ok (.iload_n 1, 1) := by decide +kernel
theorem dX9_init_277 : decode cX9_init 277 = .ok (.iconst (-1), 1) := by decide +kernel
theorem dX9_init_278 : decode cX9_init 278 = .ok (.iastore, 1) := by decide +kernel
theorem dX9_init_279 : decode cX9_init 279 = .ok (.iinc 1 1, 3) := by decide +kernel
theorem dX9_init_282 : decode cX9_init 282 = .ok (.goto (-16), 3) := by decide +kernel
theorem dX9_init_285 : decode cX9_init 285 = .ok (.iconst 0, 1) := by decide +kernel
theorem dX9_init_286 : decode cX9_init 286 = .ok (.istore_n 1, 1) := by decide +kernel
theorem dX9_init_287 : decode cX9_init 287 = .ok (.iload_n 1, 1) := by decide +kernel
theorem dX9_init_288 : decode cX9_init 288 = .ok (.bipush 16, 2) := by decide +kernel
theorem dX9_init_290 : decode cX9_init 290 = .ok (.if_icmp .ge 16, 3) := by decide +kernel
theorem dX9_init_293 : decode cX9_init 293 = .ok (.aload_n 0, 1) := by decide +kernel
theorem dX9_init_294 : decode cX9_init 294 = .ok (.getfield 102, 3) := by decide +kernel
theorem dX9_init_297 : decode cX9_init 297 = .ok (.iload_n 1, 1) := by decide +kernel
theorem dX9_init_298 : decode cX9_init 298 = .ok (.iconst 1, 1) := by decide +kernel
theorem dX9_init_299 : decode cX9_init 299 = .ok (.bastore, 1) := by decide +kernel
theorem dX9_init_300 : decode cX9_init 300 = .ok (.iinc 1 1, 3) := by decide +kernel
theorem dX9_init_303 : decode cX9_init 303 = .ok (.goto (-16), 3) := by decide +kernel
theorem dX9_init_306 : decode cX9_init 306 = .ok (.return_, 1) := by decide +kernel
theorem dX9_in_0 : decode cX9_in 0 = .ok (.lload_n 0, 1) := by decide +kernel
theorem dX9_in_1 : decode cX9_in 1 = .ok (.lload_n 2, 1) := by decide +kernel
theorem dX9_in_2 : decode cX9_in 2 = .ok (.lcmp, 1) := by decide +kernel
theorem dX9_in_3 : decode cX9_in 3 = .ok (.ifCond .lt 14, 3) := by decide +kernel
theorem dX9_in_6 : decode cX9_in 6 = .ok (.lload_n 0, 1) := by decide +kernel
theorem dX9_in_7 : decode cX9_in 7 = .ok (.lload 4, 2) := by decide +kernel
theorem dX9_in_9 : decode cX9_in 9 = .ok (.lcmp, 1) := by decide +kernel
theorem dX9_in_10 : decode cX9_in 10 = .ok (.ifCond .gt 7, 3) := by decide +kernel
theorem dX9_in_13 : decode cX9_in 13 = .ok (.iconst 1, 1) := by decide +kernel
theorem dX9_in_14 : decode cX9_in 14 = .ok (.goto 4, 3) := by decide +kernel
theorem dX9_in_17 : decode cX9_in 17 = .ok (.iconst 0, 1) := by decide +kernel
theorem dX9_in_18 : decode cX9_in 18 = .ok (.ireturn, 1) := by decide +kernel
theorem dX9_met_0 : decode cX9_met 0 = .ok (.aload_n 0, 1) := by decide +kernel
theorem dX9_met_1 : decode cX9_met 1 = .ok (.iload_n 1, 1) := by decide +kernel
theorem dX9_met_2 : decode cX9_met 2 = .ok (.putfield 114, 3) := by decide +kernel
theorem dX9_met_5 : decode cX9_met 5 = .ok (.bipush (-10), 2) := by decide +kernel
theorem dX9_met_7 : decode cX9_met 7 = .ok (.iload_n 1, 1) := by decide +kernel
theorem dX9_met_8 : decode cX9_met 8 = .ok (.isub, 1) := by decide +kernel
theorem dX9_met_9 : decode cX9_met 9 = .ok (.ireturn, 1) := by decide +kernel
theorem dX9_isReel_0 : decode cX9_isReel 0 = .ok (.iload_n 0, 1) := by decide +kernel
theorem dX9_isReel_1 : decode cX9_isReel 1 = .ok (.i2l, 1) := by decide +kernel
theorem dX9_isReel_2 : decode cX9_isReel 2 = .ok (.lconst 0, 1) := by decide +kernel
theorem dX9_isReel_3 : decode cX9_isReel 3 = .ok (.ldc2_w 117, 3) := by decide +kernel
theorem dX9_isReel_6 : decode cX9_isReel 6 = .ok (.invokestatic 119, 3) := by decide +kernel
theorem dX9_isReel_9 : decode cX9_isReel 9 = .ok (.ireturn, 1) := by decide +kernel
theorem dX9_reel_0 : decode cX9_reel 0 = .ok (.iload_n 1, 1) := by decide +kernel
theorem dX9_reel_1 : decode cX9_reel 1 = .ok (.invokestatic 123, 3) := by decide +kernel
theorem dX9_reel_4 : decode cX9_reel 4 = .ok (.ifCond .eq 21, 3) := by decide +kernel
theorem dX9_reel_7 : decode cX9_reel 7 = .ok (.iload_n 2, 1) := by decide +kernel
theorem dX9_reel_8 : decode cX9_reel 8 = .ok (.i2l, 1) := by decide +kernel
theorem dX9_reel_9 : decode cX9_reel 9 = .ok (.lconst 0, 1) := by decide +kernel
theorem dX9_reel_10 : decode cX9_reel 10 = .ok (.ldc2_w 127, 3) := by decide +kernel
theorem dX9_reel_13 : decode cX9_reel 13 = .ok (.invokestatic 119, 3) := by decide +kernel
theorem dX9_reel_16 : decode cX9_reel 16 = .ok (.ifCond .eq 9, 3) := by decide +kernel
theorem dX9_reel_19 : decode cX9_reel 19 = .ok (.iload_n 3, 1) := by decide +kernel
theorem dX9_reel_20 : decode cX9_reel 20 = .ok (.bipush 64, 2) := by decide +kernel
theorem dX9_reel_22 : decode cX9_reel 22 = .ok (.if_icmp .le 7, 3) := by decide +kernel
theorem dX9_reel_25 : decode cX9_reel 25 = .ok (.sipush (-2000), 3) := by decide +kernel
theorem dX9_reel_28 : decode cX9_reel 28 = .ok (.ireturn, 1) := by decide +kernel
theorem dX9_reel_29 : decode cX9_reel 29 = .ok (.iload_n 3, 1) := by decide +kernel
theorem dX9_reel_30 : decode cX9_reel 30 = .ok (.ifCond .ge 9, 3) := by decide +kernel
theorem dX9_reel_33 : decode cX9_reel 33 = .ok (.aload_n 0, 1) := by decide +kernel
theorem dX9_reel_34 : decode cX9_reel 34 = .ok (.iconst 5, 1) := by decide +kernel
theorem dX9_reel_35 : decode cX9_reel 35 = .ok (.invokevirtual 129, 3) := by decide +kernel
theorem dX9_reel_38 : decode cX9_reel 38 = .ok (.ireturn, 1) := by decide +kernel
theorem dX9_reel_39 : decode cX9_reel 39 = .ok (.aload_n 0, 1) := by decide +kernel
theorem dX9_reel_40 : decode cX9_reel 40 = .ok (.getfield 7, 3) := by decide +kernel
theorem dX9_reel_43 : decode cX9_reel 43 = .ok (.iload_n 1, 1) := by decide +kernel
theorem dX9_reel_44 : decode cX9_reel 44 = .ok (.iload_n 2, 1) := by decide +kernel
theorem dX9_reel_45 : decode cX9_reel 45 = .ok (.iastore, 1) := by decide +kernel
theorem dX9_reel_46 : decode cX9_reel 46 = .ok (.aload_n 0, 1) := by decide +kernel
theorem dX9_reel_47 : decode cX9_reel 47 = .ok (.getfield 13, 3) := by decide +kernel
theorem dX9_reel_50 : decode cX9_reel 50 = .ok (.iload_n 1, 1) := by decide +kernel
theorem dX9_reel_51 : decode cX9_reel 51 = .ok (.iload_n 3, 1) := by decide +kernel
theorem dX9_reel_52 : decode cX9_reel 52 = .ok (.iastore, 1) := by decide +kernel
theorem dX9_reel_53 : decode cX9_reel 53 = .ok (.iconst 0, 1) := by decide +kernel
theorem dX9_reel_54 : decode cX9_reel 54 = .ok (.istore 4, 2) := by decide +kernel
theorem dX9_reel_56 : decode cX9_reel 56 = .ok (.iload 4, 2) := by decide +kernel
theorem dX9_reel_58 : decode cX9_reel 58 = .ok (.iload_n 3, 1) := by decide +kernel
theorem dX9_reel_59 : decode cX9_reel 59 = .ok (.if_icmp .ge 22, 3) := by decide +kernel
theorem dX9_reel_62 : decode cX9_reel 62 = .ok (.aload_n 0, 1) := by decide +kernel
theorem dX9_reel_63 : decode cX9_reel 63 = .ok (.getfield 16, 3) := by decide +kernel
theorem dX9_reel_66 : decode cX9_reel 66 = .ok (.bipush 64, 2) := by decide +kernel
theorem dX9_reel_68 : decode cX9_reel 68 = .ok (.iload_n 1, 1) := by decide +kernel
theorem dX9_reel_69 : decode cX9_reel 69 = .ok (.imul, 1) := by decide +kernel
theorem dX9_reel_70 : decode cX9_reel 70 = .ok (.iload 4, 2) := by decide +kernel
theorem dX9_reel_72 : decode cX9_reel 72 = .ok (.iadd, 1) := by decide +kernel
theorem dX9_reel_73 : decode cX9_reel 73 = .ok (.iconst 0, 1) := by decide +kernel
theorem dX9_reel_74 : decode cX9_reel 74 = .ok (.iastore, 1) := by decide +kernel
theorem dX9_reel_75 : decode cX9_reel 75 = .ok (.iinc 4 1, 3) := by decide +kernel
theorem dX9_reel_78 : decode cX9_reel 78 = .ok (.goto (-22), 3) := by decide +kernel
theorem dX9_reel_81 : decode cX9_reel 81 = .ok (.iload_n 3, 1) := by decide +kernel
theorem dX9_reel_82 : decode cX9_reel 82 = .ok (.ireturn, 1) := by decide +kernel
theorem dX9_lose_0 : decode cX9_lose 0 = .ok (.iload_n 1, 1) := by decide +kernel
theorem dX9_lose_1 : decode cX9_lose 1 = .ok (.invokestatic 123, 3) := by decide +kernel
theorem dX9_lose_4 : decode cX9_lose 4 = .ok (.ifCond .ne 7, 3) := by decide +kernel
theorem dX9_lose_7 : decode cX9_lose 7 = .ok (.sipush (-2000), 3) := by decide +kernel
theorem dX9_lose_10 : decode cX9_lose 10 = .ok (.ireturn, 1) := by decide +kernel
theorem dX9_lose_11 : decode cX9_lose 11 = .ok (.aload_n 0, 1) := by decide +kernel
theorem dX9_lose_12 : decode cX9_lose 12 = .ok (.getfield 7, 3) := by decide +kernel
theorem dX9_lose_15 : decode cX9_lose 15 = .ok (.iload_n 1, 1) := by decide +kernel
theorem dX9_lose_16 : decode cX9_lose 16 = .ok (.iaload, 1) := by decide +kernel
theorem dX9_lose_17 : decode cX9_lose 17 = .ok (.ifCond .ge 9, 3) := by decide +kernel
theorem dX9_lose_20 : decode cX9_lose 20 = .ok (.aload_n 0, 1) := by decide +kernel
theorem dX9_lose_21 : decode cX9_lose 21 = .ok (.iconst 1, 1) := by decide +kernel
theorem dX9_lose_22 : decode cX9_lose 22 = .ok (.invokevirtual 129, 3) := by decide +kernel
theorem dX9_lose_25 : decode cX9_lose 25 = .ok (.ireturn, 1) := by decide +kernel
theorem dX9_lose_26 : decode cX9_lose 26 = .ok (.aload_n 0, 1) := by decide +kernel
theorem dX9_lose_27 : decode cX9_lose 27 = .ok (.getfield 7, 3) := by decide +kernel
theorem dX9_lose_30 : decode cX9_lose 30 = .ok (.iload_n 1, 1) := by decide +kernel
theorem dX9_lose_31 : decode cX9_lose 31 = .ok (.iconst (-1), 1) := by decide +kernel
theorem dX9_lose_32 : decode cX9_lose 32 = .ok (.iastore, 1) := by decide +kernel
theorem dX9_lose_33 : decode cX9_lose 33 = .ok (.aload_n 0, 1) := by decide +kernel
theorem dX9_lose_34 : decode cX9_lose 34 = .ok (.getfield 13, 3) := by decide +kernel
theorem dX9_lose_37 : decode cX9_lose 37 = .ok (.iload_n 1, 1) := by decide +kernel
theorem dX9_lose_38 : decode cX9_lose 38 = .ok (.iaload, 1) := by decide +kernel
theorem dX9_lose_39 : decode cX9_lose 39 = .ok (.ireturn, 1) := by decide +kernel
theorem dX9_lacks_0 : decode cX9_lacks 0 = .ok (.aload_n 0, 1) := by decide +kernel
theorem dX9_lacks_1 : decode cX9_lacks 1 = .ok (.getfield 7, 3) := by decide +kernel
theorem dX9_lacks_4 : decode cX9_lacks 4 = .ok (.iload_n 1, 1) := by decide +kernel
theorem dX9_lacks_5 : decode cX9_lacks 5 = .ok (.iaload, 1) := by decide +kernel
theorem dX9_lacks_6 : decode cX9_lacks 6 = .ok (.ifCond .ge 9, 3) := by decide +kernel
theorem dX9_lacks_9 : decode cX9_lacks 9 = .ok (.aload_n 0, 1) := by decide +kernel
theorem dX9_lacks_10 : decode cX9_lacks 10 = .ok (.iconst 1, 1) := by decide +kernel
theorem dX9_lacks_11 : decode cX9_lacks 11 = .ok (.invokevirtual 129, 3) := by decide +kernel
theorem dX9_lacks_14 : decode cX9_lacks 14 = .ok (.ireturn, 1) := by decide +kernel
theorem dX9_lacks_15 : decode cX9_lacks 15 = .ok (.aload_n 0, 1) := by decide +kernel
theorem dX9_lacks_16 : decode cX9_lacks 16 = .ok (.getfield 7, 3) := by decide +kernel
theorem dX9_lacks_19 : decode cX9_lacks 19 = .ok (.iload_n 1, 1) := by decide +kernel
theorem dX9_lacks_20 : decode cX9_lacks 20 = .ok (.iaload, 1) := by decide +kernel
theorem dX9_lacks_21 : decode cX9_lacks 21 = .ok (.iload_n 2, 1) := by decide +kernel
theorem dX9_lacks_22 : decode cX9_lacks 22 = .ok (.if_icmp .eq 9, 3) := by decide +kernel
theorem dX9_lacks_25 : decode cX9_lacks 25 = .ok (.aload_n 0, 1) := by decide +kernel
theorem dX9_lacks_26 : decode cX9_lacks 26 = .ok (.iconst 3, 1) := by decide +kernel
theorem dX9_lacks_27 : decode cX9_lacks 27 = .ok (.invokevirtual 129, 3) := by decide +kernel
theorem dX9_lacks_30 : decode cX9_lacks 30 = .ok (.ireturn, 1) := by decide +kernel
theorem dX9_lacks_31 : decode cX9_lacks 31 = .ok (.iload_n 3, 1) := by decide +kernel
theorem dX9_lacks_32 : decode cX9_lacks 32 = .ok (.i2l, 1) := by decide +kernel
theorem dX9_lacks_33 : decode cX9_lacks 33 = .ok (.lconst 0, 1) := by decide +kernel
theorem dX9_lacks_34 : decode cX9_lacks 34 = .ok (.aload_n 0, 1) := by decide +kernel
theorem dX9_lacks_35 : decode cX9_lacks 35 = .ok (.getfield 13, 3) := by decide +kernel
theorem dX9_lacks_38 : decode cX9_lacks 38 = .ok (.iload_n 1, 1) := by decide +kernel
theorem dX9_lacks_39 : decode cX9_lacks 39 = .ok (.iaload, 1) := by decide +kernel
theorem dX9_lacks_40 : decode cX9_lacks 40 = .ok (.iconst 1, 1) := by decide +kernel
theorem dX9_lacks_41 : decode cX9_lacks 41 = .ok (.isub, 1) := by decide +kernel
theorem dX9_lacks_42 : decode cX9_lacks 42 = .ok (.i2l, 1) := by decide +kernel
theorem dX9_lacks_43 : decode cX9_lacks 43 = .ok (.invokestatic 119, 3) := by decide +kernel
theorem dX9_lacks_46 : decode cX9_lacks 46 = .ok (.ifCond .eq 7, 3) := by decide +kernel
theorem dX9_lacks_49 : decode cX9_lacks 49 = .ok (.iconst 0, 1) := by decide +kernel
theorem dX9_lacks_50 : decode cX9_lacks 50 = .ok (.goto 8, 3) := by decide +kernel
theorem dX9_lacks_53 : decode cX9_lacks 53 = .ok (.aload_n 0, 1) := by decide +kernel
theorem dX9_lacks_54 : decode cX9_lacks 54 = .ok (.iconst 2, 1) := by decide +kernel
theorem dX9_lacks_55 : decode cX9_lacks 55 = .ok (.invokevirtual 129, 3) := by decide +kernel
theorem dX9_lacks_58 : decode cX9_lacks 58 = .ok (.ireturn, 1) := by decide +kernel
theorem dX9_cut_0 : decode cX9_cut 0 = .ok (.iload_n 0, 1) := by decide +kernel
theorem dX9_cut_1 : decode cX9_cut 1 = .ok (.ifCond .ne 8, 3) := by decide +kernel
theorem dX9_cut_4 : decode cX9_cut 4 = .ok (.iload_n 1, 1) := by decide +kernel
theorem dX9_cut_5 : decode cX9_cut 5 = .ok (.i2b, 1) := by decide +kernel
theorem dX9_cut_6 : decode cX9_cut 6 = .ok (.goto 14, 3) := by decide +kernel
theorem dX9_cut_9 : decode cX9_cut 9 = .ok (.iload_n 0, 1) := by decide +kernel
theorem dX9_cut_10 : decode cX9_cut 10 = .ok (.iconst 1, 1) := by decide +kernel
theorem dX9_cut_11 : decode cX9_cut 11 = .ok (.if_icmp .ne 8, 3) := by decide +kernel
theorem dX9_cut_14 : decode cX9_cut 14 = .ok (.iload_n 1, 1) := by decide +kernel
theorem dX9_cut_15 : decode cX9_cut 15 = .ok (.i2s, 1) := by decide +kernel
theorem dX9_cut_16 : decode cX9_cut 16 = .ok (.goto 4, 3) := by decide +kernel
theorem dX9_cut_19 : decode cX9_cut 19 = .ok (.iload_n 1, 1) := by decide +kernel
theorem dX9_cut_20 : decode cX9_cut 20 = .ok (.ireturn, 1) := by decide +kernel
theorem dX9_put_0 : decode cX9_put 0 = .ok (.iload_n 1, 1) := by decide +kernel
theorem dX9_put_1 : decode cX9_put 1 = .ok (.invokestatic 123, 3) := by decide +kernel
theorem dX9_put_4 : decode cX9_put 4 = .ok (.ifCond .eq 15, 3) := by decide +kernel
theorem dX9_put_7 : decode cX9_put 7 = .ok (.iload_n 2, 1) := by decide +kernel
theorem dX9_put_8 : decode cX9_put 8 = .ok (.i2l, 1) := by decide +kernel
theorem dX9_put_9 : decode cX9_put 9 = .ok (.lconst 0, 1) := by decide +kernel
theorem dX9_put_10 : decode cX9_put 10 = .ok (.ldc2_w 127, 3) := by decide +kernel
theorem dX9_put_13 : decode cX9_put 13 = .ok (.invokestatic 119, 3) := by decide +kernel
theorem dX9_put_16 : decode cX9_put 16 = .ok (.ifCond .ne 7, 3) := by decide +kernel
theorem dX9_put_19 : decode cX9_put 19 = .ok (.sipush (-2000), 3) := by decide +kernel
theorem dX9_put_22 : decode cX9_put 22 = .ok (.ireturn, 1) := by decide +kernel
theorem dX9_put_23 : decode cX9_put 23 = .ok (.aload_n 0, 1) := by decide +kernel
theorem dX9_put_24 : decode cX9_put 24 = .ok (.iload_n 1, 1) := by decide +kernel
theorem dX9_put_25 : decode cX9_put 25 = .ok (.iload_n 2, 1) := by decide +kernel
theorem dX9_put_26 : decode cX9_put 26 = .ok (.iload_n 3, 1) := by decide +kernel
theorem dX9_put_27 : decode cX9_put 27 = .ok (.invokevirtual 133, 3) := by decide +kernel
theorem dX9_put_30 : decode cX9_put 30 = .ok (.istore 5, 2) := by decide +kernel
theorem dX9_put_32 : decode cX9_put 32 = .ok (.iload 5, 2) := by decide +kernel
theorem dX9_put_34 : decode cX9_put 34 = .ok (.ifCond .eq 6, 3) := by decide +kernel
theorem dX9_put_37 : decode cX9_put 37 = .ok (.iload 5, 2) := by decide +kernel
theorem dX9_put_39 : decode cX9_put 39 = .ok (.ireturn, 1) := by decide +kernel
theorem dX9_put_40 : decode cX9_put 40 = .ok (.aload_n 0, 1) := by decide +kernel
theorem dX9_put_41 : decode cX9_put 41 = .ok (.getfield 16, 3) := by decide +kernel
theorem dX9_put_44 : decode cX9_put 44 = .ok (.bipush 64, 2) := by decide +kernel
theorem dX9_put_46 : decode cX9_put 46 = .ok (.iload_n 1, 1) := by decide +kernel
theorem dX9_put_47 : decode cX9_put 47 = .ok (.imul, 1) := by decide +kernel
theorem dX9_put_48 : decode cX9_put 48 = .ok (.iload_n 3, 1) := by decide +kernel
theorem dX9_put_49 : decode cX9_put 49 = .ok (.iadd, 1) := by decide +kernel
theorem dX9_put_50 : decode cX9_put 50 = .ok (.iload_n 2, 1) := by decide +kernel
theorem dX9_put_51 : decode cX9_put 51 = .ok (.iload 4, 2) := by decide +kernel
theorem dX9_put_53 : decode cX9_put 53 = .ok (.invokestatic 137, 3) := by decide +kernel
theorem dX9_put_56 : decode cX9_put 56 = .ok (.iastore, 1) := by decide +kernel
theorem dX9_put_57 : decode cX9_put 57 = .ok (.iconst 1, 1) := by decide +kernel
theorem dX9_put_58 : decode cX9_put 58 = .ok (.ireturn, 1) := by decide +kernel
theorem dX9_get_0 : decode cX9_get 0 = .ok (.iload_n 1, 1) := by decide +kernel
theorem dX9_get_1 : decode cX9_get 1 = .ok (.invokestatic 123, 3) := by decide +kernel
theorem dX9_get_4 : decode cX9_get 4 = .ok (.ifCond .eq 25, 3) := by decide +kernel
theorem dX9_get_7 : decode cX9_get 7 = .ok (.iload_n 2, 1) := by decide +kernel
theorem dX9_get_8 : decode cX9_get 8 = .ok (.i2l, 1) := by decide +kernel
theorem dX9_get_9 : decode cX9_get 9 = .ok (.lconst 0, 1) := by decide +kernel
theorem dX9_get_10 : decode cX9_get 10 = .ok (.ldc2_w 127, 3) := by decide +kernel
theorem dX9_get_13 : decode cX9_get 13 = .ok (.invokestatic 119, 3) := by decide +kernel
theorem dX9_get_16 : decode cX9_get 16 = .ok (.ifCond .eq 13, 3) := by decide +kernel
theorem dX9_get_19 : decode cX9_get 19 = .ok (.aload_n 0, 1) := by decide +kernel
theorem dX9_get_20 : decode cX9_get 20 = .ok (.iload_n 1, 1) := by decide +kernel
theorem dX9_get_21 : decode cX9_get 21 = .ok (.iload_n 2, 1) := by decide +kernel
theorem dX9_get_22 : decode cX9_get 22 = .ok (.iload_n 3, 1) := by decide +kernel
theorem dX9_get_23 : decode cX9_get 23 = .ok (.invokevirtual 133, 3) := by decide +kernel
theorem dX9_get_26 : decode cX9_get 26 = .ok (.ifCond .eq 6, 3) := by decide +kernel
theorem dX9_get_29 : decode cX9_get 29 = .ok (.ldc 141, 2) := by decide +kernel
theorem dX9_get_31 : decode cX9_get 31 = .ok (.ireturn, 1) := by decide +kernel
theorem dX9_get_32 : decode cX9_get 32 = .ok (.aload_n 0, 1) := by decide +kernel
theorem dX9_get_33 : decode cX9_get 33 = .ok (.getfield 16, 3) := by decide +kernel
theorem dX9_get_36 : decode cX9_get 36 = .ok (.bipush 64, 2) := by decide +kernel
theorem dX9_get_38 : decode cX9_get 38 = .ok (.iload_n 1, 1) := by decide +kernel
theorem dX9_get_39 : decode cX9_get 39 = .ok (.imul, 1) := by decide +kernel
theorem dX9_get_40 : decode cX9_get 40 = .ok (.iload_n 3, 1) := by decide +kernel
theorem dX9_get_41 : decode cX9_get 41 = .ok (.iadd, 1) := by decide +kernel
theorem dX9_get_42 : decode cX9_get 42 = .ok (.iaload, 1) := by decide +kernel
theorem dX9_get_43 : decode cX9_get 43 = .ok (.ireturn, 1) := by decide +kernel
theorem dX9_copy_0 : decode cX9_copy 0 = .ok (.iload_n 1, 1) := by decide +kernel
theorem dX9_copy_1 : decode cX9_copy 1 = .ok (.invokestatic 123, 3) := by decide +kernel
theorem dX9_copy_4 : decode cX9_copy 4 = .ok (.ifCond .eq 10, 3) := by decide +kernel
theorem dX9_copy_7 : decode cX9_copy 7 = .ok (.iload_n 3, 1) := by decide +kernel
theorem dX9_copy_8 : decode cX9_copy 8 = .ok (.invokestatic 123, 3) := by decide +kernel
theorem dX9_copy_11 : decode cX9_copy 11 = .ok (.ifCond .ne 7, 3) := by decide +kernel
theorem dX9_copy_14 : decode cX9_copy 14 = .ok (.sipush (-2000), 3) := by decide +kernel
theorem dX9_copy_17 : decode cX9_copy 17 = .ok (.ireturn, 1) := by decide +kernel
theorem dX9_copy_18 : decode cX9_copy 18 = .ok (.aload_n 0, 1) := by decide +kernel
theorem dX9_copy_19 : decode cX9_copy 19 = .ok (.getfield 7, 3) := by decide +kernel
theorem dX9_copy_22 : decode cX9_copy 22 = .ok (.iload_n 1, 1) := by decide +kernel
theorem dX9_copy_23 : decode cX9_copy 23 = .ok (.iaload, 1) := by decide +kernel
theorem dX9_copy_24 : decode cX9_copy 24 = .ok (.ifCond .lt 12, 3) := by decide +kernel
theorem dX9_copy_27 : decode cX9_copy 27 = .ok (.aload_n 0, 1) := by decide +kernel
theorem dX9_copy_28 : decode cX9_copy 28 = .ok (.getfield 7, 3) := by decide +kernel
theorem dX9_copy_31 : decode cX9_copy 31 = .ok (.iload_n 3, 1) := by decide +kernel
theorem dX9_copy_32 : decode cX9_copy 32 = .ok (.iaload, 1) := by decide +kernel
theorem dX9_copy_33 : decode cX9_copy 33 = .ok (.ifCond .ge 9, 3) := by decide +kernel
theorem dX9_copy_36 : decode cX9_copy 36 = .ok (.aload_n 0, 1) := by decide +kernel
theorem dX9_copy_37 : decode cX9_copy 37 = .ok (.iconst 1, 1) := by decide +kernel
theorem dX9_copy_38 : decode cX9_copy 38 = .ok (.invokevirtual 129, 3) := by decide +kernel
theorem dX9_copy_41 : decode cX9_copy 41 = .ok (.ireturn, 1) := by decide +kernel
theorem dX9_copy_42 : decode cX9_copy 42 = .ok (.aload_n 0, 1) := by decide +kernel
theorem dX9_copy_43 : decode cX9_copy 43 = .ok (.getfield 7, 3) := by decide +kernel
theorem dX9_copy_46 : decode cX9_copy 46 = .ok (.iload_n 1, 1) := by decide +kernel
theorem dX9_copy_47 : decode cX9_copy 47 = .ok (.iaload, 1) := by decide +kernel
theorem dX9_copy_48 : decode cX9_copy 48 = .ok (.aload_n 0, 1) := by decide +kernel
theorem dX9_copy_49 : decode cX9_copy 49 = .ok (.getfield 7, 3) := by decide +kernel
theorem dX9_copy_52 : decode cX9_copy 52 = .ok (.iload_n 3, 1) := by decide +kernel
theorem dX9_copy_53 : decode cX9_copy 53 = .ok (.iaload, 1) := by decide +kernel
theorem dX9_copy_54 : decode cX9_copy 54 = .ok (.if_icmp .eq 9, 3) := by decide +kernel
theorem dX9_copy_57 : decode cX9_copy 57 = .ok (.aload_n 0, 1) := by decide +kernel
theorem dX9_copy_58 : decode cX9_copy 58 = .ok (.iconst 4, 1) := by decide +kernel
theorem dX9_copy_59 : decode cX9_copy 59 = .ok (.invokevirtual 129, 3) := by decide +kernel
theorem dX9_copy_62 : decode cX9_copy 62 = .ok (.ireturn, 1) := by decide +kernel
theorem dX9_copy_63 : decode cX9_copy 63 = .ok (.iload_n 2, 1) := by decide +kernel
theorem dX9_copy_64 : decode cX9_copy 64 = .ok (.ifCond .lt 48, 3) := by decide +kernel
theorem dX9_copy_67 : decode cX9_copy 67 = .ok (.iload 4, 2) := by decide +kernel
theorem dX9_copy_69 : decode cX9_copy 69 = .ok (.ifCond .lt 43, 3) := by decide +kernel
theorem dX9_copy_72 : decode cX9_copy 72 = .ok (.iload 5, 2) := by decide +kernel
theorem dX9_copy_74 : decode cX9_copy 74 = .ok (.ifCond .lt 38, 3) := by decide +kernel
theorem dX9_copy_77 : decode cX9_copy 77 = .ok (.iload_n 2, 1) := by decide +kernel
theorem dX9_copy_78 : decode cX9_copy 78 = .ok (.i2l, 1) := by decide +kernel
theorem dX9_copy_79 : decode cX9_copy 79 = .ok (.iload 5, 2) := by decide +kernel
theorem dX9_copy_81 : decode cX9_copy 81 = .ok (.i2l, 1) := by decide +kernel
theorem dX9_copy_82 : decode cX9_copy 82 = .ok (.ladd, 1) := by decide +kernel
theorem dX9_copy_83 : decode cX9_copy 83 = .ok (.aload_n 0, 1) := by decide +kernel
theorem dX9_copy_84 : decode cX9_copy 84 = .ok (.getfield 13, 3) := by decide +kernel
theorem dX9_copy_87 : decode cX9_copy 87 = .ok (.iload_n 1, 1) := by decide +kernel
theorem dX9_copy_88 : decode cX9_copy 88 = .ok (.iaload, 1) := by decide +kernel
theorem dX9_copy_89 : decode cX9_copy 89 = .ok (.i2l, 1) := by decide +kernel
theorem dX9_copy_90 : decode cX9_copy 90 = .ok (.lcmp, 1) := by decide +kernel
theorem dX9_copy_91 : decode cX9_copy 91 = .ok (.ifCond .gt 21, 3) := by decide +kernel
theorem dX9_copy_94 : decode cX9_copy 94 = .ok (.iload 4, 2) := by decide +kernel
theorem dX9_copy_96 : decode cX9_copy 96 = .ok (.i2l, 1) := by decide +kernel
theorem dX9_copy_97 : decode cX9_copy 97 = .ok (.iload 5, 2) := by decide +kernel
theorem dX9_copy_99 : decode cX9_copy 99 = .ok (.i2l, 1) := by decide +kernel
theorem dX9_copy_100 : decode cX9_copy 100 = .ok (.ladd, 1) := by decide +kernel
theorem dX9_copy_101 : decode cX9_copy 101 = .ok (.aload_n 0, 1) := by decide +kernel
theorem dX9_copy_102 : decode cX9_copy 102 = .ok (.getfield 13, 3) := by decide +kernel
theorem dX9_copy_105 : decode cX9_copy 105 = .ok (.iload_n 3, 1) := by decide +kernel
theorem dX9_copy_106 : decode cX9_copy 106 = .ok (.iaload, 1) := by decide +kernel
theorem dX9_copy_107 : decode cX9_copy 107 = .ok (.i2l, 1) := by decide +kernel
theorem dX9_copy_108 : decode cX9_copy 108 = .ok (.lcmp, 1) := by decide +kernel
theorem dX9_copy_109 : decode cX9_copy 109 = .ok (.ifCond .le 9, 3) := by decide +kernel
theorem dX9_copy_112 : decode cX9_copy 112 = .ok (.aload_n 0, 1) := by decide +kernel
theorem dX9_copy_113 : decode cX9_copy 113 = .ok (.iconst 2, 1) := by decide +kernel
theorem dX9_copy_114 : decode cX9_copy 114 = .ok (.invokevirtual 129, 3) := by decide +kernel
theorem dX9_copy_117 : decode cX9_copy 117 = .ok (.ireturn, 1) := by decide +kernel
theorem dX9_copy_118 : decode cX9_copy 118 = .ok (.iconst 0, 1) := by decide +kernel
theorem dX9_copy_119 : decode cX9_copy 119 = .ok (.istore 6, 2) := by decide +kernel
theorem dX9_copy_121 : decode cX9_copy 121 = .ok (.iload 6, 2) := by decide +kernel
theorem dX9_copy_123 : decode cX9_copy 123 = .ok (.iload 5, 2) := by decide +kernel
theorem dX9_copy_125 : decode cX9_copy 125 = .ok (.if_icmp .ge 30, 3) := by decide +kernel
theorem dX9_copy_128 : decode cX9_copy 128 = .ok (.aload_n 0, 1) := by decide +kernel
theorem dX9_copy_129 : decode cX9_copy 129 = .ok (.getfield 19, 3) := by decide +kernel
theorem dX9_copy_132 : decode cX9_copy 132 = .ok (.iload 6, 2) := by decide +kernel
theorem dX9_copy_134 : decode cX9_copy 134 = .ok (.aload_n 0, 1) := by decide +kernel
theorem dX9_copy_135 : decode cX9_copy 135 = .ok (.getfield 16, 3) := by decide +kernel
theorem dX9_copy_138 : decode cX9_copy 138 = .ok (.bipush 64, 2) := by decide +kernel
theorem dX9_copy_140 : decode cX9_copy 140 = .ok (.iload_n 1, 1) := by decide +kernel
theorem dX9_copy_141 : decode cX9_copy 141 = .ok (.imul, 1) := by decide +kernel
theorem dX9_copy_142 : decode cX9_copy 142 = .ok (.iload_n 2, 1) := by decide +kernel
theorem dX9_copy_143 : decode cX9_copy 143 = .ok (.iadd, 1) := by decide +kernel
theorem dX9_copy_144 : decode cX9_copy 144 = .ok (.iload 6, 2) := by decide +kernel
theorem dX9_copy_146 : decode cX9_copy 146 = .ok (.iadd, 1) := by decide +kernel
theorem dX9_copy_147 : decode cX9_copy 147 = .ok (.iaload, 1) := by decide +kernel
theorem dX9_copy_148 : decode cX9_copy 148 = .ok (.iastore, 1) := by decide +kernel
theorem dX9_copy_149 : decode cX9_copy 149 = .ok (.iinc 6 1, 3) := by decide +kernel
theorem dX9_copy_152 : decode cX9_copy 152 = .ok (.goto (-31), 3) := by decide +kernel
theorem dX9_copy_155 : decode cX9_copy 155 = .ok (.iconst 0, 1) := by decide +kernel
theorem dX9_copy_156 : decode cX9_copy 156 = .ok (.istore 6, 2) := by decide +kernel
theorem dX9_copy_158 : decode cX9_copy 158 = .ok (.iload 6, 2) := by decide +kernel
theorem dX9_copy_160 : decode cX9_copy 160 = .ok (.iload 5, 2) := by decide +kernel
theorem dX9_copy_162 : decode cX9_copy 162 = .ok (.if_icmp .ge 31, 3) := by decide +kernel
theorem dX9_copy_165 : decode cX9_copy 165 = .ok (.aload_n 0, 1) := by decide +kernel
theorem dX9_copy_166 : decode cX9_copy 166 = .ok (.getfield 16, 3) := by decide +kernel
theorem dX9_copy_169 : decode cX9_copy 169 = .ok (.bipush 64, 2) := by decide +kernel
theorem dX9_copy_171 : decode cX9_copy 171 = .ok (.iload_n 3, 1) := by decide +kernel
theorem dX9_copy_172 : decode cX9_copy 172 = .ok (.imul, 1) := by decide +kernel
theorem dX9_copy_173 : decode cX9_copy 173 = .ok (.iload 4, 2) := by decide +kernel
theorem dX9_copy_175 : decode cX9_copy 175 = .ok (.iadd, 1) := by decide +kernel
theorem dX9_copy_176 : decode cX9_copy 176 = .ok (.iload 6, 2) := by decide +kernel
theorem dX9_copy_178 : decode cX9_copy 178 = .ok (.iadd, 1) := by decide +kernel
theorem dX9_copy_179 : decode cX9_copy 179 = .ok (.aload_n 0, 1) := by decide +kernel
theorem dX9_copy_180 : decode cX9_copy 180 = .ok (.getfield 19, 3) := by decide +kernel
theorem dX9_copy_183 : decode cX9_copy 183 = .ok (.iload 6, 2) := by decide +kernel
theorem dX9_copy_185 : decode cX9_copy 185 = .ok (.iaload, 1) := by decide +kernel
theorem dX9_copy_186 : decode cX9_copy 186 = .ok (.iastore, 1) := by decide +kernel
theorem dX9_copy_187 : decode cX9_copy 187 = .ok (.iinc 6 1, 3) := by decide +kernel
theorem dX9_copy_190 : decode cX9_copy 190 = .ok (.goto (-32), 3) := by decide +kernel
theorem dX9_copy_193 : decode cX9_copy 193 = .ok (.iconst 1, 1) := by decide +kernel
theorem dX9_copy_194 : decode cX9_copy 194 = .ok (.ireturn, 1) := by decide +kernel
theorem dX9_paint_0 : decode cX9_paint 0 = .ok (.iload_n 1, 1) := by decide +kernel
theorem dX9_paint_1 : decode cX9_paint 1 = .ok (.invokestatic 123, 3) := by decide +kernel
theorem dX9_paint_4 : decode cX9_paint 4 = .ok (.ifCond .eq 26, 3) := by decide +kernel
theorem dX9_paint_7 : decode cX9_paint 7 = .ok (.iload_n 3, 1) := by decide +kernel
theorem dX9_paint_8 : decode cX9_paint 8 = .ok (.i2l, 1) := by decide +kernel
theorem dX9_paint_9 : decode cX9_paint 9 = .ok (.lconst 0, 1) := by decide +kernel
theorem dX9_paint_10 : decode cX9_paint 10 = .ok (.ldc2_w 142, 3) := by decide +kernel
theorem dX9_paint_13 : decode cX9_paint 13 = .ok (.invokestatic 119, 3) := by decide +kernel
theorem dX9_paint_16 : decode cX9_paint 16 = .ok (.ifCond .eq 14, 3) := by decide +kernel
theorem dX9_paint_19 : decode cX9_paint 19 = .ok (.iload_n 2, 1) := by decide +kernel
theorem dX9_paint_20 : decode cX9_paint 20 = .ok (.i2l, 1) := by decide +kernel
theorem dX9_paint_21 : decode cX9_paint 21 = .ok (.lconst 0, 1) := by decide +kernel
theorem dX9_paint_22 : decode cX9_paint 22 = .ok (.iload_n 3, 1) := by decide +kernel
theorem dX9_paint_23 : decode cX9_paint 23 = .ok (.i2l, 1) := by decide +kernel
theorem dX9_paint_24 : decode cX9_paint 24 = .ok (.invokestatic 119, 3) := by decide +kernel
theorem dX9_paint_27 : decode cX9_paint 27 = .ok (.ifCond .ne 7, 3) := by decide +kernel
theorem dX9_paint_30 : decode cX9_paint 30 = .ok (.sipush (-2000), 3) := by decide +kernel
theorem dX9_paint_33 : decode cX9_paint 33 = .ok (.ireturn, 1) := by decide +kernel
theorem dX9_paint_34 : decode cX9_paint 34 = .ok (.aload_n 0, 1) := by decide +kernel
theorem dX9_paint_35 : decode cX9_paint 35 = .ok (.getfield 7, 3) := by decide +kernel
theorem dX9_paint_38 : decode cX9_paint 38 = .ok (.iload_n 1, 1) := by decide +kernel
theorem dX9_paint_39 : decode cX9_paint 39 = .ok (.iaload, 1) := by decide +kernel
theorem dX9_paint_40 : decode cX9_paint 40 = .ok (.ifCond .ge 9, 3) := by decide +kernel
theorem dX9_paint_43 : decode cX9_paint 43 = .ok (.aload_n 0, 1) := by decide +kernel
theorem dX9_paint_44 : decode cX9_paint 44 = .ok (.iconst 1, 1) := by decide +kernel
theorem dX9_paint_45 : decode cX9_paint 45 = .ok (.invokevirtual 129, 3) := by decide +kernel
theorem dX9_paint_48 : decode cX9_paint 48 = .ok (.ireturn, 1) := by decide +kernel
theorem dX9_paint_49 : decode cX9_paint 49 = .ok (.iload_n 3, 1) := by decide +kernel
theorem dX9_paint_50 : decode cX9_paint 50 = .ok (.aload_n 0, 1) := by decide +kernel
theorem dX9_paint_51 : decode cX9_paint 51 = .ok (.getfield 13, 3) := by decide +kernel
theorem dX9_paint_54 : decode cX9_paint 54 = .ok (.iload_n 1, 1) := by decide +kernel
theorem dX9_paint_55 : decode cX9_paint 55 = .ok (.iaload, 1) := by decide +kernel
theorem dX9_paint_56 : decode cX9_paint 56 = .ok (.if_icmp .lt 9, 3) := by decide +kernel
theorem dX9_paint_59 : decode cX9_paint 59 = .ok (.aload_n 0, 1) := by decide +kernel
theorem dX9_paint_60 : decode cX9_paint 60 = .ok (.iconst 2, 1) := by decide +kernel
theorem dX9_paint_61 : decode cX9_paint 61 = .ok (.invokevirtual 129, 3) := by decide +kernel
theorem dX9_paint_64 : decode cX9_paint 64 = .ok (.ireturn, 1) := by decide +kernel
theorem dX9_paint_65 : decode cX9_paint 65 = .ok (.iload_n 2, 1) := by decide +kernel
theorem dX9_paint_66 : decode cX9_paint 66 = .ok (.istore 5, 2) := by decide +kernel
theorem dX9_paint_68 : decode cX9_paint 68 = .ok (.iload 5, 2) := by decide +kernel
theorem dX9_paint_70 : decode cX9_paint 70 = .ok (.iload_n 3, 1) := by decide +kernel
theorem dX9_paint_71 : decode cX9_paint 71 = .ok (.if_icmp .gt 32, 3) := by decide +kernel
theorem dX9_paint_74 : decode cX9_paint 74 = .ok (.aload_n 0, 1) := by decide +kernel
theorem dX9_paint_75 : decode cX9_paint 75 = .ok (.getfield 16, 3) := by decide +kernel
theorem dX9_paint_78 : decode cX9_paint 78 = .ok (.bipush 64, 2) := by decide +kernel
theorem dX9_paint_80 : decode cX9_paint 80 = .ok (.iload_n 1, 1) := by decide +kernel
theorem dX9_paint_81 : decode cX9_paint 81 = .ok (.imul, 1) := by decide +kernel
theorem dX9_paint_82 : decode cX9_paint 82 = .ok (.iload 5, 2) := by decide +kernel
theorem dX9_paint_84 : decode cX9_paint 84 = .ok (.iadd, 1) := by decide +kernel
theorem dX9_paint_85 : decode cX9_paint 85 = .ok (.aload_n 0, 1) := by decide +kernel
theorem dX9_paint_86 : decode cX9_paint 86 = .ok (.getfield 7, 3) := by decide +kernel
theorem dX9_paint_89 : decode cX9_paint 89 = .ok (.iload_n 1, 1) := by decide +kernel
theorem dX9_paint_90 : decode cX9_paint 90 = .ok (.iaload, 1) := by decide +kernel
theorem dX9_paint_91 : decode cX9_paint 91 = .ok (.iload 4, 2) := by decide +kernel
theorem dX9_paint_93 : decode cX9_paint 93 = .ok (.invokestatic 137, 3) := by decide +kernel
theorem dX9_paint_96 : decode cX9_paint 96 = .ok (.iastore, 1) := by decide +kernel
theorem dX9_paint_97 : decode cX9_paint 97 = .ok (.iinc 5 1, 3) := by decide +kernel
theorem dX9_paint_100 : decode cX9_paint 100 = .ok (.goto (-32), 3) := by decide +kernel
theorem dX9_paint_103 : decode cX9_paint 103 = .ok (.iload_n 3, 1) := by decide +kernel
theorem dX9_paint_104 : decode cX9_paint 104 = .ok (.iload_n 2, 1) := by decide +kernel
theorem dX9_paint_105 : decode cX9_paint 105 = .ok (.isub, 1) := by decide +kernel
theorem dX9_paint_106 : decode cX9_paint 106 = .ok (.iconst 1, 1) := by decide +kernel
theorem dX9_paint_107 : decode cX9_paint 107 = .ok (.iadd, 1) := by decide +kernel
theorem dX9_paint_108 : decode cX9_paint 108 = .ok (.ireturn, 1) := by decide +kernel
theorem dX9_reading_0 : decode cX9_reading 0 = .ok (.iconst 3, 1) := by decide +kernel
theorem dX9_reading_1 : decode cX9_reading 1 = .ok (.iload_n 1, 1) := by decide +kernel
theorem dX9_reading_2 : decode cX9_reading 2 = .ok (.imul, 1) := by decide +kernel
theorem dX9_reading_3 : decode cX9_reading 3 = .ok (.iload_n 2, 1) := by decide +kernel
theorem dX9_reading_4 : decode cX9_reading 4 = .ok (.iadd, 1) := by decide +kernel
theorem dX9_reading_5 : decode cX9_reading 5 = .ok (.istore 4, 2) := by decide +kernel
theorem dX9_reading_7 : decode cX9_reading 7 = .ok (.aload_n 0, 1) := by decide +kernel
theorem dX9_reading_8 : decode cX9_reading 8 = .ok (.getfield 7, 3) := by decide +kernel
theorem dX9_reading_11 : decode cX9_reading 11 = .ok (.iload 4, 2) := by decide +kernel
theorem dX9_reading_13 : decode cX9_reading 13 = .ok (.iaload, 1) := by decide +kernel
theorem dX9_reading_14 : decode cX9_reading 14 = .ok (.ifCond .lt 14, 3) := by decide +kernel
theorem dX9_reading_17 : decode cX9_reading 17 = .ok (.iload_n 3, 1) := by decide +kernel
theorem dX9_reading_18 : decode cX9_reading 18 = .ok (.aload_n 0, 1) := by decide +kernel
theorem dX9_reading_19 : decode cX9_reading 19 = .ok (.getfield 13, 3) := by decide +kernel
theorem dX9_reading_22 : decode cX9_reading 22 = .ok (.iload 4, 2) := by decide +kernel
theorem dX9_reading_24 : decode cX9_reading 24 = .ok (.iaload, 1) := by decide +kernel
theorem dX9_reading_25 : decode cX9_reading 25 = .ok (.if_icmp .lt 7, 3) := by decide +kernel
theorem dX9_reading_28 : decode cX9_reading 28 = .ok (.iconst (-1), 1) := by decide +kernel
theorem dX9_reading_29 : decode cX9_reading 29 = .ok (.goto 15, 3) := by decide +kernel
theorem dX9_reading_32 : decode cX9_reading 32 = .ok (.aload_n 0, 1) := by decide +kernel
theorem dX9_reading_33 : decode cX9_reading 33 = .ok (.getfield 16, 3) := by decide +kernel
theorem dX9_reading_36 : decode cX9_reading 36 = .ok (.bipush 64, 2) := by decide +kernel
theorem dX9_reading_38 : decode cX9_reading 38 = .ok (.iload 4, 2) := by decide +kernel
theorem dX9_reading_40 : decode cX9_reading 40 = .ok (.imul, 1) := by decide +kernel
theorem dX9_reading_41 : decode cX9_reading 41 = .ok (.iload_n 3, 1) := by decide +kernel
theorem dX9_reading_42 : decode cX9_reading 42 = .ok (.iadd, 1) := by decide +kernel
theorem dX9_reading_43 : decode cX9_reading 43 = .ok (.iaload, 1) := by decide +kernel
theorem dX9_reading_44 : decode cX9_reading 44 = .ok (.istore 5, 2) := by decide +kernel
theorem dX9_reading_46 : decode cX9_reading 46 = .ok (.iload 5, 2) := by decide +kernel
theorem dX9_reading_48 : decode cX9_reading 48 = .ok (.i2l, 1) := by decide +kernel
theorem dX9_reading_49 : decode cX9_reading 49 = .ok (.lconst 0, 1) := by decide +kernel
theorem dX9_reading_50 : decode cX9_reading 50 = .ok (.ldc2_w 144, 3) := by decide +kernel
theorem dX9_reading_53 : decode cX9_reading 53 = .ok (.invokestatic 119, 3) := by decide +kernel
theorem dX9_reading_56 : decode cX9_reading 56 = .ok (.ifCond .eq 8, 3) := by decide +kernel
theorem dX9_reading_59 : decode cX9_reading 59 = .ok (.iload 5, 2) := by decide +kernel
theorem dX9_reading_61 : decode cX9_reading 61 = .ok (.goto 4, 3) := by decide +kernel
theorem dX9_reading_64 : decode cX9_reading 64 = .ok (.iconst (-1), 1) := by decide +kernel
theorem dX9_reading_65 : decode cX9_reading 65 = .ok (.ireturn, 1) := by decide +kernel
theorem dX9_isDate_0 : decode cX9_isDate 0 = .ok (.iload_n 0, 1) := by decide +kernel
theorem dX9_isDate_1 : decode cX9_isDate 1 = .ok (.i2l, 1) := by decide +kernel
theorem dX9_isDate_2 : decode cX9_isDate 2 = .ok (.lconst 0, 1) := by decide +kernel
theorem dX9_isDate_3 : decode cX9_isDate 3 = .ok (.ldc2_w 146, 3) := by decide +kernel
theorem dX9_isDate_6 : decode cX9_isDate 6 = .ok (.invokestatic 119, 3) := by decide +kernel
theorem dX9_isDate_9 : decode cX9_isDate 9 = .ok (.ireturn, 1) := by decide +kernel
theorem dX9_isCell_0 : decode cX9_isCell 0 = .ok (.iload_n 0, 1) := by decide +kernel
theorem dX9_isCell_1 : decode cX9_isCell 1 = .ok (.i2l, 1) := by decide +kernel
theorem dX9_isCell_2 : decode cX9_isCell 2 = .ok (.lconst 0, 1) := by decide +kernel
theorem dX9_isCell_3 : decode cX9_isCell 3 = .ok (.ldc2_w 142, 3) := by decide +kernel
theorem dX9_isCell_6 : decode cX9_isCell 6 = .ok (.invokestatic 119, 3) := by decide +kernel
theorem dX9_isCell_9 : decode cX9_isCell 9 = .ok (.ireturn, 1) := by decide +kernel
theorem dX9_clouds_0 : decode cX9_clouds 0 = .ok (.iload_n 1, 1) := by decide +kernel
theorem dX9_clouds_1 : decode cX9_clouds 1 = .ok (.i2l, 1) := by decide +kernel
theorem dX9_clouds_2 : decode cX9_clouds 2 = .ok (.lconst 0, 1) := by decide +kernel
theorem dX9_clouds_3 : decode cX9_clouds 3 = .ok (.ldc2_w 144, 3) := by decide +kernel
theorem dX9_clouds_6 : decode cX9_clouds 6 = .ok (.invokestatic 119, 3) := by decide +kernel
theorem dX9_clouds_9 : decode cX9_clouds 9 = .ok (.ifCond .eq 15, 3) := by decide +kernel
theorem dX9_clouds_12 : decode cX9_clouds 12 = .ok (.iload_n 2, 1) := by decide +kernel
theorem dX9_clouds_13 : decode cX9_clouds 13 = .ok (.i2l, 1) := by decide +kernel
theorem dX9_clouds_14 : decode cX9_clouds 14 = .ok (.lconst 0, 1) := by decide +kernel
theorem dX9_clouds_15 : decode cX9_clouds 15 = .ok (.ldc2_w 148, 3) := by decide +kernel
theorem dX9_clouds_18 : decode cX9_clouds 18 = .ok (.invokestatic 119, 3) := by decide +kernel
theorem dX9_clouds_21 : decode cX9_clouds 21 = .ok (.ifCond .ne 7, 3) := by decide +kernel
theorem dX9_clouds_24 : decode cX9_clouds 24 = .ok (.sipush (-2000), 3) := by decide +kernel
theorem dX9_clouds_27 : decode cX9_clouds 27 = .ok (.ireturn, 1) := by decide +kernel
theorem dX9_clouds_28 : decode cX9_clouds 28 = .ok (.aload_n 0, 1) := by decide +kernel
theorem dX9_clouds_29 : decode cX9_clouds 29 = .ok (.iload_n 1, 1) := by decide +kernel
theorem dX9_clouds_30 : decode cX9_clouds 30 = .ok (.putfield 22, 3) := by decide +kernel
theorem dX9_clouds_33 : decode cX9_clouds 33 = .ok (.aload_n 0, 1) := by decide +kernel
theorem dX9_clouds_34 : decode cX9_clouds 34 = .ok (.iload_n 2, 1) := by decide +kernel
theorem dX9_clouds_35 : decode cX9_clouds 35 = .ok (.putfield 26, 3) := by decide +kernel
theorem dX9_clouds_38 : decode cX9_clouds 38 = .ok (.iconst 1, 1) := by decide +kernel
theorem dX9_clouds_39 : decode cX9_clouds 39 = .ok (.ireturn, 1) := by decide +kernel
theorem dX9_sun_0 : decode cX9_sun 0 = .ok (.iload_n 1, 1) := by decide +kernel
theorem dX9_sun_1 : decode cX9_sun 1 = .ok (.invokestatic 150, 3) := by decide +kernel
theorem dX9_sun_4 : decode cX9_sun 4 = .ok (.ifCond .eq 31, 3) := by decide +kernel
theorem dX9_sun_7 : decode cX9_sun 7 = .ok (.iload_n 2, 1) := by decide +kernel
theorem dX9_sun_8 : decode cX9_sun 8 = .ok (.i2l, 1) := by decide +kernel
theorem dX9_sun_9 : decode cX9_sun 9 = .ok (.ldc2_w 153, 3) := by decide +kernel
theorem dX9_sun_12 : decode cX9_sun 12 = .ok (.ldc2_w 127, 3) := by decide +kernel
theorem dX9_sun_15 : decode cX9_sun 15 = .ok (.invokestatic 119, 3) := by decide +kernel
theorem dX9_sun_18 : decode cX9_sun 18 = .ok (.ifCond .eq 17, 3) := by decide +kernel
theorem dX9_sun_21 : decode cX9_sun 21 = .ok (.iload_n 3, 1) := by decide +kernel
theorem dX9_sun_22 : decode cX9_sun 22 = .ok (.i2l, 1) := by decide +kernel
theorem dX9_sun_23 : decode cX9_sun 23 = .ok (.ldc2_w 153, 3) := by decide +kernel
theorem dX9_sun_26 : decode cX9_sun 26 = .ok (.ldc2_w 127, 3) := by decide +kernel
theorem dX9_sun_29 : decode cX9_sun 29 = .ok (.invokestatic 119, 3) := by decide +kernel
theorem dX9_sun_32 : decode cX9_sun 32 = .ok (.ifCond .ne 7, 3) := by decide +kernel
theorem dX9_sun_35 : decode cX9_sun 35 = .ok (.sipush (-2000), 3) := by decide +kernel
theorem dX9_sun_38 : decode cX9_sun 38 = .ok (.ireturn, 1) := by decide +kernel
theorem dX9_sun_39 : decode cX9_sun 39 = .ok (.aload_n 0, 1) := by decide +kernel
theorem dX9_sun_40 : decode cX9_sun 40 = .ok (.getfield 29, 3) := by decide +kernel
theorem dX9_sun_43 : decode cX9_sun 43 = .ok (.iload_n 1, 1) := by decide +kernel
theorem dX9_sun_44 : decode cX9_sun 44 = .ok (.iload_n 2, 1) := by decide +kernel
theorem dX9_sun_45 : decode cX9_sun 45 = .ok (.iastore, 1) := by decide +kernel
theorem dX9_sun_46 : decode cX9_sun 46 = .ok (.aload_n 0, 1) := by decide +kernel
theorem dX9_sun_47 : decode cX9_sun 47 = .ok (.getfield 32, 3) := by decide +kernel
theorem dX9_sun_50 : decode cX9_sun 50 = .ok (.iload_n 1, 1) := by decide +kernel
theorem dX9_sun_51 : decode cX9_sun 51 = .ok (.iload_n 3, 1) := by decide +kernel
theorem dX9_sun_52 : decode cX9_sun 52 = .ok (.iastore, 1) := by decide +kernel
theorem dX9_sun_53 : decode cX9_sun 53 = .ok (.iconst 1, 1) := by decide +kernel
theorem dX9_sun_54 : decode cX9_sun 54 = .ok (.ireturn, 1) := by decide +kernel
theorem dX9_isCloud_0 : decode cX9_isCloud 0 = .ok (.aload_n 0, 1) := by decide +kernel
theorem dX9_isCloud_1 : decode cX9_isCloud 1 = .ok (.iload_n 1, 1) := by decide +kernel
theorem dX9_isCloud_2 : decode cX9_isCloud 2 = .ok (.iconst 0, 1) := by decide +kernel
theorem dX9_isCloud_3 : decode cX9_isCloud 3 = .ok (.iload_n 2, 1) := by decide +kernel
theorem dX9_isCloud_4 : decode cX9_isCloud 4 = .ok (.invokevirtual 155, 3) := by decide +kernel
theorem dX9_isCloud_7 : decode cX9_isCloud 7 = .ok (.aload_n 0, 1) := by decide +kernel
theorem dX9_isCloud_8 : decode cX9_isCloud 8 = .ok (.getfield 22, 3) := by decide +kernel
theorem dX9_isCloud_11 : decode cX9_isCloud 11 = .ok (.if_icmp .le 7, 3) := by decide +kernel
theorem dX9_isCloud_14 : decode cX9_isCloud 14 = .ok (.iconst 1, 1) := by decide +kernel
theorem dX9_isCloud_15 : decode cX9_isCloud 15 = .ok (.goto 4, 3) := by decide +kernel
theorem dX9_isCloud_18 : decode cX9_isCloud 18 = .ok (.iconst 0, 1) := by decide +kernel
theorem dX9_isCloud_19 : decode cX9_isCloud 19 = .ok (.ireturn, 1) := by decide +kernel
theorem dX9_isShadowed_0 : decode cX9_isShadowed 0 = .ok (.aload_n 0, 1) := by decide +kernel
theorem dX9_isShadowed_1 : decode cX9_isShadowed 1 = .ok (.getfield 29, 3) := by decide +kernel
theorem dX9_isShadowed_4 : decode cX9_isShadowed 4 = .ok (.iload_n 1, 1) := by decide +kernel
theorem dX9_isShadowed_5 : decode cX9_isShadowed 5 = .ok (.iaload, 1) := by decide +kernel
theorem dX9_isShadowed_6 : decode cX9_isShadowed 6 = .ok (.ifCond .ne 14, 3) := by decide +kernel
theorem dX9_isShadowed_9 : decode cX9_isShadowed 9 = .ok (.aload_n 0, 1) := by decide +kernel
theorem dX9_isShadowed_10 : decode cX9_isShadowed 10 = .ok (.getfield 32, 3) := by decide +kernel
theorem dX9_isShadowed_13 : decode cX9_isShadowed 13 = .ok (.iload_n 1, 1) := by decide +kernel
theorem dX9_isShadowed_14 : decode cX9_isShadowed 14 = .ok (.iaload, 1) := by decide +kernel
theorem dX9_isShadowed_15 : decode cX9_isShadowed 15 = .ok (.ifCond .ne 5, 3) := by decide +kernel
theorem dX9_isShadowed_18 : decode cX9_isShadowed 18 = .ok (.iconst 0, 1) := by decide +kernel
theorem dX9_isShadowed_19 : decode cX9_isShadowed 19 = .ok (.ireturn, 1) := by decide +kernel
theorem dX9_isShadowed_20 : decode cX9_isShadowed 20 = .ok (.iconst 0, 1) := by decide +kernel
theorem dX9_isShadowed_21 : decode cX9_isShadowed 21 = .ok (.istore_n 3, 1) := by decide +kernel
theorem dX9_isShadowed_22 : decode cX9_isShadowed 22 = .ok (.iconst 1, 1) := by decide +kernel
theorem dX9_isShadowed_23 : decode cX9_isShadowed 23 = .ok (.istore 4, 2) := by decide +kernel
theorem dX9_isShadowed_25 : decode cX9_isShadowed 25 = .ok (.iload 4, 2) := by decide +kernel
theorem dX9_isShadowed_27 : decode cX9_isShadowed 27 = .ok (.aload_n 0, 1) := by decide +kernel
theorem dX9_isShadowed_28 : decode cX9_isShadowed 28 = .ok (.getfield 26, 3) := by decide +kernel
theorem dX9_isShadowed_31 : decode cX9_isShadowed 31 = .ok (.if_icmp .gt 93, 3) := by decide +kernel
theorem dX9_isShadowed_34 : decode cX9_isShadowed 34 = .ok (.iload_n 2, 1) := by decide +kernel
theorem dX9_isShadowed_35 : decode cX9_isShadowed 35 = .ok (.bipush 8, 2) := by decide +kernel
theorem dX9_isShadowed_37 : decode cX9_isShadowed 37 = .ok (.irem, 1) := by decide +kernel
theorem dX9_isShadowed_38 : decode cX9_isShadowed 38 = .ok (.iload 4, 2) := by decide +kernel
theorem dX9_isShadowed_40 : decode cX9_isShadowed 40 = .ok (.aload_n 0, 1) := by decide +kernel
theorem dX9_isShadowed_41 : decode cX9_isShadowed 41 = .ok (.getfield 29, 3) := by decide +kernel
theorem dX9_isShadowed_44 : decode cX9_isShadowed 44 = .ok (.iload_n 1, 1) := by decide +kernel
theorem dX9_isShadowed_45 : decode cX9_isShadowed 45 = .ok (.iaload, 1) := by decide +kernel
theorem dX9_isShadowed_46 : decode cX9_isShadowed 46 = .ok (.imul, 1) := by decide +kernel
theorem dX9_isShadowed_47 : decode cX9_isShadowed 47 = .ok (.isub, 1) := by decide +kernel
theorem dX9_isShadowed_48 : decode cX9_isShadowed 48 = .ok (.istore 5, 2) := by decide +kernel
theorem dX9_isShadowed_50 : decode cX9_isShadowed 50 = .ok (.iload_n 2, 1) := by decide +kernel
theorem dX9_isShadowed_51 : decode cX9_isShadowed 51 = .ok (.bipush 8, 2) := by decide +kernel
theorem dX9_isShadowed_53 : decode cX9_isShadowed 53 = .ok (.idiv, 1) := by decide +kernel
theorem dX9_isShadowed_54 : decode cX9_isShadowed 54 = .ok (.iload 4, 2) := by decide +kernel
theorem dX9_isShadowed_56 : decode cX9_isShadowed 56 = .ok (.aload_n 0, 1) := by decide +kernel
theorem dX9_isShadowed_57 : decode cX9_isShadowed 57 = .ok (.getfield 32, 3) := by decide +kernel
theorem dX9_isShadowed_60 : decode cX9_isShadowed 60 = .ok (.iload_n 1, 1) := by decide +kernel
theorem dX9_isShadowed_61 : decode cX9_isShadowed 61 = .ok (.iaload, 1) := by decide +kernel
theorem dX9_isShadowed_62 : decode cX9_isShadowed 62 = .ok (.imul, 1) := by decide +kernel
theorem dX9_isShadowed_63 : decode cX9_isShadowed 63 = .ok (.isub, 1) := by decide +kernel
theorem dX9_isShadowed_64 : decode cX9_isShadowed 64 = .ok (.istore 6, 2) := by decide +kernel
theorem dX9_isShadowed_66 : decode cX9_isShadowed 66 = .ok (.iload_n 3, 1) := by decide +kernel
theorem dX9_isShadowed_67 : decode cX9_isShadowed 67 = .ok (.ifCond .ne 45, 3) := by decide +kernel
theorem dX9_isShadowed_70 : decode cX9_isShadowed 70 = .ok (.iload 5, 2) := by decide +kernel
theorem dX9_isShadowed_72 : decode cX9_isShadowed 72 = .ok (.i2l, 1) := by decide +kernel
theorem dX9_isShadowed_73 : decode cX9_isShadowed 73 = .ok (.lconst 0, 1) := by decide +kernel
theorem dX9_isShadowed_74 : decode cX9_isShadowed 74 = .ok (.ldc2_w 158, 3) := by decide +kernel
theorem dX9_isShadowed_77 : decode cX9_isShadowed 77 = .ok (.invokestatic 119, 3) := by decide +kernel
theorem dX9_isShadowed_80 : decode cX9_isShadowed 80 = .ok (.ifCond .eq 36, 3) := by decide +kernel
theorem dX9_isShadowed_83 : decode cX9_isShadowed 83 = .ok (.iload 6, 2) := by decide +kernel
theorem dX9_isShadowed_85 : decode cX9_isShadowed 85 = .ok (.i2l, 1) := by decide +kernel
theorem dX9_isShadowed_86 : decode cX9_isShadowed 86 = .ok (.lconst 0, 1) := by decide +kernel
theorem dX9_isShadowed_87 : decode cX9_isShadowed 87 = .ok (.ldc2_w 158, 3) := by decide +kernel
theorem dX9_isShadowed_90 : decode cX9_isShadowed 90 = .ok (.invokestatic 119, 3) := by decide +kernel
theorem dX9_isShadowed_93 : decode cX9_isShadowed 93 = .ok (.ifCond .eq 23, 3) := by decide +kernel
theorem dX9_isShadowed_96 : decode cX9_isShadowed 96 = .ok (.aload_n 0, 1) := by decide +kernel
theorem dX9_isShadowed_97 : decode cX9_isShadowed 97 = .ok (.iload_n 1, 1) := by decide +kernel
theorem dX9_isShadowed_98 : decode cX9_isShadowed 98 = .ok (.bipush 8, 2) := by decide +kernel
theorem dX9_isShadowed_100 : decode cX9_isShadowed 100 = .ok (.iload 6, 2) := by decide +kernel
theorem dX9_isShadowed_102 : decode cX9_isShadowed 102 = .ok (.imul, 1) := by decide +kernel
theorem dX9_isShadowed_103 : decode cX9_isShadowed 103 = .ok (.iload 5, 2) := by decide +kernel
theorem dX9_isShadowed_105 : decode cX9_isShadowed 105 = .ok (.iadd, 1) := by decide +kernel
theorem dX9_isShadowed_106 : decode cX9_isShadowed 106 = .ok (.invokevirtual 160, 3) := by decide +kernel
theorem dX9_isShadowed_109 : decode cX9_isShadowed 109 = .ok (.ifCond .eq 7, 3) := by decide +kernel
theorem dX9_isShadowed_112 : decode cX9_isShadowed 112 = .ok (.iconst 1, 1) := by decide +kernel
theorem dX9_isShadowed_113 : decode cX9_isShadowed 113 = .ok (.goto 4, 3) := by decide +kernel
theorem dX9_isShadowed_116 : decode cX9_isShadowed 116 = .ok (.iconst 0, 1) := by decide +kernel
theorem dX9_isShadowed_117 : decode cX9_isShadowed 117 = .ok (.istore_n 3, 1) := by decide +kernel
theorem dX9_isShadowed_118 : decode cX9_isShadowed 118 = .ok (.iinc 4 1, 3) := by decide +kernel
theorem dX9_isShadowed_121 : decode cX9_isShadowed 121 = .ok (.goto (-96), 3) := by decide +kernel
theorem dX9_isShadowed_124 : decode cX9_isShadowed 124 = .ok (.iload_n 3, 1) := by decide +kernel
theorem dX9_isShadowed_125 : decode cX9_isShadowed 125 = .ok (.ireturn, 1) := by decide +kernel
theorem dX9_skyOf_0 : decode cX9_skyOf 0 = .ok (.iconst 0, 1) := by decide +kernel
theorem dX9_skyOf_1 : decode cX9_skyOf 1 = .ok (.istore_n 3, 1) := by decide +kernel
theorem dX9_skyOf_2 : decode cX9_skyOf 2 = .ok (.iload_n 3, 1) := by decide +kernel
theorem dX9_skyOf_3 : decode cX9_skyOf 3 = .ok (.iconst 3, 1) := by decide +kernel
theorem dX9_skyOf_4 : decode cX9_skyOf 4 = .ok (.if_icmp .ge 22, 3) := by decide +kernel
theorem dX9_skyOf_7 : decode cX9_skyOf 7 = .ok (.aload_n 0, 1) := by decide +kernel
theorem dX9_skyOf_8 : decode cX9_skyOf 8 = .ok (.iload_n 1, 1) := by decide +kernel
theorem dX9_skyOf_9 : decode cX9_skyOf 9 = .ok (.iload_n 3, 1) := by decide +kernel
theorem dX9_skyOf_10 : decode cX9_skyOf 10 = .ok (.iload_n 2, 1) := by decide +kernel
theorem dX9_skyOf_11 : decode cX9_skyOf 11 = .ok (.invokevirtual 155, 3) := by decide +kernel
theorem dX9_skyOf_14 : decode cX9_skyOf 14 = .ok (.iconst (-1), 1) := by decide +kernel
theorem dX9_skyOf_15 : decode cX9_skyOf 15 = .ok (.if_icmp .ne 5, 3) := by decide +kernel
theorem dX9_skyOf_18 : decode cX9_skyOf 18 = .ok (.iconst 0, 1) := by decide +kernel
theorem dX9_skyOf_19 : decode cX9_skyOf 19 = .ok (.ireturn, 1) := by decide +kernel
theorem dX9_skyOf_20 : decode cX9_skyOf 20 = .ok (.iinc 3 1, 3) := by decide +kernel
theorem dX9_skyOf_23 : decode cX9_skyOf 23 = .ok (.goto (-21), 3) := by decide +kernel
theorem dX9_skyOf_26 : decode cX9_skyOf 26 = .ok (.aload_n 0, 1) := by decide +kernel
theorem dX9_skyOf_27 : decode cX9_skyOf 27 = .ok (.iload_n 1, 1) := by decide +kernel
theorem dX9_skyOf_28 : decode cX9_skyOf 28 = .ok (.iload_n 2, 1) := by decide +kernel
theorem dX9_skyOf_29 : decode cX9_skyOf 29 = .ok (.invokevirtual 160, 3) := by decide +kernel
theorem dX9_skyOf_32 : decode cX9_skyOf 32 = .ok (.ifCond .eq 7, 3) := by decide +kernel
theorem dX9_skyOf_35 : decode cX9_skyOf 35 = .ok (.iconst 1, 1) := by decide +kernel
theorem dX9_skyOf_36 : decode cX9_skyOf 36 = .ok (.goto 17, 3) := by decide +kernel
theorem dX9_skyOf_39 : decode cX9_skyOf 39 = .ok (.aload_n 0, 1) := by decide +kernel
theorem dX9_skyOf_40 : decode cX9_skyOf 40 = .ok (.iload_n 1, 1) := by decide +kernel
theorem dX9_skyOf_41 : decode cX9_skyOf 41 = .ok (.iload_n 2, 1) := by decide +kernel
theorem dX9_skyOf_42 : decode cX9_skyOf 42 = .ok (.invokevirtual 164, 3) := by decide +kernel
theorem dX9_skyOf_45 : decode cX9_skyOf 45 = .ok (.ifCond .eq 7, 3) := by decide +kernel
theorem dX9_skyOf_48 : decode cX9_skyOf 48 = .ok (.iconst 2, 1) := by decide +kernel
theorem dX9_skyOf_49 : decode cX9_skyOf 49 = .ok (.goto 4, 3) := by decide +kernel
theorem dX9_skyOf_52 : decode cX9_skyOf 52 = .ok (.iconst 3, 1) := by decide +kernel
theorem dX9_skyOf_53 : decode cX9_skyOf 53 = .ok (.ireturn, 1) := by decide +kernel
theorem dX9_sky_0 : decode cX9_sky 0 = .ok (.iload_n 1, 1) := by decide +kernel
theorem dX9_sky_1 : decode cX9_sky 1 = .ok (.invokestatic 150, 3) := by decide +kernel
theorem dX9_sky_4 : decode cX9_sky 4 = .ok (.ifCond .eq 19, 3) := by decide +kernel
theorem dX9_sky_7 : decode cX9_sky 7 = .ok (.iload_n 2, 1) := by decide +kernel
theorem dX9_sky_8 : decode cX9_sky 8 = .ok (.invokestatic 167, 3) := by decide +kernel
theorem dX9_sky_11 : decode cX9_sky 11 = .ok (.ifCond .eq 12, 3) := by decide +kernel
theorem dX9_sky_14 : decode cX9_sky 14 = .ok (.aload_n 0, 1) := by decide +kernel
theorem dX9_sky_15 : decode cX9_sky 15 = .ok (.iload_n 1, 1) := by decide +kernel
theorem dX9_sky_16 : decode cX9_sky 16 = .ok (.iload_n 2, 1) := by decide +kernel
theorem dX9_sky_17 : decode cX9_sky 17 = .ok (.invokevirtual 170, 3) := by decide +kernel
theorem dX9_sky_20 : decode cX9_sky 20 = .ok (.goto 6, 3) := by decide +kernel
theorem dX9_sky_23 : decode cX9_sky 23 = .ok (.sipush (-2000), 3) := by decide +kernel
theorem dX9_sky_26 : decode cX9_sky 26 = .ok (.ireturn, 1) := by decide +kernel
theorem dX9_featureOf_0 : decode cX9_featureOf 0 = .ok (.iload_n 3, 1) := by decide +kernel
theorem dX9_featureOf_1 : decode cX9_featureOf 1 = .ok (.iconst 3, 1) := by decide +kernel
theorem dX9_featureOf_2 : decode cX9_featureOf 2 = .ok (.if_icmp .ge 11, 3) := by decide +kernel
theorem dX9_featureOf_5 : decode cX9_featureOf 5 = .ok (.aload_n 0, 1) := by decide +kernel
theorem dX9_featureOf_6 : decode cX9_featureOf 6 = .ok (.iload_n 1, 1) := by decide +kernel
theorem dX9_featureOf_7 : decode cX9_featureOf 7 = .ok (.iload_n 3, 1) := by decide +kernel
theorem dX9_featureOf_8 : decode cX9_featureOf 8 = .ok (.iload_n 2, 1) := by decide +kernel
theorem dX9_featureOf_9 : decode cX9_featureOf 9 = .ok (.invokevirtual 155, 3) := by decide +kernel
theorem dX9_featureOf_12 : decode cX9_featureOf 12 = .ok (.ireturn, 1) := by decide +kernel
theorem dX9_featureOf_13 : decode cX9_featureOf 13 = .ok (.aload_n 0, 1) := by decide +kernel
theorem dX9_featureOf_14 : decode cX9_featureOf 14 = .ok (.iload_n 1, 1) := by decide +kernel
theorem dX9_featureOf_15 : decode cX9_featureOf 15 = .ok (.iconst 1, 1) := by decide +kernel
theorem dX9_featureOf_16 : decode cX9_featureOf 16 = .ok (.iload_n 2, 1) := by decide +kernel
theorem dX9_featureOf_17 : decode cX9_featureOf 17 = .ok (.invokevirtual 155, 3) := by decide +kernel
theorem dX9_featureOf_20 : decode cX9_featureOf 20 = .ok (.istore 4, 2) := by decide +kernel
theorem dX9_featureOf_22 : decode cX9_featureOf 22 = .ok (.aload_n 0, 1) := by decide +kernel
theorem dX9_featureOf_23 : decode cX9_featureOf 23 = .ok (.iload_n 1, 1) := by decide +kernel
theorem dX9_featureOf_24 : decode cX9_featureOf 24 = .ok (.iconst 2, 1) := by decide +kernel
theorem dX9_featureOf_25 : decode cX9_featureOf 25 = .ok (.iload_n 2, 1) := by decide +kernel
theorem dX9_featureOf_26 : decode cX9_featureOf 26 = .ok (.invokevirtual 155, 3) := by decide +kernel
theorem dX9_featureOf_29 : decode cX9_featureOf 29 = .ok (.istore 5, 2) := by decide +kernel
theorem dX9_featureOf_31 : decode cX9_featureOf 31 = .ok (.iload 4, 2) := by decide +kernel
theorem dX9_featureOf_33 : decode cX9_featureOf 33 = .ok (.iload 5, 2) := by decide +kernel
theorem dX9_featureOf_35 : decode cX9_featureOf 35 = .ok (.iadd, 1) := by decide +kernel
theorem dX9_featureOf_36 : decode cX9_featureOf 36 = .ok (.ifCond .ne 5, 3) := by decide +kernel
theorem dX9_featureOf_39 : decode cX9_featureOf 39 = .ok (.iconst 0, 1) := by decide +kernel
theorem dX9_featureOf_40 : decode cX9_featureOf 40 = .ok (.ireturn, 1) := by decide +kernel
theorem dX9_featureOf_41 : decode cX9_featureOf 41 = .ok (.sipush 1000, 3) := by decide +kernel
theorem dX9_featureOf_44 : decode cX9_featureOf 44 = .ok (.iload 5, 2) := by decide +kernel
theorem dX9_featureOf_46 : decode cX9_featureOf 46 = .ok (.iload 4, 2) := by decide +kernel
theorem dX9_featureOf_48 : decode cX9_featureOf 48 = .ok (.isub, 1) := by decide +kernel
theorem dX9_featureOf_49 : decode cX9_featureOf 49 = .ok (.imul, 1) := by decide +kernel
theorem dX9_featureOf_50 : decode cX9_featureOf 50 = .ok (.istore 6, 2) := by decide +kernel
theorem dX9_featureOf_52 : decode cX9_featureOf 52 = .ok (.iload 6, 2) := by decide +kernel
theorem dX9_featureOf_54 : decode cX9_featureOf 54 = .ok (.iload 4, 2) := by decide +kernel
theorem dX9_featureOf_56 : decode cX9_featureOf 56 = .ok (.iload 5, 2) := by decide +kernel
theorem dX9_featureOf_58 : decode cX9_featureOf 58 = .ok (.iadd, 1) := by decide +kernel
theorem dX9_featureOf_59 : decode cX9_featureOf 59 = .ok (.idiv, 1) := by decide +kernel
theorem dX9_featureOf_60 : decode cX9_featureOf 60 = .ok (.istore 7, 2) := by decide +kernel
theorem dX9_featureOf_62 : decode cX9_featureOf 62 = .ok (.iload 7, 2) := by decide +kernel
theorem dX9_featureOf_64 : decode cX9_featureOf 64 = .ok (.iload 4, 2) := by decide +kernel
theorem dX9_featureOf_66 : decode cX9_featureOf 66 = .ok (.iload 5, 2) := by decide +kernel
theorem dX9_featureOf_68 : decode cX9_featureOf 68 = .ok (.iadd, 1) := by decide +kernel
theorem dX9_featureOf_69 : decode cX9_featureOf 69 = .ok (.imul, 1) := by decide +kernel
theorem dX9_featureOf_70 : decode cX9_featureOf 70 = .ok (.iload 6, 2) := by decide +kernel
theorem dX9_featureOf_72 : decode cX9_featureOf 72 = .ok (.if_icmp .le 10, 3) := by decide +kernel
theorem dX9_featureOf_75 : decode cX9_featureOf 75 = .ok (.iload 7, 2) := by decide +kernel
theorem dX9_featureOf_77 : decode cX9_featureOf 77 = .ok (.iconst 1, 1) := by decide +kernel
theorem dX9_featureOf_78 : decode cX9_featureOf 78 = .ok (.isub, 1) := by decide +kernel
theorem dX9_featureOf_79 : decode cX9_featureOf 79 = .ok (.goto 5, 3) := by decide +kernel
theorem dX9_featureOf_82 : decode cX9_featureOf 82 = .ok (.iload 7, 2) := by decide +kernel
theorem dX9_featureOf_84 : decode cX9_featureOf 84 = .ok (.ireturn, 1) := by decide +kernel
theorem dX9_feature_0 : decode cX9_feature 0 = .ok (.iload_n 1, 1) := by decide +kernel
theorem dX9_feature_1 : decode cX9_feature 1 = .ok (.invokestatic 150, 3) := by decide +kernel
theorem dX9_feature_4 : decode cX9_feature 4 = .ok (.ifCond .eq 22, 3) := by decide +kernel
theorem dX9_feature_7 : decode cX9_feature 7 = .ok (.iload_n 2, 1) := by decide +kernel
theorem dX9_feature_8 : decode cX9_feature 8 = .ok (.invokestatic 167, 3) := by decide +kernel
theorem dX9_feature_11 : decode cX9_feature 11 = .ok (.ifCond .eq 15, 3) := by decide +kernel
theorem dX9_feature_14 : decode cX9_feature 14 = .ok (.iload_n 3, 1) := by decide +kernel
theorem dX9_feature_15 : decode cX9_feature 15 = .ok (.i2l, 1) := by decide +kernel
theorem dX9_feature_16 : decode cX9_feature 16 = .ok (.lconst 0, 1) := by decide +kernel
theorem dX9_feature_17 : decode cX9_feature 17 = .ok (.ldc2_w 173, 3) := by decide +kernel
theorem dX9_feature_20 : decode cX9_feature 20 = .ok (.invokestatic 119, 3) := by decide +kernel
theorem dX9_feature_23 : decode cX9_feature 23 = .ok (.ifCond .ne 7, 3) := by decide +kernel
theorem dX9_feature_26 : decode cX9_feature 26 = .ok (.sipush (-2000), 3) := by decide +kernel
theorem dX9_feature_29 : decode cX9_feature 29 = .ok (.ireturn, 1) := by decide +kernel
theorem dX9_feature_30 : decode cX9_feature 30 = .ok (.aload_n 0, 1) := by decide +kernel
theorem dX9_feature_31 : decode cX9_feature 31 = .ok (.iload_n 1, 1) := by decide +kernel
theorem dX9_feature_32 : decode cX9_feature 32 = .ok (.iload_n 2, 1) := by decide +kernel
theorem dX9_feature_33 : decode cX9_feature 33 = .ok (.invokevirtual 170, 3) := by decide +kernel
theorem dX9_feature_36 : decode cX9_feature 36 = .ok (.iconst 3, 1) := by decide +kernel
theorem dX9_feature_37 : decode cX9_feature 37 = .ok (.if_icmp .ne 13, 3) := by decide +kernel
theorem dX9_feature_40 : decode cX9_feature 40 = .ok (.aload_n 0, 1) := by decide +kernel
theorem dX9_feature_41 : decode cX9_feature 41 = .ok (.iload_n 1, 1) := by decide +kernel
theorem dX9_feature_42 : decode cX9_feature 42 = .ok (.iload_n 2, 1) := by decide +kernel
theorem dX9_feature_43 : decode cX9_feature 43 = .ok (.iload_n 3, 1) := by decide +kernel
theorem dX9_feature_44 : decode cX9_feature 44 = .ok (.invokevirtual 175, 3) := by decide +kernel
theorem dX9_feature_47 : decode cX9_feature 47 = .ok (.goto 6, 3) := by decide +kernel
theorem dX9_feature_50 : decode cX9_feature 50 = .ok (.sipush (-2001), 3) := by decide +kernel
theorem dX9_feature_53 : decode cX9_feature 53 = .ok (.ireturn, 1) := by decide +kernel
theorem dX9_sample_0 : decode cX9_sample 0 = .ok (.iload_n 1, 1) := by decide +kernel
theorem dX9_sample_1 : decode cX9_sample 1 = .ok (.invokestatic 150, 3) := by decide +kernel
theorem dX9_sample_4 : decode cX9_sample 4 = .ok (.ifCond .eq 22, 3) := by decide +kernel
theorem dX9_sample_7 : decode cX9_sample 7 = .ok (.iload_n 2, 1) := by decide +kernel
theorem dX9_sample_8 : decode cX9_sample 8 = .ok (.invokestatic 167, 3) := by decide +kernel
theorem dX9_sample_11 : decode cX9_sample 11 = .ok (.ifCond .eq 15, 3) := by decide +kernel
theorem dX9_sample_14 : decode cX9_sample 14 = .ok (.iload_n 3, 1) := by decide +kernel
theorem dX9_sample_15 : decode cX9_sample 15 = .ok (.i2l, 1) := by decide +kernel
theorem dX9_sample_16 : decode cX9_sample 16 = .ok (.lconst 0, 1) := by decide +kernel
theorem dX9_sample_17 : decode cX9_sample 17 = .ok (.ldc2_w 173, 3) := by decide +kernel
theorem dX9_sample_20 : decode cX9_sample 20 = .ok (.invokestatic 119, 3) := by decide +kernel
theorem dX9_sample_23 : decode cX9_sample 23 = .ok (.ifCond .ne 7, 3) := by decide +kernel
theorem dX9_sample_26 : decode cX9_sample 26 = .ok (.sipush (-2000), 3) := by decide +kernel
theorem dX9_sample_29 : decode cX9_sample 29 = .ok (.ireturn, 1) := by decide +kernel
theorem dX9_sample_30 : decode cX9_sample 30 = .ok (.aload_n 0, 1) := by decide +kernel
theorem dX9_sample_31 : decode cX9_sample 31 = .ok (.getfield 178, 3) := by decide +kernel
theorem dX9_sample_34 : decode cX9_sample 34 = .ok (.bipush 40, 2) := by decide +kernel
theorem dX9_sample_36 : decode cX9_sample 36 = .ok (.if_icmp .ne 7, 3) := by decide +kernel
theorem dX9_sample_39 : decode cX9_sample 39 = .ok (.sipush (-2002), 3) := by decide +kernel
theorem dX9_sample_42 : decode cX9_sample 42 = .ok (.ireturn, 1) := by decide +kernel
theorem dX9_sample_43 : decode cX9_sample 43 = .ok (.aload_n 0, 1) := by decide +kernel
theorem dX9_sample_44 : decode cX9_sample 44 = .ok (.getfield 35, 3) := by decide +kernel
theorem dX9_sample_47 : decode cX9_sample 47 = .ok (.aload_n 0, 1) := by decide +kernel
theorem dX9_sample_48 : decode cX9_sample 48 = .ok (.getfield 178, 3) := by decide +kernel
theorem dX9_sample_51 : decode cX9_sample 51 = .ok (.iload_n 1, 1) := by decide +kernel
theorem dX9_sample_52 : decode cX9_sample 52 = .ok (.iastore, 1) := by decide +kernel
theorem dX9_sample_53 : decode cX9_sample 53 = .ok (.aload_n 0, 1) := by decide +kernel
theorem dX9_sample_54 : decode cX9_sample 54 = .ok (.getfield 38, 3) := by decide +kernel
theorem dX9_sample_57 : decode cX9_sample 57 = .ok (.aload_n 0, 1) := by decide +kernel
theorem dX9_sample_58 : decode cX9_sample 58 = .ok (.getfield 178, 3) := by decide +kernel
theorem dX9_sample_61 : decode cX9_sample 61 = .ok (.iload_n 2, 1) := by decide +kernel
theorem dX9_sample_62 : decode cX9_sample 62 = .ok (.iastore, 1) := by decide +kernel
theorem dX9_sample_63 : decode cX9_sample 63 = .ok (.aload_n 0, 1) := by decide +kernel
theorem dX9_sample_64 : decode cX9_sample 64 = .ok (.getfield 41, 3) := by decide +kernel
theorem dX9_sample_67 : decode cX9_sample 67 = .ok (.aload_n 0, 1) := by decide +kernel
theorem dX9_sample_68 : decode cX9_sample 68 = .ok (.getfield 178, 3) := by decide +kernel
theorem dX9_sample_71 : decode cX9_sample 71 = .ok (.iload_n 3, 1) := by decide +kernel
theorem dX9_sample_72 : decode cX9_sample 72 = .ok (.iastore, 1) := by decide +kernel
theorem dX9_sample_73 : decode cX9_sample 73 = .ok (.aload_n 0, 1) := by decide +kernel
theorem dX9_sample_74 : decode cX9_sample 74 = .ok (.dup, 1) := by decide +kernel
theorem dX9_sample_75 : decode cX9_sample 75 = .ok (.getfield 178, 3) := by decide +kernel
theorem dX9_sample_78 : decode cX9_sample 78 = .ok (.iconst 1, 1) := by decide +kernel
theorem dX9_sample_79 : decode cX9_sample 79 = .ok (.iadd, 1) := by decide +kernel
theorem dX9_sample_80 : decode cX9_sample 80 = .ok (.putfield 178, 3) := by decide +kernel
theorem dX9_sample_83 : decode cX9_sample 83 = .ok (.aload_n 0, 1) := by decide +kernel
theorem dX9_sample_84 : decode cX9_sample 84 = .ok (.getfield 178, 3) := by decide +kernel
theorem dX9_sample_87 : decode cX9_sample 87 = .ok (.ireturn, 1) := by decide +kernel
theorem dX9_forget_0 : decode cX9_forget 0 = .ok (.aload_n 0, 1) := by decide +kernel
theorem dX9_forget_1 : decode cX9_forget 1 = .ok (.getfield 178, 3) := by decide +kernel
theorem dX9_forget_4 : decode cX9_forget 4 = .ok (.istore_n 1, 1) := by decide +kernel
theorem dX9_forget_5 : decode cX9_forget 5 = .ok (.aload_n 0, 1) := by decide +kernel
theorem dX9_forget_6 : decode cX9_forget 6 = .ok (.iconst 0, 1) := by decide +kernel
theorem dX9_forget_7 : decode cX9_forget 7 = .ok (.putfield 178, 3) := by decide +kernel
theorem dX9_forget_10 : decode cX9_forget 10 = .ok (.iload_n 1, 1) := by decide +kernel
theorem dX9_forget_11 : decode cX9_forget 11 = .ok (.ireturn, 1) := by decide +kernel
theorem dX9_findTeaching_0 : decode cX9_findTeaching 0 = .ok (.aload_n 0, 1) := by decide +kernel
theorem dX9_findTeaching_1 : decode cX9_findTeaching 1 = .ok (.iconst 0, 1) := by decide +kernel
theorem dX9_findTeaching_2 : decode cX9_findTeaching 2 = .ok (.putfield 181, 3) := by decide +kernel
theorem dX9_findTeaching_5 : decode cX9_findTeaching 5 = .ok (.iconst 0, 1) := by decide +kernel
theorem dX9_findTeaching_6 : decode cX9_findTeaching 6 = .ok (.istore_n 1, 1) := by decide +kernel
theorem dX9_findTeaching_7 : decode cX9_findTeaching 7 = .ok (.iload_n 1, 1) := by decide +kernel
theorem dX9_findTeaching_8 : decode cX9_findTeaching 8 = .ok (.aload_n 0, 1) := by decide +kernel
theorem dX9_findTeaching_9 : decode cX9_findTeaching 9 = .ok (.getfield 178, 3) := by decide +kernel
theorem dX9_findTeaching_12 : decode cX9_findTeaching 12 = .ok (.if_icmp .ge 107, 3) := by decide +kernel
theorem dX9_findTeaching_15 : decode cX9_findTeaching 15 = .ok (.aload_n 0, 1) := by decide +kernel
theorem dX9_findTeaching_16 : decode cX9_findTeaching 16 = .ok (.aload_n 0, 1) := by decide +kernel
theorem dX9_findTeaching_17 : decode cX9_findTeaching 17 = .ok (.getfield 35, 3) := by decide +kernel
theorem dX9_findTeaching_20 : decode cX9_findTeaching 20 = .ok (.iload_n 1, 1) := by decide +kernel
theorem dX9_findTeaching_21 : decode cX9_findTeaching 21 = .ok (.iaload, 1) := by decide +kernel
theorem dX9_findTeaching_22 : decode cX9_findTeaching 22 = .ok (.aload_n 0, 1) := by decide +kernel
theorem dX9_findTeaching_23 : decode cX9_findTeaching 23 = .ok (.getfield 38, 3) := by decide +kernel
theorem dX9_findTeaching_26 : decode cX9_findTeaching 26 = .ok (.iload_n 1, 1) := by decide +kernel
theorem dX9_findTeaching_27 : decode cX9_findTeaching 27 = .ok (.iaload, 1) := by decide +kernel
theorem dX9_findTeaching_28 : decode cX9_findTeaching 28 = .ok (.invokevirtual 170, 3) := by decide +kernel
theorem dX9_findTeaching_31 : decode cX9_findTeaching 31 = .ok (.iconst 3, 1) := by decide +kernel
theorem dX9_findTeaching_32 : decode cX9_findTeaching 32 = .ok (.if_icmp .ne 81, 3) := by decide +kernel
theorem dX9_findTeaching_35 : decode cX9_findTeaching 35 = .ok (.iconst 0, 1) := by decide +kernel
theorem dX9_findTeaching_36 : decode cX9_findTeaching 36 = .ok (.istore_n 2, 1) := by decide +kernel
theorem dX9_findTeaching_37 : decode cX9_findTeaching 37 = .ok (.iload_n 2, 1) := by decide +kernel
theorem dX9_findTeaching_38 : decode cX9_findTeaching 38 = .ok (.iconst 4, 1) := by decide +kernel
theorem dX9_findTeaching_39 : decode cX9_findTeaching 39 = .ok (.if_icmp .ge 39, 3) := by decide +kernel
theorem dX9_findTeaching_42 : decode cX9_findTeaching 42 = .ok (.aload_n 0, 1) := by decide +kernel
theorem dX9_findTeaching_43 : decode cX9_findTeaching 43 = .ok (.getfield 47, 3) := by decide +kernel
theorem dX9_findTeaching_46 : decode cX9_findTeaching 46 = .ok (.iconst 4, 1) := by decide +kernel
theorem dX9_findTeaching_47 : decode cX9_findTeaching 47 = .ok (.aload_n 0, 1) := by decide +kernel
theorem dX9_findTeaching_48 : decode cX9_findTeaching 48 = .ok (.getfield 181, 3) := by decide +kernel
theorem dX9_findTeaching_51 : decode cX9_findTeaching 51 = .ok (.imul, 1) := by decide +kernel
theorem dX9_findTeaching_52 : decode cX9_findTeaching 52 = .ok (.iload_n 2, 1) := by decide +kernel
theorem dX9_findTeaching_53 : decode cX9_findTeaching 53 = .ok (.iadd, 1) := by decide +kernel
theorem dX9_findTeaching_54 : decode cX9_findTeaching 54 = .ok (.aload_n 0, 1) := by decide +kernel
theorem dX9_findTeaching_55 : decode cX9_findTeaching 55 = .ok (.aload_n 0, 1) := by decide +kernel
theorem dX9_findTeaching_56 : decode cX9_findTeaching 56 = .ok (.getfield 35, 3) := by decide +kernel
theorem dX9_findTeaching_59 : decode cX9_findTeaching 59 = .ok (.iload_n 1, 1) := by decide +kernel
theorem dX9_findTeaching_60 : decode cX9_findTeaching 60 = .ok (.iaload, 1) := by decide +kernel
theorem dX9_findTeaching_61 : decode cX9_findTeaching 61 = .ok (.aload_n 0, 1) := by decide +kernel
theorem dX9_findTeaching_62 : decode cX9_findTeaching 62 = .ok (.getfield 38, 3) := by decide +kernel
theorem dX9_findTeaching_65 : decode cX9_findTeaching 65 = .ok (.iload_n 1, 1) := by decide +kernel
theorem dX9_findTeaching_66 : decode cX9_findTeaching 66 = .ok (.iaload, 1) := by decide +kernel
theorem dX9_findTeaching_67 : decode cX9_findTeaching 67 = .ok (.iload_n 2, 1) := by decide +kernel
theorem dX9_findTeaching_68 : decode cX9_findTeaching 68 = .ok (.invokevirtual 175, 3) := by decide +kernel
theorem dX9_findTeaching_71 : decode cX9_findTeaching 71 = .ok (.iastore, 1) := by decide +kernel
theorem dX9_findTeaching_72 : decode cX9_findTeaching 72 = .ok (.iinc 2 1, 3) := by decide +kernel
theorem dX9_findTeaching_75 : decode cX9_findTeaching 75 = .ok (.goto (-38), 3) := by decide +kernel
theorem dX9_findTeaching_78 : decode cX9_findTeaching 78 = .ok (.aload_n 0, 1) := by decide +kernel
theorem dX9_findTeaching_79 : decode cX9_findTeaching 79 = .ok (.getfield 50, 3) := by decide +kernel
theorem dX9_findTeaching_82 : decode cX9_findTeaching 82 = .ok (.aload_n 0, 1) := by decide +kernel
theorem dX9_findTeaching_83 : decode cX9_findTeaching 83 = .ok (.getfield 181, 3) := by decide +kernel
theorem dX9_findTeaching_86 : decode cX9_findTeaching 86 = .ok (.aload_n 0, 1) := by decide +kernel
theorem dX9_findTeaching_87 : decode cX9_findTeaching 87 = .ok (.getfield 41, 3) := by decide +kernel
theorem dX9_findTeaching_90 : decode cX9_findTeaching 90 = .ok (.iload_n 1, 1) := by decide +kernel
theorem dX9_findTeaching_91 : decode cX9_findTeaching 91 = .ok (.iaload, 1) := by decide +kernel
theorem dX9_findTeaching_92 : decode cX9_findTeaching 92 = .ok (.iastore, 1) := by decide +kernel
theorem dX9_findTeaching_93 : decode cX9_findTeaching 93 = .ok (.aload_n 0, 1) := by decide +kernel
theorem dX9_findTeaching_94 : decode cX9_findTeaching 94 = .ok (.getfield 53, 3) := by decide +kernel
theorem dX9_findTeaching_97 : decode cX9_findTeaching 97 = .ok (.aload_n 0, 1) := by decide +kernel
theorem dX9_findTeaching_98 : decode cX9_findTeaching 98 = .ok (.getfield 181, 3) := by decide +kernel
theorem dX9_findTeaching_101 : decode cX9_findTeaching 101 = .ok (.iload_n 1, 1) := by decide +kernel
theorem dX9_findTeaching_102 : decode cX9_findTeaching 102 = .ok (.iastore, 1) := by decide +kernel
theorem dX9_findTeaching_103 : decode cX9_findTeaching 103 = .ok (.aload_n 0, 1) := by decide +kernel
theorem dX9_findTeaching_104 : decode cX9_findTeaching 104 = .ok (.dup, 1) := by decide +kernel
theorem dX9_findTeaching_105 : decode cX9_findTeaching 105 = .ok (.getfield 181, 3) := by decide +kernel
theorem dX9_findTeaching_108 : decode cX9_findTeaching 108 = .ok (.iconst 1, 1) := by decide +kernel
theorem dX9_findTeaching_109 : decode cX9_findTeaching 109 = .ok (.iadd, 1) := by decide +kernel
theorem dX9_findTeaching_110 : decode cX9_findTeaching 110 = .ok (.putfield 181, 3) := by decide +kernel
theorem dX9_findTeaching_113 : decode cX9_findTeaching 113 = .ok (.iinc 1 1, 3) := by decide +kernel
theorem dX9_findTeaching_116 : decode cX9_findTeaching 116 = .ok (.goto (-109), 3) := by decide +kernel
theorem dX9_findTeaching_119 : decode cX9_findTeaching 119 = .ok (.return_, 1) := by decide +kernel
theorem dX9_teaching_0 : decode cX9_teaching 0 = .ok (.aload_n 0, 1) := by decide +kernel
theorem dX9_teaching_1 : decode cX9_teaching 1 = .ok (.invokevirtual 184, 3) := by decide +kernel
theorem dX9_teaching_4 : decode cX9_teaching 4 = .ok (.aload_n 0, 1) := by decide +kernel
theorem dX9_teaching_5 : decode cX9_teaching 5 = .ok (.getfield 181, 3) := by decide +kernel
theorem dX9_teaching_8 : decode cX9_teaching 8 = .ok (.ireturn, 1) := by decide +kernel
theorem dX9_grow_0 : decode cX9_grow 0 = .ok (.iload_n 1, 1) := by decide +kernel
theorem dX9_grow_1 : decode cX9_grow 1 = .ok (.i2l, 1) := by decide +kernel
theorem dX9_grow_2 : decode cX9_grow 2 = .ok (.lconst 0, 1) := by decide +kernel
theorem dX9_grow_3 : decode cX9_grow 3 = .ok (.ldc2_w 173, 3) := by decide +kernel
theorem dX9_grow_6 : decode cX9_grow 6 = .ok (.invokestatic 119, 3) := by decide +kernel
theorem dX9_grow_9 : decode cX9_grow 9 = .ok (.ifCond .eq 13, 3) := by decide +kernel
theorem dX9_grow_12 : decode cX9_grow 12 = .ok (.iload_n 2, 1) := by decide +kernel
theorem dX9_grow_13 : decode cX9_grow 13 = .ok (.i2l, 1) := by decide +kernel
theorem dX9_grow_14 : decode cX9_grow 14 = .ok (.lconst 0, 1) := by decide +kernel
theorem dX9_grow_15 : decode cX9_grow 15 = .ok (.lconst 1, 1) := by decide +kernel
theorem dX9_grow_16 : decode cX9_grow 16 = .ok (.invokestatic 119, 3) := by decide +kernel
theorem dX9_grow_19 : decode cX9_grow 19 = .ok (.ifCond .ne 7, 3) := by decide +kernel
theorem dX9_grow_22 : decode cX9_grow 22 = .ok (.sipush (-2000), 3) := by decide +kernel
theorem dX9_grow_25 : decode cX9_grow 25 = .ok (.ireturn, 1) := by decide +kernel
theorem dX9_grow_26 : decode cX9_grow 26 = .ok (.aload_n 0, 1) := by decide +kernel
theorem dX9_grow_27 : decode cX9_grow 27 = .ok (.iload_n 1, 1) := by decide +kernel
theorem dX9_grow_28 : decode cX9_grow 28 = .ok (.putfield 44, 3) := by decide +kernel
theorem dX9_grow_31 : decode cX9_grow 31 = .ok (.aload_n 0, 1) := by decide +kernel
theorem dX9_grow_32 : decode cX9_grow 32 = .ok (.iload_n 2, 1) := by decide +kernel
theorem dX9_grow_33 : decode cX9_grow 33 = .ok (.putfield 187, 3) := by decide +kernel
theorem dX9_grow_36 : decode cX9_grow 36 = .ok (.iconst 1, 1) := by decide +kernel
theorem dX9_grow_37 : decode cX9_grow 37 = .ok (.ireturn, 1) := by decide +kernel
theorem dX9_levelOf_0 : decode cX9_levelOf 0 = .ok (.iload_n 0, 1) := by decide +kernel
theorem dX9_levelOf_1 : decode cX9_levelOf 1 = .ok (.ifCond .ne 7, 3) := by decide +kernel
theorem dX9_levelOf_4 : decode cX9_levelOf 4 = .ok (.iconst 0, 1) := by decide +kernel
theorem dX9_levelOf_5 : decode cX9_levelOf 5 = .ok (.goto 23, 3) := by decide +kernel
theorem dX9_levelOf_8 : decode cX9_levelOf 8 = .ok (.iload_n 0, 1) := by decide +kernel
theorem dX9_levelOf_9 : decode cX9_levelOf 9 = .ok (.iconst 3, 1) := by decide +kernel
theorem dX9_levelOf_10 : decode cX9_levelOf 10 = .ok (.if_icmp .ge 7, 3) := by decide +kernel
theorem dX9_levelOf_13 : decode cX9_levelOf 13 = .ok (.iconst 1, 1) := by decide +kernel
theorem dX9_levelOf_14 : decode cX9_levelOf 14 = .ok (.goto 14, 3) := by decide +kernel
theorem dX9_levelOf_17 : decode cX9_levelOf 17 = .ok (.iload_n 0, 1) := by decide +kernel
theorem dX9_levelOf_18 : decode cX9_levelOf 18 = .ok (.bipush 7, 2) := by decide +kernel
theorem dX9_levelOf_20 : decode cX9_levelOf 20 = .ok (.if_icmp .ge 7, 3) := by decide +kernel
theorem dX9_levelOf_23 : decode cX9_levelOf 23 = .ok (.iconst 2, 1) := by decide +kernel
theorem dX9_levelOf_24 : decode cX9_levelOf 24 = .ok (.goto 4, 3) := by decide +kernel
theorem dX9_levelOf_27 : decode cX9_levelOf 27 = .ok (.iconst 3, 1) := by decide +kernel
theorem dX9_levelOf_28 : decode cX9_levelOf 28 = .ok (.ireturn, 1) := by decide +kernel
theorem dX9_parts_0 : decode cX9_parts 0 = .ok (.iconst 0, 1) := by decide +kernel
theorem dX9_parts_1 : decode cX9_parts 1 = .ok (.istore 4, 2) := by decide +kernel
theorem dX9_parts_3 : decode cX9_parts 3 = .ok (.iload 4, 2) := by decide +kernel
theorem dX9_parts_5 : decode cX9_parts 5 = .ok (.iconst 4, 1) := by decide +kernel
theorem dX9_parts_6 : decode cX9_parts 6 = .ok (.if_icmp .ge 25, 3) := by decide +kernel
theorem dX9_parts_9 : decode cX9_parts 9 = .ok (.aload_n 0, 1) := by decide +kernel
theorem dX9_parts_10 : decode cX9_parts 10 = .ok (.getfield 72, 3) := by decide +kernel
theorem dX9_parts_13 : decode cX9_parts 13 = .ok (.iload 4, 2) := by decide +kernel
theorem dX9_parts_15 : decode cX9_parts 15 = .ok (.iconst 0, 1) := by decide +kernel
theorem dX9_parts_16 : decode cX9_parts 16 = .ok (.iastore, 1) := by decide +kernel
theorem dX9_parts_17 : decode cX9_parts 17 = .ok (.aload_n 0, 1) := by decide +kernel
theorem dX9_parts_18 : decode cX9_parts 18 = .ok (.getfield 75, 3) := by decide +kernel
theorem dX9_parts_21 : decode cX9_parts 21 = .ok (.iload 4, 2) := by decide +kernel
theorem dX9_parts_23 : decode cX9_parts 23 = .ok (.iconst 0, 1) := by decide +kernel
theorem dX9_parts_24 : decode cX9_parts 24 = .ok (.iastore, 1) := by decide +kernel
theorem dX9_parts_25 : decode cX9_parts 25 = .ok (.iinc 4 1, 3) := by decide +kernel
theorem dX9_parts_28 : decode cX9_parts 28 = .ok (.goto (-25), 3) := by decide +kernel
theorem dX9_parts_31 : decode cX9_parts 31 = .ok (.iconst 0, 1) := by decide +kernel
theorem dX9_parts_32 : decode cX9_parts 32 = .ok (.istore 4, 2) := by decide +kernel
theorem dX9_parts_34 : decode cX9_parts 34 = .ok (.iload 4, 2) := by decide +kernel
theorem dX9_parts_36 : decode cX9_parts 36 = .ok (.aload_n 0, 1) := by decide +kernel
theorem dX9_parts_37 : decode cX9_parts 37 = .ok (.getfield 181, 3) := by decide +kernel
theorem dX9_parts_40 : decode cX9_parts 40 = .ok (.if_icmp .ge 70, 3) := by decide +kernel
theorem dX9_parts_43 : decode cX9_parts 43 = .ok (.aload_n 0, 1) := by decide +kernel
theorem dX9_parts_44 : decode cX9_parts 44 = .ok (.getfield 56, 3) := by decide +kernel
theorem dX9_parts_47 : decode cX9_parts 47 = .ok (.iload 4, 2) := by decide +kernel
theorem dX9_parts_49 : decode cX9_parts 49 = .ok (.iaload, 1) := by decide +kernel
theorem dX9_parts_50 : decode cX9_parts 50 = .ok (.iload_n 1, 1) := by decide +kernel
theorem dX9_parts_51 : decode cX9_parts 51 = .ok (.if_icmp .ne 53, 3) := by decide +kernel
theorem dX9_parts_54 : decode cX9_parts 54 = .ok (.aload_n 0, 1) := by decide +kernel
theorem dX9_parts_55 : decode cX9_parts 55 = .ok (.getfield 47, 3) := by decide +kernel
theorem dX9_parts_58 : decode cX9_parts 58 = .ok (.iconst 4, 1) := by decide +kernel
theorem dX9_parts_59 : decode cX9_parts 59 = .ok (.iload 4, 2) := by decide +kernel
theorem dX9_parts_61 : decode cX9_parts 61 = .ok (.imul, 1) := by decide +kernel
theorem dX9_parts_62 : decode cX9_parts 62 = .ok (.iload_n 2, 1) := by decide +kernel
theorem dX9_parts_63 : decode cX9_parts 63 = .ok (.iadd, 1) := by decide +kernel
theorem dX9_parts_64 : decode cX9_parts 64 = .ok (.iaload, 1) := by decide +kernel
theorem dX9_parts_65 : decode cX9_parts 65 = .ok (.iload_n 3, 1) := by decide +kernel
theorem dX9_parts_66 : decode cX9_parts 66 = .ok (.if_icmp .gt 22, 3) := by decide +kernel
theorem dX9_parts_69 : decode cX9_parts 69 = .ok (.aload_n 0, 1) := by decide +kernel
theorem dX9_parts_70 : decode cX9_parts 70 = .ok (.getfield 72, 3) := by decide +kernel
theorem dX9_parts_73 : decode cX9_parts 73 = .ok (.aload_n 0, 1) := by decide +kernel
theorem dX9_parts_74 : decode cX9_parts 74 = .ok (.getfield 50, 3) := by decide +kernel
theorem dX9_parts_77 : decode cX9_parts 77 = .ok (.iload 4, 2) := by decide +kernel
theorem dX9_parts_79 : decode cX9_parts 79 = .ok (.iaload, 1) := by decide +kernel
theorem dX9_parts_80 : decode cX9_parts 80 = .ok (.dup2, 1) := by decide +kernel
theorem dX9_parts_81 : decode cX9_parts 81 = .ok (.iaload, 1) := by decide +kernel
theorem dX9_parts_82 : decode cX9_parts 82 = .ok (.iconst 1, 1) := by decide +kernel
theorem dX9_parts_83 : decode cX9_parts 83 = .ok (.iadd, 1) := by decide +kernel
theorem dX9_parts_84 : decode cX9_parts 84 = .ok (.iastore, 1) := by decide +kernel
theorem dX9_parts_85 : decode cX9_parts 85 = .ok (.goto 19, 3) := by decide +kernel
theorem dX9_parts_88 : decode cX9_parts 88 = .ok (.aload_n 0, 1) := by decide +kernel
theorem dX9_parts_89 : decode cX9_parts 89 = .ok (.getfield 75, 3) := by decide +kernel
theorem dX9_parts_92 : decode cX9_parts 92 = .ok (.aload_n 0, 1) := by decide +kernel
theorem dX9_parts_93 : decode cX9_parts 93 = .ok (.getfield 50, 3) := by decide +kernel
theorem dX9_parts_96 : decode cX9_parts 96 = .ok (.iload 4, 2) := by decide +kernel
theorem dX9_parts_98 : decode cX9_parts 98 = .ok (.iaload, 1) := by decide +kernel
theorem dX9_parts_99 : decode cX9_parts 99 = .ok (.dup2, 1) := by decide +kernel
theorem dX9_parts_100 : decode cX9_parts 100 = .ok (.iaload, 1) := by decide +kernel
theorem dX9_parts_101 : decode cX9_parts 101 = .ok (.iconst 1, 1) := by decide +kernel
theorem dX9_parts_102 : decode cX9_parts 102 = .ok (.iadd, 1) := by decide +kernel
theorem dX9_parts_103 : decode cX9_parts 103 = .ok (.iastore, 1) := by decide +kernel
theorem dX9_parts_104 : decode cX9_parts 104 = .ok (.iinc 4 1, 3) := by decide +kernel
theorem dX9_parts_107 : decode cX9_parts 107 = .ok (.goto (-73), 3) := by decide +kernel
theorem dX9_parts_110 : decode cX9_parts 110 = .ok (.return_, 1) := by decide +kernel
theorem dX9_squares_0 : decode cX9_squares 0 = .ok (.iload_n 0, 1) := by decide +kernel
theorem dX9_squares_1 : decode cX9_squares 1 = .ok (.i2l, 1) := by decide +kernel
theorem dX9_squares_2 : decode cX9_squares 2 = .ok (.iload_n 0, 1) := by decide +kernel
theorem dX9_squares_3 : decode cX9_squares 3 = .ok (.i2l, 1) := by decide +kernel
theorem dX9_squares_4 : decode cX9_squares 4 = .ok (.lmul, 1) := by decide +kernel
theorem dX9_squares_5 : decode cX9_squares 5 = .ok (.iload_n 1, 1) := by decide +kernel
theorem dX9_squares_6 : decode cX9_squares 6 = .ok (.i2l, 1) := by decide +kernel
theorem dX9_squares_7 : decode cX9_squares 7 = .ok (.iload_n 1, 1) := by decide +kernel
theorem dX9_squares_8 : decode cX9_squares 8 = .ok (.i2l, 1) := by decide +kernel
theorem dX9_squares_9 : decode cX9_squares 9 = .ok (.lmul, 1) := by decide +kernel
theorem dX9_squares_10 : decode cX9_squares 10 = .ok (.ladd, 1) := by decide +kernel
theorem dX9_squares_11 : decode cX9_squares 11 = .ok (.iload_n 2, 1) := by decide +kernel
theorem dX9_squares_12 : decode cX9_squares 12 = .ok (.i2l, 1) := by decide +kernel
theorem dX9_squares_13 : decode cX9_squares 13 = .ok (.iload_n 2, 1) := by decide +kernel
theorem dX9_squares_14 : decode cX9_squares 14 = .ok (.i2l, 1) := by decide +kernel
theorem dX9_squares_15 : decode cX9_squares 15 = .ok (.lmul, 1) := by decide +kernel
theorem dX9_squares_16 : decode cX9_squares 16 = .ok (.ladd, 1) := by decide +kernel
theorem dX9_squares_17 : decode cX9_squares 17 = .ok (.iload_n 3, 1) := by decide +kernel
theorem dX9_squares_18 : decode cX9_squares 18 = .ok (.i2l, 1) := by decide +kernel
theorem dX9_squares_19 : decode cX9_squares 19 = .ok (.iload_n 3, 1) := by decide +kernel
theorem dX9_squares_20 : decode cX9_squares 20 = .ok (.i2l, 1) := by decide +kernel
theorem dX9_squares_21 : decode cX9_squares 21 = .ok (.lmul, 1) := by decide +kernel
theorem dX9_squares_22 : decode cX9_squares 22 = .ok (.ladd, 1) := by decide +kernel
theorem dX9_squares_23 : decode cX9_squares 23 = .ok (.lreturn, 1) := by decide +kernel
theorem dX9_growNode_0 : decode cX9_growNode 0 = .ok (.aload_n 0, 1) := by decide +kernel
theorem dX9_growNode_1 : decode cX9_growNode 1 = .ok (.iload_n 1, 1) := by decide +kernel
theorem dX9_growNode_2 : decode cX9_growNode 2 = .ok (.iconst 0, 1) := by decide +kernel
theorem dX9_growNode_3 : decode cX9_growNode 3 = .ok (.sipush 2000, 3) := by decide +kernel
theorem dX9_growNode_6 : decode cX9_growNode 6 = .ok (.invokevirtual 190, 3) := by decide +kernel
theorem dX9_growNode_9 : decode cX9_growNode 9 = .ok (.aload_n 0, 1) := by decide +kernel
theorem dX9_growNode_10 : decode cX9_growNode 10 = .ok (.getfield 72, 3) := by decide +kernel
theorem dX9_growNode_13 : decode cX9_growNode 13 = .ok (.iconst 0, 1) := by decide +kernel
theorem dX9_growNode_14 : decode cX9_growNode 14 = .ok (.iaload, 1) := by decide +kernel
theorem dX9_growNode_15 : decode cX9_growNode 15 = .ok (.aload_n 0, 1) := by decide +kernel
theorem dX9_growNode_16 : decode cX9_growNode 16 = .ok (.getfield 72, 3) := by decide +kernel
theorem dX9_growNode_19 : decode cX9_growNode 19 = .ok (.iconst 1, 1) := by decide +kernel
theorem dX9_growNode_20 : decode cX9_growNode 20 = .ok (.iaload, 1) := by decide +kernel
theorem dX9_growNode_21 : decode cX9_growNode 21 = .ok (.iadd, 1) := by decide +kernel
theorem dX9_growNode_22 : decode cX9_growNode 22 = .ok (.aload_n 0, 1) := by decide +kernel
theorem dX9_growNode_23 : decode cX9_growNode 23 = .ok (.getfield 72, 3) := by decide +kernel
theorem dX9_growNode_26 : decode cX9_growNode 26 = .ok (.iconst 2, 1) := by decide +kernel
theorem dX9_growNode_27 : decode cX9_growNode 27 = .ok (.iaload, 1) := by decide +kernel
theorem dX9_growNode_28 : decode cX9_growNode 28 = .ok (.iadd, 1) := by decide +kernel
theorem dX9_growNode_29 : decode cX9_growNode 29 = .ok (.aload_n 0, 1) := by decide +kernel
theorem dX9_growNode_30 : decode cX9_growNode 30 = .ok (.getfield 72, 3) := by decide +kernel
theorem dX9_growNode_33 : decode cX9_growNode 33 = .ok (.iconst 3, 1) := by decide +kernel
theorem dX9_growNode_34 : decode cX9_growNode 34 = .ok (.iaload, 1) := by decide +kernel
theorem dX9_growNode_35 : decode cX9_growNode 35 = .ok (.iadd, 1) := by decide +kernel
theorem dX9_growNode_36 : decode cX9_growNode 36 = .ok (.istore_n 2, 1) := by decide +kernel
theorem dX9_growNode_37 : decode cX9_growNode 37 = .ok (.iconst 0, 1) := by decide +kernel
theorem dX9_growNode_38 : decode cX9_growNode 38 = .ok (.istore_n 3, 1) := by decide +kernel
theorem dX9_growNode_39 : decode cX9_growNode 39 = .ok (.iconst 1, 1) := by decide +kernel
theorem dX9_growNode_40 : decode cX9_growNode 40 = .ok (.istore 4, 2) := by decide +kernel
theorem dX9_growNode_42 : decode cX9_growNode 42 = .ok (.iload 4, 2) := by decide +kernel
theorem dX9_growNode_44 : decode cX9_growNode 44 = .ok (.iconst 4, 1) := by decide +kernel
theorem dX9_growNode_45 : decode cX9_growNode 45 = .ok (.if_icmp .ge 32, 3) := by decide +kernel
theorem dX9_growNode_48 : decode cX9_growNode 48 = .ok (.aload_n 0, 1) := by decide +kernel
theorem dX9_growNode_49 : decode cX9_growNode 49 = .ok (.getfield 72, 3) := by decide +kernel
theorem dX9_growNode_52 : decode cX9_growNode 52 = .ok (.iload 4, 2) := by decide +kernel
theorem dX9_growNode_54 : decode cX9_growNode 54 = .ok (.iaload, 1) := by decide +kernel
theorem dX9_growNode_55 : decode cX9_growNode 55 = .ok (.aload_n 0, 1) := by decide +kernel
theorem dX9_growNode_56 : decode cX9_growNode 56 = .ok (.getfield 72, 3) := by decide +kernel
theorem dX9_growNode_59 : decode cX9_growNode 59 = .ok (.iload_n 3, 1) := by decide +kernel
theorem dX9_growNode_60 : decode cX9_growNode 60 = .ok (.iaload, 1) := by decide +kernel
theorem dX9_growNode_61 : decode cX9_growNode 61 = .ok (.if_icmp .le 8, 3) := by decide +kernel
theorem dX9_growNode_64 : decode cX9_growNode 64 = .ok (.iload 4, 2) := by decide +kernel
theorem dX9_growNode_66 : decode cX9_growNode 66 = .ok (.goto 4, 3) := by decide +kernel
theorem dX9_growNode_69 : decode cX9_growNode 69 = .ok (.iload_n 3, 1) := by decide +kernel
theorem dX9_growNode_70 : decode cX9_growNode 70 = .ok (.istore_n 3, 1) := by decide +kernel
theorem dX9_growNode_71 : decode cX9_growNode 71 = .ok (.iinc 4 1, 3) := by decide +kernel
theorem dX9_growNode_74 : decode cX9_growNode 74 = .ok (.goto (-32), 3) := by decide +kernel
theorem dX9_growNode_77 : decode cX9_growNode 77 = .ok (.aload_n 0, 1) := by decide +kernel
theorem dX9_growNode_78 : decode cX9_growNode 78 = .ok (.getfield 69, 3) := by decide +kernel
theorem dX9_growNode_81 : decode cX9_growNode 81 = .ok (.iload_n 1, 1) := by decide +kernel
theorem dX9_growNode_82 : decode cX9_growNode 82 = .ok (.iload_n 2, 1) := by decide +kernel
theorem dX9_growNode_83 : decode cX9_growNode 83 = .ok (.iastore, 1) := by decide +kernel
theorem dX9_growNode_84 : decode cX9_growNode 84 = .ok (.aload_n 0, 1) := by decide +kernel
theorem dX9_growNode_85 : decode cX9_growNode 85 = .ok (.getfield 63, 3) := by decide +kernel
theorem dX9_growNode_88 : decode cX9_growNode 88 = .ok (.iload_n 1, 1) := by decide +kernel
theorem dX9_growNode_89 : decode cX9_growNode 89 = .ok (.iconst 4, 1) := by decide +kernel
theorem dX9_growNode_90 : decode cX9_growNode 90 = .ok (.iastore, 1) := by decide +kernel
theorem dX9_growNode_91 : decode cX9_growNode 91 = .ok (.aload_n 0, 1) := by decide +kernel
theorem dX9_growNode_92 : decode cX9_growNode 92 = .ok (.getfield 66, 3) := by decide +kernel
theorem dX9_growNode_95 : decode cX9_growNode 95 = .ok (.iload_n 1, 1) := by decide +kernel
theorem dX9_growNode_96 : decode cX9_growNode 96 = .ok (.iload_n 3, 1) := by decide +kernel
theorem dX9_growNode_97 : decode cX9_growNode 97 = .ok (.iastore, 1) := by decide +kernel
theorem dX9_growNode_98 : decode cX9_growNode 98 = .ok (.iload_n 1, 1) := by decide +kernel
theorem dX9_growNode_99 : decode cX9_growNode 99 = .ok (.invokestatic 194, 3) := by decide +kernel
theorem dX9_growNode_102 : decode cX9_growNode 102 = .ok (.aload_n 0, 1) := by decide +kernel
theorem dX9_growNode_103 : decode cX9_growNode 103 = .ok (.getfield 44, 3) := by decide +kernel
theorem dX9_growNode_106 : decode cX9_growNode 106 = .ok (.if_icmp .eq 13, 3) := by decide +kernel
theorem dX9_growNode_109 : decode cX9_growNode 109 = .ok (.aload_n 0, 1) := by decide +kernel
theorem dX9_growNode_110 : decode cX9_growNode 110 = .ok (.getfield 72, 3) := by decide +kernel
theorem dX9_growNode_113 : decode cX9_growNode 113 = .ok (.iload_n 3, 1) := by decide +kernel
theorem dX9_growNode_114 : decode cX9_growNode 114 = .ok (.iaload, 1) := by decide +kernel
theorem dX9_growNode_115 : decode cX9_growNode 115 = .ok (.iload_n 2, 1) := by decide +kernel
theorem dX9_growNode_116 : decode cX9_growNode 116 = .ok (.if_icmp .ne 4, 3) := by decide +kernel
theorem dX9_growNode_119 : decode cX9_growNode 119 = .ok (.return_, 1) := by decide +kernel
theorem dX9_growNode_120 : decode cX9_growNode 120 = .ok (.ldc2_w 197, 3) := by decide +kernel
theorem dX9_growNode_123 : decode cX9_growNode 123 = .ok (.lstore 4, 2) := by decide +kernel
theorem dX9_growNode_125 : decode cX9_growNode 125 = .ok (.lconst 1, 1) := by decide +kernel
theorem dX9_growNode_126 : decode cX9_growNode 126 = .ok (.lstore 6, 2) := by decide +kernel
theorem dX9_growNode_128 : decode cX9_growNode 128 = .ok (.iconst 0, 1) := by decide +kernel
theorem dX9_growNode_129 : decode cX9_growNode 129 = .ok (.istore 8, 2) := by decide +kernel
theorem dX9_growNode_131 : decode cX9_growNode 131 = .ok (.iload 8, 2) := by decide +kernel
theorem dX9_growNode_133 : decode cX9_growNode 133 = .ok (.iconst 4, 1) := by decide +kernel
theorem dX9_growNode_134 : decode cX9_growNode 134 = .ok (.if_icmp .ge 303, 3) := by decide +kernel
theorem dX9_growNode_137 : decode cX9_growNode 137 = .ok (.iconst 0, 1) := by decide +kernel
theorem dX9_growNode_138 : decode cX9_growNode 138 = .ok (.istore 9, 2) := by decide +kernel
theorem dX9_growNode_140 : decode cX9_growNode 140 = .ok (.iload 9, 2) := by decide +kernel
theorem dX9_growNode_142 : decode cX9_growNode 142 = .ok (.aload_n 0, 1) := by decide +kernel
theorem dX9_growNode_143 : decode cX9_growNode 143 = .ok (.getfield 181, 3) := by decide +kernel
theorem dX9_growNode_146 : decode cX9_growNode 146 = .ok (.if_icmp .ge 285, 3) := by decide +kernel
theorem dX9_growNode_149 : decode cX9_growNode 149 = .ok (.aload_n 0, 1) := by decide +kernel
theorem dX9_growNode_150 : decode cX9_growNode 150 = .ok (.getfield 56, 3) := by decide +kernel
theorem dX9_growNode_153 : decode cX9_growNode 153 = .ok (.iload 9, 2) := by decide +kernel
theorem dX9_growNode_155 : decode cX9_growNode 155 = .ok (.iaload, 1) := by decide +kernel
theorem dX9_growNode_156 : decode cX9_growNode 156 = .ok (.iload_n 1, 1) := by decide +kernel
theorem dX9_growNode_157 : decode cX9_growNode 157 = .ok (.if_icmp .ne 268, 3) := by decide +kernel
theorem dX9_growNode_160 : decode cX9_growNode 160 = .ok (.aload_n 0, 1) := by decide +kernel
theorem dX9_growNode_161 : decode cX9_growNode 161 = .ok (.getfield 47, 3) := by decide +kernel
theorem dX9_growNode_164 : decode cX9_growNode 164 = .ok (.iconst 4, 1) := by decide +kernel
theorem dX9_growNode_165 : decode cX9_growNode 165 = .ok (.iload 9, 2) := by decide +kernel
theorem dX9_growNode_167 : decode cX9_growNode 167 = .ok (.imul, 1) := by decide +kernel
theorem dX9_growNode_168 : decode cX9_growNode 168 = .ok (.iload 8, 2) := by decide +kernel
theorem dX9_growNode_170 : decode cX9_growNode 170 = .ok (.iadd, 1) := by decide +kernel
theorem dX9_growNode_171 : decode cX9_growNode 171 = .ok (.iaload, 1) := by decide +kernel
theorem dX9_growNode_172 : decode cX9_growNode 172 = .ok (.istore 10, 2) := by decide +kernel
theorem dX9_growNode_174 : decode cX9_growNode 174 = .ok (.aload_n 0, 1) := by decide +kernel
theorem dX9_growNode_175 : decode cX9_growNode 175 = .ok (.iload_n 1, 1) := by decide +kernel
theorem dX9_growNode_176 : decode cX9_growNode 176 = .ok (.iload 8, 2) := by decide +kernel
theorem dX9_growNode_178 : decode cX9_growNode 178 = .ok (.iload 10, 2) := by decide +kernel
theorem dX9_growNode_180 : decode cX9_growNode 180 = .ok (.invokevirtual 190, 3) := by decide +kernel
theorem dX9_growNode_183 : decode cX9_growNode 183 = .ok (.aload_n 0, 1) := by decide +kernel
theorem dX9_growNode_184 : decode cX9_growNode 184 = .ok (.getfield 72, 3) := by decide +kernel
theorem dX9_growNode_187 : decode cX9_growNode 187 = .ok (.iconst 0, 1) := by decide +kernel
theorem dX9_growNode_188 : decode cX9_growNode 188 = .ok (.iaload, 1) := by decide +kernel
theorem dX9_growNode_189 : decode cX9_growNode 189 = .ok (.aload_n 0, 1) := by decide +kernel
theorem dX9_growNode_190 : decode cX9_growNode 190 = .ok (.getfield 72, 3) := by decide +kernel
theorem dX9_growNode_193 : decode cX9_growNode 193 = .ok (.iconst 1, 1) := by decide +kernel
theorem dX9_growNode_194 : decode cX9_growNode 194 = .ok (.iaload, 1) := by decide +kernel
theorem dX9_growNode_195 : decode cX9_growNode 195 = .ok (.iadd, 1) := by decide +kernel
theorem dX9_growNode_196 : decode cX9_growNode 196 = .ok (.aload_n 0, 1) := by decide +kernel
theorem dX9_growNode_197 : decode cX9_growNode 197 = .ok (.getfield 72, 3) := by decide +kernel
theorem dX9_growNode_200 : decode cX9_growNode 200 = .ok (.iconst 2, 1) := by decide +kernel
theorem dX9_growNode_201 : decode cX9_growNode 201 = .ok (.iaload, 1) := by decide +kernel
theorem dX9_growNode_202 : decode cX9_growNode 202 = .ok (.iadd, 1) := by decide +kernel
theorem dX9_growNode_203 : decode cX9_growNode 203 = .ok (.aload_n 0, 1) := by decide +kernel
theorem dX9_growNode_204 : decode cX9_growNode 204 = .ok (.getfield 72, 3) := by decide +kernel
theorem dX9_growNode_207 : decode cX9_growNode 207 = .ok (.iconst 3, 1) := by decide +kernel
theorem dX9_growNode_208 : decode cX9_growNode 208 = .ok (.iaload, 1) := by decide +kernel
theorem dX9_growNode_209 : decode cX9_growNode 209 = .ok (.iadd, 1) := by decide +kernel
theorem dX9_growNode_210 : decode cX9_growNode 210 = .ok (.i2l, 1) := by decide +kernel
theorem dX9_growNode_211 : decode cX9_growNode 211 = .ok (.lstore 11, 2) := by decide +kernel
theorem dX9_growNode_213 : decode cX9_growNode 213 = .ok (.aload_n 0, 1) := by decide +kernel
theorem dX9_growNode_214 : decode cX9_growNode 214 = .ok (.getfield 75, 3) := by decide +kernel
theorem dX9_growNode_217 : decode cX9_growNode 217 = .ok (.iconst 0, 1) := by decide +kernel
theorem dX9_growNode_218 : decode cX9_growNode 218 = .ok (.iaload, 1) := by decide +kernel
theorem dX9_growNode_219 : decode cX9_growNode 219 = .ok (.aload_n 0, 1) := by decide +kernel
theorem dX9_growNode_220 : decode cX9_growNode 220 = .ok (.getfield 75, 3) := by decide +kernel
theorem dX9_growNode_223 : decode cX9_growNode 223 = .ok (.iconst 1, 1) := by decide +kernel
theorem dX9_growNode_224 : decode cX9_growNode 224 = .ok (.iaload, 1) := by decide +kernel
theorem dX9_growNode_225 : decode cX9_growNode 225 = .ok (.iadd, 1) := by decide +kernel
theorem dX9_growNode_226 : decode cX9_growNode 226 = .ok (.aload_n 0, 1) := by decide +kernel
theorem dX9_growNode_227 : decode cX9_growNode 227 = .ok (.getfield 75, 3) := by decide +kernel
theorem dX9_growNode_230 : decode cX9_growNode 230 = .ok (.iconst 2, 1) := by decide +kernel
theorem dX9_growNode_231 : decode cX9_growNode 231 = .ok (.iaload, 1) := by decide +kernel
theorem dX9_growNode_232 : decode cX9_growNode 232 = .ok (.iadd, 1) := by decide +kernel
theorem dX9_growNode_233 : decode cX9_growNode 233 = .ok (.aload_n 0, 1) := by decide +kernel
theorem dX9_growNode_234 : decode cX9_growNode 234 = .ok (.getfield 75, 3) := by decide +kernel
theorem dX9_growNode_237 : decode cX9_growNode 237 = .ok (.iconst 3, 1) := by decide +kernel
theorem dX9_growNode_238 : decode cX9_growNode 238 = .ok (.iaload, 1) := by decide +kernel
theorem dX9_growNode_239 : decode cX9_growNode 239 = .ok (.iadd, 1) := by decide +kernel
theorem dX9_growNode_240 : decode cX9_growNode 240 = .ok (.i2l, 1) := by decide +kernel
theorem dX9_growNode_241 : decode cX9_growNode 241 = .ok (.lstore 13, 2) := by decide +kernel
theorem dX9_growNode_243 : decode cX9_growNode 243 = .ok (.lload 13, 2) := by decide +kernel
theorem dX9_growNode_245 : decode cX9_growNode 245 = .ok (.lconst 0, 1) := by decide +kernel
theorem dX9_growNode_246 : decode cX9_growNode 246 = .ok (.lcmp, 1) := by decide +kernel
theorem dX9_growNode_247 : decode cX9_growNode 247 = .ok (.ifCond .le 178, 3) := by decide +kernel
theorem dX9_growNode_250 : decode cX9_growNode 250 = .ok (.aload_n 0, 1) := by decide +kernel
theorem dX9_growNode_251 : decode cX9_growNode 251 = .ok (.getfield 72, 3) := by decide +kernel
theorem dX9_growNode_254 : decode cX9_growNode 254 = .ok (.iconst 0, 1) := by decide +kernel
theorem dX9_growNode_255 : decode cX9_growNode 255 = .ok (.iaload, 1) := by decide +kernel
theorem dX9_growNode_256 : decode cX9_growNode 256 = .ok (.aload_n 0, 1) := by decide +kernel
theorem dX9_growNode_257 : decode cX9_growNode 257 = .ok (.getfield 72, 3) := by decide +kernel
theorem dX9_growNode_260 : decode cX9_growNode 260 = .ok (.iconst 1, 1) := by decide +kernel
theorem dX9_growNode_261 : decode cX9_growNode 261 = .ok (.iaload, 1) := by decide +kernel
theorem dX9_growNode_262 : decode cX9_growNode 262 = .ok (.aload_n 0, 1) := by decide +kernel
theorem dX9_growNode_263 : decode cX9_growNode 263 = .ok (.getfield 72, 3) := by decide +kernel
theorem dX9_growNode_266 : decode cX9_growNode 266 = .ok (.iconst 2, 1) := by decide +kernel
theorem dX9_growNode_267 : decode cX9_growNode 267 = .ok (.iaload, 1) := by decide +kernel
theorem dX9_growNode_268 : decode cX9_growNode 268 = .ok (.aload_n 0, 1) := by decide +kernel
theorem dX9_growNode_269 : decode cX9_growNode 269 = .ok (.getfield 72, 3) := by decide +kernel
theorem dX9_growNode_272 : decode cX9_growNode 272 = .ok (.iconst 3, 1) := by decide +kernel
theorem dX9_growNode_273 : decode cX9_growNode 273 = .ok (.iaload, 1) := by decide +kernel
theorem dX9_growNode_274 : decode cX9_growNode 274 = .ok (.invokestatic 199, 3) := by decide +kernel
theorem dX9_growNode_277 : decode cX9_growNode 277 = .ok (.lload 13, 2) := by decide +kernel
theorem dX9_growNode_279 : decode cX9_growNode 279 = .ok (.lmul, 1) := by decide +kernel
theorem dX9_growNode_280 : decode cX9_growNode 280 = .ok (.aload_n 0, 1) := by decide +kernel
theorem dX9_growNode_281 : decode cX9_growNode 281 = .ok (.getfield 75, 3) := by decide +kernel
theorem dX9_growNode_284 : decode cX9_growNode 284 = .ok (.iconst 0, 1) := by decide +kernel
theorem dX9_growNode_285 : decode cX9_growNode 285 = .ok (.iaload, 1) := by decide +kernel
theorem dX9_growNode_286 : decode cX9_growNode 286 = .ok (.aload_n 0, 1) := by decide +kernel
theorem dX9_growNode_287 : decode cX9_growNode 287 = .ok (.getfield 75, 3) := by decide +kernel
theorem dX9_growNode_290 : decode cX9_growNode 290 = .ok (.iconst 1, 1) := by decide +kernel
theorem dX9_growNode_291 : decode cX9_growNode 291 = .ok (.iaload, 1) := by decide +kernel
theorem dX9_growNode_292 : decode cX9_growNode 292 = .ok (.aload_n 0, 1) := by decide +kernel
theorem dX9_growNode_293 : decode cX9_growNode 293 = .ok (.getfield 75, 3) := by decide +kernel
theorem dX9_growNode_296 : decode cX9_growNode 296 = .ok (.iconst 2, 1) := by decide +kernel
theorem dX9_growNode_297 : decode cX9_growNode 297 = .ok (.iaload, 1) := by decide +kernel
theorem dX9_growNode_298 : decode cX9_growNode 298 = .ok (.aload_n 0, 1) := by decide +kernel
theorem dX9_growNode_299 : decode cX9_growNode 299 = .ok (.getfield 75, 3) := by decide +kernel
theorem dX9_growNode_302 : decode cX9_growNode 302 = .ok (.iconst 3, 1) := by decide +kernel
theorem dX9_growNode_303 : decode cX9_growNode 303 = .ok (.iaload, 1) := by decide +kernel
theorem dX9_growNode_304 : decode cX9_growNode 304 = .ok (.invokestatic 199, 3) := by decide +kernel
theorem dX9_growNode_307 : decode cX9_growNode 307 = .ok (.lload 11, 2) := by decide +kernel
theorem dX9_growNode_309 : decode cX9_growNode 309 = .ok (.lmul, 1) := by decide +kernel
theorem dX9_growNode_310 : decode cX9_growNode 310 = .ok (.ladd, 1) := by decide +kernel
theorem dX9_growNode_311 : decode cX9_growNode 311 = .ok (.lstore 15, 2) := by decide +kernel
theorem dX9_growNode_313 : decode cX9_growNode 313 = .ok (.lload 11, 2) := by decide +kernel
theorem dX9_growNode_315 : decode cX9_growNode 315 = .ok (.lload 13, 2) := by decide +kernel
theorem dX9_growNode_317 : decode cX9_growNode 317 = .ok (.lmul, 1) := by decide +kernel
theorem dX9_growNode_318 : decode cX9_growNode 318 = .ok (.lstore 17, 2) := by decide +kernel
theorem dX9_growNode_320 : decode cX9_growNode 320 = .ok (.lload 15, 2) := by decide +kernel
theorem dX9_growNode_322 : decode cX9_growNode 322 = .ok (.lload 6, 2) := by decide +kernel
theorem dX9_growNode_324 : decode cX9_growNode 324 = .ok (.lmul, 1) := by decide +kernel
theorem dX9_growNode_325 : decode cX9_growNode 325 = .ok (.lload 4, 2) := by decide +kernel
theorem dX9_growNode_327 : decode cX9_growNode 327 = .ok (.lload 17, 2) := by decide +kernel
theorem dX9_growNode_329 : decode cX9_growNode 329 = .ok (.lmul, 1) := by decide +kernel
theorem dX9_growNode_330 : decode cX9_growNode 330 = .ok (.lcmp, 1) := by decide +kernel
theorem dX9_growNode_331 : decode cX9_growNode 331 = .ok (.ifCond .le 7, 3) := by decide +kernel
theorem dX9_growNode_334 : decode cX9_growNode 334 = .ok (.iconst 1, 1) := by decide +kernel
theorem dX9_growNode_335 : decode cX9_growNode 335 = .ok (.goto 4, 3) := by decide +kernel
theorem dX9_growNode_338 : decode cX9_growNode 338 = .ok (.iconst 0, 1) := by decide +kernel
theorem dX9_growNode_339 : decode cX9_growNode 339 = .ok (.istore 19, 2) := by decide +kernel
theorem dX9_growNode_341 : decode cX9_growNode 341 = .ok (.lload 15, 2) := by decide +kernel
theorem dX9_growNode_343 : decode cX9_growNode 343 = .ok (.lload 6, 2) := by decide +kernel
theorem dX9_growNode_345 : decode cX9_growNode 345 = .ok (.lmul, 1) := by decide +kernel
theorem dX9_growNode_346 : decode cX9_growNode 346 = .ok (.lload 4, 2) := by decide +kernel
theorem dX9_growNode_348 : decode cX9_growNode 348 = .ok (.lload 17, 2) := by decide +kernel
theorem dX9_growNode_350 : decode cX9_growNode 350 = .ok (.lmul, 1) := by decide +kernel
theorem dX9_growNode_351 : decode cX9_growNode 351 = .ok (.lcmp, 1) := by decide +kernel
theorem dX9_growNode_352 : decode cX9_growNode 352 = .ok (.ifCond .ne 29, 3) := by decide +kernel
theorem dX9_growNode_355 : decode cX9_growNode 355 = .ok (.iload 8, 2) := by decide +kernel
theorem dX9_growNode_357 : decode cX9_growNode 357 = .ok (.aload_n 0, 1) := by decide +kernel
theorem dX9_growNode_358 : decode cX9_growNode 358 = .ok (.getfield 63, 3) := by decide +kernel
theorem dX9_growNode_361 : decode cX9_growNode 361 = .ok (.iload_n 1, 1) := by decide +kernel
theorem dX9_growNode_362 : decode cX9_growNode 362 = .ok (.iaload, 1) := by decide +kernel
theorem dX9_growNode_363 : decode cX9_growNode 363 = .ok (.if_icmp .ne 18, 3) := by decide +kernel
theorem dX9_growNode_366 : decode cX9_growNode 366 = .ok (.iload 10, 2) := by decide +kernel
theorem dX9_growNode_368 : decode cX9_growNode 368 = .ok (.aload_n 0, 1) := by decide +kernel
theorem dX9_growNode_369 : decode cX9_growNode 369 = .ok (.getfield 66, 3) := by decide +kernel
theorem dX9_growNode_372 : decode cX9_growNode 372 = .ok (.iload_n 1, 1) := by decide +kernel
theorem dX9_growNode_373 : decode cX9_growNode 373 = .ok (.iaload, 1) := by decide +kernel
theorem dX9_growNode_374 : decode cX9_growNode 374 = .ok (.if_icmp .ge 7, 3) := by decide +kernel
theorem dX9_growNode_377 : decode cX9_growNode 377 = .ok (.iconst 1, 1) := by decide +kernel
theorem dX9_growNode_378 : decode cX9_growNode 378 = .ok (.goto 4, 3) := by decide +kernel
theorem dX9_growNode_381 : decode cX9_growNode 381 = .ok (.iconst 0, 1) := by decide +kernel
theorem dX9_growNode_382 : decode cX9_growNode 382 = .ok (.istore 20, 2) := by decide +kernel
theorem dX9_growNode_384 : decode cX9_growNode 384 = .ok (.lload 4, 2) := by decide +kernel
theorem dX9_growNode_386 : decode cX9_growNode 386 = .ok (.lconst 0, 1) := by decide +kernel
theorem dX9_growNode_387 : decode cX9_growNode 387 = .ok (.lcmp, 1) := by decide +kernel
theorem dX9_growNode_388 : decode cX9_growNode 388 = .ok (.ifCond .lt 13, 3) := by decide +kernel
theorem dX9_growNode_391 : decode cX9_growNode 391 = .ok (.iload 19, 2) := by decide +kernel
theorem dX9_growNode_393 : decode cX9_growNode 393 = .ok (.ifCond .ne 8, 3) := by decide +kernel
theorem dX9_growNode_396 : decode cX9_growNode 396 = .ok (.iload 20, 2) := by decide +kernel
theorem dX9_growNode_398 : decode cX9_growNode 398 = .ok (.ifCond .eq 27, 3) := by decide +kernel
theorem dX9_growNode_401 : decode cX9_growNode 401 = .ok (.lload 15, 2) := by decide +kernel
theorem dX9_growNode_403 : decode cX9_growNode 403 = .ok (.lstore 4, 2) := by decide +kernel
theorem dX9_growNode_405 : decode cX9_growNode 405 = .ok (.lload 17, 2) := by decide +kernel
theorem dX9_growNode_407 : decode cX9_growNode 407 = .ok (.lstore 6, 2) := by decide +kernel
theorem dX9_growNode_409 : decode cX9_growNode 409 = .ok (.aload_n 0, 1) := by decide +kernel
theorem dX9_growNode_410 : decode cX9_growNode 410 = .ok (.getfield 63, 3) := by decide +kernel
theorem dX9_growNode_413 : decode cX9_growNode 413 = .ok (.iload_n 1, 1) := by decide +kernel
theorem dX9_growNode_414 : decode cX9_growNode 414 = .ok (.iload 8, 2) := by decide +kernel
theorem dX9_growNode_416 : decode cX9_growNode 416 = .ok (.iastore, 1) := by decide +kernel
theorem dX9_growNode_417 : decode cX9_growNode 417 = .ok (.aload_n 0, 1) := by decide +kernel
theorem dX9_growNode_418 : decode cX9_growNode 418 = .ok (.getfield 66, 3) := by decide +kernel
theorem dX9_growNode_421 : decode cX9_growNode 421 = .ok (.iload_n 1, 1) := by decide +kernel
theorem dX9_growNode_422 : decode cX9_growNode 422 = .ok (.iload 10, 2) := by decide +kernel
theorem dX9_growNode_424 : decode cX9_growNode 424 = .ok (.iastore, 1) := by decide +kernel
theorem dX9_growNode_425 : decode cX9_growNode 425 = .ok (.iinc 9 1, 3) := by decide +kernel
theorem dX9_growNode_428 : decode cX9_growNode 428 = .ok (.goto (-288), 3) := by decide +kernel
theorem dX9_growNode_431 : decode cX9_growNode 431 = .ok (.iinc 8 1, 3) := by decide +kernel
theorem dX9_growNode_434 : decode cX9_growNode 434 = .ok (.goto (-303), 3) := by decide +kernel
theorem dX9_growNode_437 : decode cX9_growNode 437 = .ok (.lload 4, 2) := by decide +kernel
theorem dX9_growNode_439 : decode cX9_growNode 439 = .ok (.lconst 0, 1) := by decide +kernel
theorem dX9_growNode_440 : decode cX9_growNode 440 = .ok (.lcmp, 1) := by decide +kernel
theorem dX9_growNode_441 : decode cX9_growNode 441 = .ok (.ifCond .lt 99, 3) := by decide +kernel
theorem dX9_growNode_444 : decode cX9_growNode 444 = .ok (.aload_n 0, 1) := by decide +kernel
theorem dX9_growNode_445 : decode cX9_growNode 445 = .ok (.getfield 59, 3) := by decide +kernel
theorem dX9_growNode_448 : decode cX9_growNode 448 = .ok (.iconst 2, 1) := by decide +kernel
theorem dX9_growNode_449 : decode cX9_growNode 449 = .ok (.iload_n 1, 1) := by decide +kernel
theorem dX9_growNode_450 : decode cX9_growNode 450 = .ok (.imul, 1) := by decide +kernel
theorem dX9_growNode_451 : decode cX9_growNode 451 = .ok (.iconst 1, 1) := by decide +kernel
theorem dX9_growNode_452 : decode cX9_growNode 452 = .ok (.iadd, 1) := by decide +kernel
theorem dX9_growNode_453 : decode cX9_growNode 453 = .ok (.iconst 1, 1) := by decide +kernel
theorem dX9_growNode_454 : decode cX9_growNode 454 = .ok (.bastore, 1) := by decide +kernel
theorem dX9_growNode_455 : decode cX9_growNode 455 = .ok (.aload_n 0, 1) := by decide +kernel
theorem dX9_growNode_456 : decode cX9_growNode 456 = .ok (.getfield 59, 3) := by decide +kernel
theorem dX9_growNode_459 : decode cX9_growNode 459 = .ok (.iconst 2, 1) := by decide +kernel
theorem dX9_growNode_460 : decode cX9_growNode 460 = .ok (.iload_n 1, 1) := by decide +kernel
theorem dX9_growNode_461 : decode cX9_growNode 461 = .ok (.imul, 1) := by decide +kernel
theorem dX9_growNode_462 : decode cX9_growNode 462 = .ok (.iconst 2, 1) := by decide +kernel
theorem dX9_growNode_463 : decode cX9_growNode 463 = .ok (.iadd, 1) := by decide +kernel
theorem dX9_growNode_464 : decode cX9_growNode 464 = .ok (.iconst 1, 1) := by decide +kernel
theorem dX9_growNode_465 : decode cX9_growNode 465 = .ok (.bastore, 1) := by decide +kernel
theorem dX9_growNode_466 : decode cX9_growNode 466 = .ok (.iconst 0, 1) := by decide +kernel
theorem dX9_growNode_467 : decode cX9_growNode 467 = .ok (.istore 8, 2) := by decide +kernel
theorem dX9_growNode_469 : decode cX9_growNode 469 = .ok (.iload 8, 2) := by decide +kernel
theorem dX9_growNode_471 : decode cX9_growNode 471 = .ok (.aload_n 0, 1) := by decide +kernel
theorem dX9_growNode_472 : decode cX9_growNode 472 = .ok (.getfield 181, 3) := by decide +kernel
theorem dX9_growNode_475 : decode cX9_growNode 475 = .ok (.if_icmp .ge 65, 3) := by decide +kernel
theorem dX9_growNode_478 : decode cX9_growNode 478 = .ok (.aload_n 0, 1) := by decide +kernel
theorem dX9_growNode_479 : decode cX9_growNode 479 = .ok (.getfield 56, 3) := by decide +kernel
theorem dX9_growNode_482 : decode cX9_growNode 482 = .ok (.iload 8, 2) := by decide +kernel
theorem dX9_growNode_484 : decode cX9_growNode 484 = .ok (.iaload, 1) := by decide +kernel
theorem dX9_growNode_485 : decode cX9_growNode 485 = .ok (.iload_n 1, 1) := by decide +kernel
theorem dX9_growNode_486 : decode cX9_growNode 486 = .ok (.if_icmp .ne 48, 3) := by decide +kernel
theorem dX9_growNode_489 : decode cX9_growNode 489 = .ok (.aload_n 0, 1) := by decide +kernel
theorem dX9_growNode_490 : decode cX9_growNode 490 = .ok (.getfield 56, 3) := by decide +kernel
theorem dX9_growNode_493 : decode cX9_growNode 493 = .ok (.iload 8, 2) := by decide +kernel
theorem dX9_growNode_495 : decode cX9_growNode 495 = .ok (.aload_n 0, 1) := by decide +kernel
theorem dX9_growNode_496 : decode cX9_growNode 496 = .ok (.getfield 47, 3) := by decide +kernel
theorem dX9_growNode_499 : decode cX9_growNode 499 = .ok (.iconst 4, 1) := by decide +kernel
theorem dX9_growNode_500 : decode cX9_growNode 500 = .ok (.iload 8, 2) := by decide +kernel
theorem dX9_growNode_502 : decode cX9_growNode 502 = .ok (.imul, 1) := by decide +kernel
theorem dX9_growNode_503 : decode cX9_growNode 503 = .ok (.aload_n 0, 1) := by decide +kernel
theorem dX9_growNode_504 : decode cX9_growNode 504 = .ok (.getfield 63, 3) := by decide +kernel
theorem dX9_growNode_507 : decode cX9_growNode 507 = .ok (.iload_n 1, 1) := by decide +kernel
theorem dX9_growNode_508 : decode cX9_growNode 508 = .ok (.iaload, 1) := by decide +kernel
theorem dX9_growNode_509 : decode cX9_growNode 509 = .ok (.iadd, 1) := by decide +kernel
theorem dX9_growNode_510 : decode cX9_growNode 510 = .ok (.iaload, 1) := by decide +kernel
theorem dX9_growNode_511 : decode cX9_growNode 511 = .ok (.aload_n 0, 1) := by decide +kernel
theorem dX9_growNode_512 : decode cX9_growNode 512 = .ok (.getfield 66, 3) := by decide +kernel
theorem dX9_growNode_515 : decode cX9_growNode 515 = .ok (.iload_n 1, 1) := by decide +kernel
theorem dX9_growNode_516 : decode cX9_growNode 516 = .ok (.iaload, 1) := by decide +kernel
theorem dX9_growNode_517 : decode cX9_growNode 517 = .ok (.if_icmp .gt 11, 3) := by decide +kernel
theorem dX9_growNode_520 : decode cX9_growNode 520 = .ok (.iconst 2, 1) := by decide +kernel
theorem dX9_growNode_521 : decode cX9_growNode 521 = .ok (.iload_n 1, 1) := by decide +kernel
theorem dX9_growNode_522 : decode cX9_growNode 522 = .ok (.imul, 1) := by decide +kernel
theorem dX9_growNode_523 : decode cX9_growNode 523 = .ok (.iconst 1, 1) := by decide +kernel
theorem dX9_growNode_524 : decode cX9_growNode 524 = .ok (.iadd, 1) := by decide +kernel
theorem dX9_growNode_525 : decode cX9_growNode 525 = .ok (.goto 8, 3) := by decide +kernel
theorem dX9_growNode_528 : decode cX9_growNode 528 = .ok (.iconst 2, 1) := by decide +kernel
theorem dX9_growNode_529 : decode cX9_growNode 529 = .ok (.iload_n 1, 1) := by decide +kernel
theorem dX9_growNode_530 : decode cX9_growNode 530 = .ok (.imul, 1) := by decide +kernel
theorem dX9_growNode_531 : decode cX9_growNode 531 = .ok (.iconst 2, 1) := by decide +kernel
theorem dX9_growNode_532 : decode cX9_growNode 532 = .ok (.iadd, 1) := by decide +kernel
theorem dX9_growNode_533 : decode cX9_growNode 533 = .ok (.iastore, 1) := by decide +kernel
theorem dX9_growNode_534 : decode cX9_growNode 534 = .ok (.iinc 8 1, 3) := by decide +kernel
theorem dX9_growNode_537 : decode cX9_growNode 537 = .ok (.goto (-68), 3) := by decide +kernel
theorem dX9_growNode_540 : decode cX9_growNode 540 = .ok (.return_, 1) := by decide +kernel
theorem dX9_growTree_0 : decode cX9_growTree 0 = .ok (.aload_n 0, 1) := by decide +kernel
theorem dX9_growTree_1 : decode cX9_growTree 1 = .ok (.invokevirtual 184, 3) := by decide +kernel
theorem dX9_growTree_4 : decode cX9_growTree 4 = .ok (.iconst 0, 1) := by decide +kernel
theorem dX9_growTree_5 : decode cX9_growTree 5 = .ok (.istore_n 1, 1) := by decide +kernel
theorem dX9_growTree_6 : decode cX9_growTree 6 = .ok (.iload_n 1, 1) := by decide +kernel
theorem dX9_growTree_7 : decode cX9_growTree 7 = .ok (.aload_n 0, 1) := by decide +kernel
theorem dX9_growTree_8 : decode cX9_growTree 8 = .ok (.getfield 181, 3) := by decide +kernel
theorem dX9_growTree_11 : decode cX9_growTree 11 = .ok (.if_icmp .ge 16, 3) := by decide +kernel
theorem dX9_growTree_14 : decode cX9_growTree 14 = .ok (.aload_n 0, 1) := by decide +kernel
theorem dX9_growTree_15 : decode cX9_growTree 15 = .ok (.getfield 56, 3) := by decide +kernel
theorem dX9_growTree_18 : decode cX9_growTree 18 = .ok (.iload_n 1, 1) := by decide +kernel
theorem dX9_growTree_19 : decode cX9_growTree 19 = .ok (.iconst 0, 1) := by decide +kernel
theorem dX9_growTree_20 : decode cX9_growTree 20 = .ok (.iastore, 1) := by decide +kernel
theorem dX9_growTree_21 : decode cX9_growTree 21 = .ok (.iinc 1 1, 3) := by decide +kernel
theorem dX9_growTree_24 : decode cX9_growTree 24 = .ok (.goto (-18), 3) := by decide +kernel
theorem dX9_growTree_27 : decode cX9_growTree 27 = .ok (.iconst 0, 1) := by decide +kernel
theorem dX9_growTree_28 : decode cX9_growTree 28 = .ok (.istore_n 1, 1) := by decide +kernel
theorem dX9_growTree_29 : decode cX9_growTree 29 = .ok (.iload_n 1, 1) := by decide +kernel
theorem dX9_growTree_30 : decode cX9_growTree 30 = .ok (.bipush 15, 2) := by decide +kernel
theorem dX9_growTree_32 : decode cX9_growTree 32 = .ok (.if_icmp .ge 24, 3) := by decide +kernel
theorem dX9_growTree_35 : decode cX9_growTree 35 = .ok (.aload_n 0, 1) := by decide +kernel
theorem dX9_growTree_36 : decode cX9_growTree 36 = .ok (.getfield 59, 3) := by decide +kernel
theorem dX9_growTree_39 : decode cX9_growTree 39 = .ok (.iload_n 1, 1) := by decide +kernel
theorem dX9_growTree_40 : decode cX9_growTree 40 = .ok (.iload_n 1, 1) := by decide +kernel
theorem dX9_growTree_41 : decode cX9_growTree 41 = .ok (.ifCond .ne 7, 3) := by decide +kernel
theorem dX9_growTree_44 : decode cX9_growTree 44 = .ok (.iconst 1, 1) := by decide +kernel
theorem dX9_growTree_45 : decode cX9_growTree 45 = .ok (.goto 4, 3) := by decide +kernel
theorem dX9_growTree_48 : decode cX9_growTree 48 = .ok (.iconst 0, 1) := by decide +kernel
theorem dX9_growTree_49 : decode cX9_growTree 49 = .ok (.bastore, 1) := by decide +kernel
theorem dX9_growTree_50 : decode cX9_growTree 50 = .ok (.iinc 1 1, 3) := by decide +kernel
theorem dX9_growTree_53 : decode cX9_growTree 53 = .ok (.goto (-24), 3) := by decide +kernel
theorem dX9_growTree_56 : decode cX9_growTree 56 = .ok (.iconst 0, 1) := by decide +kernel
theorem dX9_growTree_57 : decode cX9_growTree 57 = .ok (.istore_n 1, 1) := by decide +kernel
theorem dX9_growTree_58 : decode cX9_growTree 58 = .ok (.iload_n 1, 1) := by decide +kernel
theorem dX9_growTree_59 : decode cX9_growTree 59 = .ok (.bipush 15, 2) := by decide +kernel
theorem dX9_growTree_61 : decode cX9_growTree 61 = .ok (.if_icmp .ge 23, 3) := by decide +kernel
theorem dX9_growTree_64 : decode cX9_growTree 64 = .ok (.aload_n 0, 1) := by decide +kernel
theorem dX9_growTree_65 : decode cX9_growTree 65 = .ok (.getfield 59, 3) := by decide +kernel
theorem dX9_growTree_68 : decode cX9_growTree 68 = .ok (.iload_n 1, 1) := by decide +kernel
theorem dX9_growTree_69 : decode cX9_growTree 69 = .ok (.baload, 1) := by decide +kernel
theorem dX9_growTree_70 : decode cX9_growTree 70 = .ok (.ifCond .eq 8, 3) := by decide +kernel
theorem dX9_growTree_73 : decode cX9_growTree 73 = .ok (.aload_n 0, 1) := by decide +kernel
theorem dX9_growTree_74 : decode cX9_growTree 74 = .ok (.iload_n 1, 1) := by decide +kernel
theorem dX9_growTree_75 : decode cX9_growTree 75 = .ok (.invokevirtual 203, 3) := by decide +kernel
theorem dX9_growTree_78 : decode cX9_growTree 78 = .ok (.iinc 1 1, 3) := by decide +kernel
theorem dX9_growTree_81 : decode cX9_growTree 81 = .ok (.goto (-23), 3) := by decide +kernel
theorem dX9_growTree_84 : decode cX9_growTree 84 = .ok (.return_, 1) := by decide +kernel
theorem dX9_tree_0 : decode cX9_tree 0 = .ok (.iload_n 1, 1) := by decide +kernel
theorem dX9_tree_1 : decode cX9_tree 1 = .ok (.i2l, 1) := by decide +kernel
theorem dX9_tree_2 : decode cX9_tree 2 = .ok (.lconst 0, 1) := by decide +kernel
theorem dX9_tree_3 : decode cX9_tree 3 = .ok (.ldc2_w 207, 3) := by decide +kernel
theorem dX9_tree_6 : decode cX9_tree 6 = .ok (.invokestatic 119, 3) := by decide +kernel
theorem dX9_tree_9 : decode cX9_tree 9 = .ok (.ifCond .eq 15, 3) := by decide +kernel
theorem dX9_tree_12 : decode cX9_tree 12 = .ok (.iload_n 2, 1) := by decide +kernel
theorem dX9_tree_13 : decode cX9_tree 13 = .ok (.i2l, 1) := by decide +kernel
theorem dX9_tree_14 : decode cX9_tree 14 = .ok (.lconst 0, 1) := by decide +kernel
theorem dX9_tree_15 : decode cX9_tree 15 = .ok (.ldc2_w 127, 3) := by decide +kernel
theorem dX9_tree_18 : decode cX9_tree 18 = .ok (.invokestatic 119, 3) := by decide +kernel
theorem dX9_tree_21 : decode cX9_tree 21 = .ok (.ifCond .ne 7, 3) := by decide +kernel
theorem dX9_tree_24 : decode cX9_tree 24 = .ok (.sipush (-2000), 3) := by decide +kernel
theorem dX9_tree_27 : decode cX9_tree 27 = .ok (.ireturn, 1) := by decide +kernel
theorem dX9_tree_28 : decode cX9_tree 28 = .ok (.aload_n 0, 1) := by decide +kernel
theorem dX9_tree_29 : decode cX9_tree 29 = .ok (.invokevirtual 209, 3) := by decide +kernel
theorem dX9_tree_32 : decode cX9_tree 32 = .ok (.aload_n 0, 1) := by decide +kernel
theorem dX9_tree_33 : decode cX9_tree 33 = .ok (.getfield 59, 3) := by decide +kernel
theorem dX9_tree_36 : decode cX9_tree 36 = .ok (.iload_n 1, 1) := by decide +kernel
theorem dX9_tree_37 : decode cX9_tree 37 = .ok (.baload, 1) := by decide +kernel
theorem dX9_tree_38 : decode cX9_tree 38 = .ok (.ifCond .ne 7, 3) := by decide +kernel
theorem dX9_tree_41 : decode cX9_tree 41 = .ok (.sipush (-2000), 3) := by decide +kernel
theorem dX9_tree_44 : decode cX9_tree 44 = .ok (.ireturn, 1) := by decide +kernel
theorem dX9_tree_45 : decode cX9_tree 45 = .ok (.iload_n 2, 1) := by decide +kernel
theorem dX9_tree_46 : decode cX9_tree 46 = .ok (.ifCond .ne 12, 3) := by decide +kernel
theorem dX9_tree_49 : decode cX9_tree 49 = .ok (.aload_n 0, 1) := by decide +kernel
theorem dX9_tree_50 : decode cX9_tree 50 = .ok (.getfield 63, 3) := by decide +kernel
theorem dX9_tree_53 : decode cX9_tree 53 = .ok (.iload_n 1, 1) := by decide +kernel
theorem dX9_tree_54 : decode cX9_tree 54 = .ok (.iaload, 1) := by decide +kernel
theorem dX9_tree_55 : decode cX9_tree 55 = .ok (.goto 23, 3) := by decide +kernel
theorem dX9_tree_58 : decode cX9_tree 58 = .ok (.iload_n 2, 1) := by decide +kernel
theorem dX9_tree_59 : decode cX9_tree 59 = .ok (.iconst 1, 1) := by decide +kernel
theorem dX9_tree_60 : decode cX9_tree 60 = .ok (.if_icmp .ne 12, 3) := by decide +kernel
theorem dX9_tree_63 : decode cX9_tree 63 = .ok (.aload_n 0, 1) := by decide +kernel
theorem dX9_tree_64 : decode cX9_tree 64 = .ok (.getfield 66, 3) := by decide +kernel
theorem dX9_tree_67 : decode cX9_tree 67 = .ok (.iload_n 1, 1) := by decide +kernel
theorem dX9_tree_68 : decode cX9_tree 68 = .ok (.iaload, 1) := by decide +kernel
theorem dX9_tree_69 : decode cX9_tree 69 = .ok (.goto 9, 3) := by decide +kernel
theorem dX9_tree_72 : decode cX9_tree 72 = .ok (.aload_n 0, 1) := by decide +kernel
theorem dX9_tree_73 : decode cX9_tree 73 = .ok (.getfield 69, 3) := by decide +kernel
theorem dX9_tree_76 : decode cX9_tree 76 = .ok (.iload_n 1, 1) := by decide +kernel
theorem dX9_tree_77 : decode cX9_tree 77 = .ok (.iaload, 1) := by decide +kernel
theorem dX9_tree_78 : decode cX9_tree 78 = .ok (.ireturn, 1) := by decide +kernel
theorem dX9_kindOf_0 : decode cX9_kindOf 0 = .ok (.aload_n 0, 1) := by decide +kernel
theorem dX9_kindOf_1 : decode cX9_kindOf 1 = .ok (.iload_n 1, 1) := by decide +kernel
theorem dX9_kindOf_2 : decode cX9_kindOf 2 = .ok (.iload_n 2, 1) := by decide +kernel
theorem dX9_kindOf_3 : decode cX9_kindOf 3 = .ok (.invokevirtual 170, 3) := by decide +kernel
theorem dX9_kindOf_6 : decode cX9_kindOf 6 = .ok (.iconst 3, 1) := by decide +kernel
theorem dX9_kindOf_7 : decode cX9_kindOf 7 = .ok (.if_icmp .eq 5, 3) := by decide +kernel
theorem dX9_kindOf_10 : decode cX9_kindOf 10 = .ok (.iconst (-1), 1) := by decide +kernel
theorem dX9_kindOf_11 : decode cX9_kindOf 11 = .ok (.ireturn, 1) := by decide +kernel
theorem dX9_kindOf_12 : decode cX9_kindOf 12 = .ok (.aload_n 0, 1) := by decide +kernel
theorem dX9_kindOf_13 : decode cX9_kindOf 13 = .ok (.getfield 187, 3) := by decide +kernel
theorem dX9_kindOf_16 : decode cX9_kindOf 16 = .ok (.ifCond .ne 60, 3) := by decide +kernel
theorem dX9_kindOf_19 : decode cX9_kindOf 19 = .ok (.iconst 0, 1) := by decide +kernel
theorem dX9_kindOf_20 : decode cX9_kindOf 20 = .ok (.istore_n 3, 1) := by decide +kernel
theorem dX9_kindOf_21 : decode cX9_kindOf 21 = .ok (.aload_n 0, 1) := by decide +kernel
theorem dX9_kindOf_22 : decode cX9_kindOf 22 = .ok (.getfield 63, 3) := by decide +kernel
theorem dX9_kindOf_25 : decode cX9_kindOf 25 = .ok (.iload_n 3, 1) := by decide +kernel
theorem dX9_kindOf_26 : decode cX9_kindOf 26 = .ok (.iaload, 1) := by decide +kernel
theorem dX9_kindOf_27 : decode cX9_kindOf 27 = .ok (.iconst 4, 1) := by decide +kernel
theorem dX9_kindOf_28 : decode cX9_kindOf 28 = .ok (.if_icmp .eq 41, 3) := by decide +kernel
theorem dX9_kindOf_31 : decode cX9_kindOf 31 = .ok (.aload_n 0, 1) := by decide +kernel
theorem dX9_kindOf_32 : decode cX9_kindOf 32 = .ok (.iload_n 1, 1) := by decide +kernel
theorem dX9_kindOf_33 : decode cX9_kindOf 33 = .ok (.iload_n 2, 1) := by decide +kernel
theorem dX9_kindOf_34 : decode cX9_kindOf 34 = .ok (.aload_n 0, 1) := by decide +kernel
theorem dX9_kindOf_35 : decode cX9_kindOf 35 = .ok (.getfield 63, 3) := by decide +kernel
theorem dX9_kindOf_38 : decode cX9_kindOf 38 = .ok (.iload_n 3, 1) := by decide +kernel
theorem dX9_kindOf_39 : decode cX9_kindOf 39 = .ok (.iaload, 1) := by decide +kernel
theorem dX9_kindOf_40 : decode cX9_kindOf 40 = .ok (.invokevirtual 175, 3) := by decide +kernel
theorem dX9_kindOf_43 : decode cX9_kindOf 43 = .ok (.aload_n 0, 1) := by decide +kernel
theorem dX9_kindOf_44 : decode cX9_kindOf 44 = .ok (.getfield 66, 3) := by decide +kernel
theorem dX9_kindOf_47 : decode cX9_kindOf 47 = .ok (.iload_n 3, 1) := by decide +kernel
theorem dX9_kindOf_48 : decode cX9_kindOf 48 = .ok (.iaload, 1) := by decide +kernel
theorem dX9_kindOf_49 : decode cX9_kindOf 49 = .ok (.if_icmp .gt 11, 3) := by decide +kernel
theorem dX9_kindOf_52 : decode cX9_kindOf 52 = .ok (.iconst 2, 1) := by decide +kernel
theorem dX9_kindOf_53 : decode cX9_kindOf 53 = .ok (.iload_n 3, 1) := by decide +kernel
theorem dX9_kindOf_54 : decode cX9_kindOf 54 = .ok (.imul, 1) := by decide +kernel
theorem dX9_kindOf_55 : decode cX9_kindOf 55 = .ok (.iconst 1, 1) := by decide +kernel
theorem dX9_kindOf_56 : decode cX9_kindOf 56 = .ok (.iadd, 1) := by decide +kernel
theorem dX9_kindOf_57 : decode cX9_kindOf 57 = .ok (.goto 8, 3) := by decide +kernel
theorem dX9_kindOf_60 : decode cX9_kindOf 60 = .ok (.iconst 2, 1) := by decide +kernel
theorem dX9_kindOf_61 : decode cX9_kindOf 61 = .ok (.iload_n 3, 1) := by decide +kernel
theorem dX9_kindOf_62 : decode cX9_kindOf 62 = .ok (.imul, 1) := by decide +kernel
theorem dX9_kindOf_63 : decode cX9_kindOf 63 = .ok (.iconst 2, 1) := by decide +kernel
theorem dX9_kindOf_64 : decode cX9_kindOf 64 = .ok (.iadd, 1) := by decide +kernel
theorem dX9_kindOf_65 : decode cX9_kindOf 65 = .ok (.istore_n 3, 1) := by decide +kernel
theorem dX9_kindOf_66 : decode cX9_kindOf 66 = .ok (.goto (-45), 3) := by decide +kernel
theorem dX9_kindOf_69 : decode cX9_kindOf 69 = .ok (.aload_n 0, 1) := by decide +kernel
theorem dX9_kindOf_70 : decode cX9_kindOf 70 = .ok (.getfield 66, 3) := by decide +kernel
theorem dX9_kindOf_73 : decode cX9_kindOf 73 = .ok (.iload_n 3, 1) := by decide +kernel
theorem dX9_kindOf_74 : decode cX9_kindOf 74 = .ok (.iaload, 1) := by decide +kernel
theorem dX9_kindOf_75 : decode cX9_kindOf 75 = .ok (.ireturn, 1) := by decide +kernel
theorem dX9_kindOf_76 : decode cX9_kindOf 76 = .ok (.iconst (-1), 1) := by decide +kernel
theorem dX9_kindOf_77 : decode cX9_kindOf 77 = .ok (.istore_n 3, 1) := by decide +kernel
theorem dX9_kindOf_78 : decode cX9_kindOf 78 = .ok (.iconst 0, 1) := by decide +kernel
theorem dX9_kindOf_79 : decode cX9_kindOf 79 = .ok (.istore 4, 2) := by decide +kernel
theorem dX9_kindOf_81 : decode cX9_kindOf 81 = .ok (.iconst 0, 1) := by decide +kernel
theorem dX9_kindOf_82 : decode cX9_kindOf 82 = .ok (.istore 5, 2) := by decide +kernel
theorem dX9_kindOf_84 : decode cX9_kindOf 84 = .ok (.iload 5, 2) := by decide +kernel
theorem dX9_kindOf_86 : decode cX9_kindOf 86 = .ok (.aload_n 0, 1) := by decide +kernel
theorem dX9_kindOf_87 : decode cX9_kindOf 87 = .ok (.getfield 181, 3) := by decide +kernel
theorem dX9_kindOf_90 : decode cX9_kindOf 90 = .ok (.if_icmp .ge 87, 3) := by decide +kernel
theorem dX9_kindOf_93 : decode cX9_kindOf 93 = .ok (.iconst 0, 1) := by decide +kernel
theorem dX9_kindOf_94 : decode cX9_kindOf 94 = .ok (.istore 6, 2) := by decide +kernel
theorem dX9_kindOf_96 : decode cX9_kindOf 96 = .ok (.iconst 0, 1) := by decide +kernel
theorem dX9_kindOf_97 : decode cX9_kindOf 97 = .ok (.istore 7, 2) := by decide +kernel
theorem dX9_kindOf_99 : decode cX9_kindOf 99 = .ok (.iload 7, 2) := by decide +kernel
theorem dX9_kindOf_101 : decode cX9_kindOf 101 = .ok (.iconst 3, 1) := by decide +kernel
theorem dX9_kindOf_102 : decode cX9_kindOf 102 = .ok (.if_icmp .ge 50, 3) := by decide +kernel
theorem dX9_kindOf_105 : decode cX9_kindOf 105 = .ok (.aload_n 0, 1) := by decide +kernel
theorem dX9_kindOf_106 : decode cX9_kindOf 106 = .ok (.getfield 47, 3) := by decide +kernel
theorem dX9_kindOf_109 : decode cX9_kindOf 109 = .ok (.iconst 4, 1) := by decide +kernel
theorem dX9_kindOf_110 : decode cX9_kindOf 110 = .ok (.iload 5, 2) := by decide +kernel
theorem dX9_kindOf_112 : decode cX9_kindOf 112 = .ok (.imul, 1) := by decide +kernel
theorem dX9_kindOf_113 : decode cX9_kindOf 113 = .ok (.iload 7, 2) := by decide +kernel
theorem dX9_kindOf_115 : decode cX9_kindOf 115 = .ok (.iadd, 1) := by decide +kernel
theorem dX9_kindOf_116 : decode cX9_kindOf 116 = .ok (.iaload, 1) := by decide +kernel
theorem dX9_kindOf_117 : decode cX9_kindOf 117 = .ok (.aload_n 0, 1) := by decide +kernel
theorem dX9_kindOf_118 : decode cX9_kindOf 118 = .ok (.iload_n 1, 1) := by decide +kernel
theorem dX9_kindOf_119 : decode cX9_kindOf 119 = .ok (.iload 7, 2) := by decide +kernel
theorem dX9_kindOf_121 : decode cX9_kindOf 121 = .ok (.iload_n 2, 1) := by decide +kernel
theorem dX9_kindOf_122 : decode cX9_kindOf 122 = .ok (.invokevirtual 155, 3) := by decide +kernel
theorem dX9_kindOf_125 : decode cX9_kindOf 125 = .ok (.isub, 1) := by decide +kernel
theorem dX9_kindOf_126 : decode cX9_kindOf 126 = .ok (.istore 8, 2) := by decide +kernel
theorem dX9_kindOf_128 : decode cX9_kindOf 128 = .ok (.iload 6, 2) := by decide +kernel
theorem dX9_kindOf_130 : decode cX9_kindOf 130 = .ok (.iload 8, 2) := by decide +kernel
theorem dX9_kindOf_132 : decode cX9_kindOf 132 = .ok (.ifCond .ge 9, 3) := by decide +kernel
theorem dX9_kindOf_135 : decode cX9_kindOf 135 = .ok (.iload 8, 2) := by decide +kernel
theorem dX9_kindOf_137 : decode cX9_kindOf 137 = .ok (.ineg, 1) := by decide +kernel
theorem dX9_kindOf_138 : decode cX9_kindOf 138 = .ok (.goto 5, 3) := by decide +kernel
theorem dX9_kindOf_141 : decode cX9_kindOf 141 = .ok (.iload 8, 2) := by decide +kernel
theorem dX9_kindOf_143 : decode cX9_kindOf 143 = .ok (.iadd, 1) := by decide +kernel
theorem dX9_kindOf_144 : decode cX9_kindOf 144 = .ok (.istore 6, 2) := by decide +kernel
theorem dX9_kindOf_146 : decode cX9_kindOf 146 = .ok (.iinc 7 1, 3) := by decide +kernel
theorem dX9_kindOf_149 : decode cX9_kindOf 149 = .ok (.goto (-50), 3) := by decide +kernel
theorem dX9_kindOf_152 : decode cX9_kindOf 152 = .ok (.iload_n 3, 1) := by decide +kernel
theorem dX9_kindOf_153 : decode cX9_kindOf 153 = .ok (.iconst (-1), 1) := by decide +kernel
theorem dX9_kindOf_154 : decode cX9_kindOf 154 = .ok (.if_icmp .eq 10, 3) := by decide +kernel
theorem dX9_kindOf_157 : decode cX9_kindOf 157 = .ok (.iload 6, 2) := by decide +kernel
theorem dX9_kindOf_159 : decode cX9_kindOf 159 = .ok (.iload 4, 2) := by decide +kernel
theorem dX9_kindOf_161 : decode cX9_kindOf 161 = .ok (.if_icmp .ge 10, 3) := by decide +kernel
theorem dX9_kindOf_164 : decode cX9_kindOf 164 = .ok (.iload 5, 2) := by decide +kernel
theorem dX9_kindOf_166 : decode cX9_kindOf 166 = .ok (.istore_n 3, 1) := by decide +kernel
theorem dX9_kindOf_167 : decode cX9_kindOf 167 = .ok (.iload 6, 2) := by decide +kernel
theorem dX9_kindOf_169 : decode cX9_kindOf 169 = .ok (.istore 4, 2) := by decide +kernel
theorem dX9_kindOf_171 : decode cX9_kindOf 171 = .ok (.iinc 5 1, 3) := by decide +kernel
theorem dX9_kindOf_174 : decode cX9_kindOf 174 = .ok (.goto (-90), 3) := by decide +kernel
theorem dX9_kindOf_177 : decode cX9_kindOf 177 = .ok (.iload_n 3, 1) := by decide +kernel
theorem dX9_kindOf_178 : decode cX9_kindOf 178 = .ok (.iconst (-1), 1) := by decide +kernel
theorem dX9_kindOf_179 : decode cX9_kindOf 179 = .ok (.if_icmp .ne 7, 3) := by decide +kernel
theorem dX9_kindOf_182 : decode cX9_kindOf 182 = .ok (.iconst (-1), 1) := by decide +kernel
theorem dX9_kindOf_183 : decode cX9_kindOf 183 = .ok (.goto 9, 3) := by decide +kernel
theorem dX9_kindOf_186 : decode cX9_kindOf 186 = .ok (.aload_n 0, 1) := by decide +kernel
theorem dX9_kindOf_187 : decode cX9_kindOf 187 = .ok (.getfield 50, 3) := by decide +kernel
theorem dX9_kindOf_190 : decode cX9_kindOf 190 = .ok (.iload_n 3, 1) := by decide +kernel
theorem dX9_kindOf_191 : decode cX9_kindOf 191 = .ok (.iaload, 1) := by decide +kernel
theorem dX9_kindOf_192 : decode cX9_kindOf 192 = .ok (.ireturn, 1) := by decide +kernel
theorem dX9_kind_0 : decode cX9_kind 0 = .ok (.iload_n 1, 1) := by decide +kernel
theorem dX9_kind_1 : decode cX9_kind 1 = .ok (.invokestatic 150, 3) := by decide +kernel
theorem dX9_kind_4 : decode cX9_kind 4 = .ok (.ifCond .eq 10, 3) := by decide +kernel
theorem dX9_kind_7 : decode cX9_kind 7 = .ok (.iload_n 2, 1) := by decide +kernel
theorem dX9_kind_8 : decode cX9_kind 8 = .ok (.invokestatic 167, 3) := by decide +kernel
theorem dX9_kind_11 : decode cX9_kind 11 = .ok (.ifCond .ne 7, 3) := by decide +kernel
theorem dX9_kind_14 : decode cX9_kind 14 = .ok (.sipush (-2000), 3) := by decide +kernel
theorem dX9_kind_17 : decode cX9_kind 17 = .ok (.ireturn, 1) := by decide +kernel
theorem dX9_kind_18 : decode cX9_kind 18 = .ok (.aload_n 0, 1) := by decide +kernel
theorem dX9_kind_19 : decode cX9_kind 19 = .ok (.invokevirtual 209, 3) := by decide +kernel
theorem dX9_kind_22 : decode cX9_kind 22 = .ok (.aload_n 0, 1) := by decide +kernel
theorem dX9_kind_23 : decode cX9_kind 23 = .ok (.iload_n 1, 1) := by decide +kernel
theorem dX9_kind_24 : decode cX9_kind 24 = .ok (.iload_n 2, 1) := by decide +kernel
theorem dX9_kind_25 : decode cX9_kind 25 = .ok (.invokevirtual 212, 3) := by decide +kernel
theorem dX9_kind_28 : decode cX9_kind 28 = .ok (.ireturn, 1) := by decide +kernel
theorem dX9_countOf_0 : decode cX9_countOf 0 = .ok (.iconst 0, 1) := by decide +kernel
theorem dX9_countOf_1 : decode cX9_countOf 1 = .ok (.istore_n 3, 1) := by decide +kernel
theorem dX9_countOf_2 : decode cX9_countOf 2 = .ok (.iconst 0, 1) := by decide +kernel
theorem dX9_countOf_3 : decode cX9_countOf 3 = .ok (.istore 4, 2) := by decide +kernel
theorem dX9_countOf_5 : decode cX9_countOf 5 = .ok (.iload 4, 2) := by decide +kernel
theorem dX9_countOf_7 : decode cX9_countOf 7 = .ok (.bipush 64, 2) := by decide +kernel
theorem dX9_countOf_9 : decode cX9_countOf 9 = .ok (.if_icmp .ge 28, 3) := by decide +kernel
theorem dX9_countOf_12 : decode cX9_countOf 12 = .ok (.iload_n 3, 1) := by decide +kernel
theorem dX9_countOf_13 : decode cX9_countOf 13 = .ok (.aload_n 0, 1) := by decide +kernel
theorem dX9_countOf_14 : decode cX9_countOf 14 = .ok (.iload_n 1, 1) := by decide +kernel
theorem dX9_countOf_15 : decode cX9_countOf 15 = .ok (.iload 4, 2) := by decide +kernel
theorem dX9_countOf_17 : decode cX9_countOf 17 = .ok (.invokevirtual 212, 3) := by decide +kernel
theorem dX9_countOf_20 : decode cX9_countOf 20 = .ok (.iload_n 2, 1) := by decide +kernel
theorem dX9_countOf_21 : decode cX9_countOf 21 = .ok (.if_icmp .ne 7, 3) := by decide +kernel
theorem dX9_countOf_24 : decode cX9_countOf 24 = .ok (.iconst 1, 1) := by decide +kernel
theorem dX9_countOf_25 : decode cX9_countOf 25 = .ok (.goto 4, 3) := by decide +kernel
theorem dX9_countOf_28 : decode cX9_countOf 28 = .ok (.iconst 0, 1) := by decide +kernel
theorem dX9_countOf_29 : decode cX9_countOf 29 = .ok (.iadd, 1) := by decide +kernel
theorem dX9_countOf_30 : decode cX9_countOf 30 = .ok (.istore_n 3, 1) := by decide +kernel
theorem dX9_countOf_31 : decode cX9_countOf 31 = .ok (.iinc 4 1, 3) := by decide +kernel
theorem dX9_countOf_34 : decode cX9_countOf 34 = .ok (.goto (-29), 3) := by decide +kernel
theorem dX9_countOf_37 : decode cX9_countOf 37 = .ok (.iload_n 3, 1) := by decide +kernel
theorem dX9_countOf_38 : decode cX9_countOf 38 = .ok (.ireturn, 1) := by decide +kernel
theorem dX9_many_0 : decode cX9_many 0 = .ok (.iload_n 1, 1) := by decide +kernel
theorem dX9_many_1 : decode cX9_many 1 = .ok (.invokestatic 150, 3) := by decide +kernel
theorem dX9_many_4 : decode cX9_many 4 = .ok (.ifCond .eq 17, 3) := by decide +kernel
theorem dX9_many_7 : decode cX9_many 7 = .ok (.iload_n 2, 1) := by decide +kernel
theorem dX9_many_8 : decode cX9_many 8 = .ok (.i2l, 1) := by decide +kernel
theorem dX9_many_9 : decode cX9_many 9 = .ok (.ldc2_w 197, 3) := by decide +kernel
theorem dX9_many_12 : decode cX9_many 12 = .ok (.ldc2_w 173, 3) := by decide +kernel
theorem dX9_many_15 : decode cX9_many 15 = .ok (.invokestatic 119, 3) := by decide +kernel
theorem dX9_many_18 : decode cX9_many 18 = .ok (.ifCond .ne 7, 3) := by decide +kernel
theorem dX9_many_21 : decode cX9_many 21 = .ok (.sipush (-2000), 3) := by decide +kernel
theorem dX9_many_24 : decode cX9_many 24 = .ok (.ireturn, 1) := by decide +kernel
theorem dX9_many_25 : decode cX9_many 25 = .ok (.aload_n 0, 1) := by decide +kernel
theorem dX9_many_26 : decode cX9_many 26 = .ok (.invokevirtual 209, 3) := by decide +kernel
theorem dX9_many_29 : decode cX9_many 29 = .ok (.aload_n 0, 1) := by decide +kernel
theorem dX9_many_30 : decode cX9_many 30 = .ok (.iload_n 1, 1) := by decide +kernel
theorem dX9_many_31 : decode cX9_many 31 = .ok (.iload_n 2, 1) := by decide +kernel
theorem dX9_many_32 : decode cX9_many 32 = .ok (.invokevirtual 215, 3) := by decide +kernel
theorem dX9_many_35 : decode cX9_many 35 = .ok (.ireturn, 1) := by decide +kernel
theorem dX9_weigh_0 : decode cX9_weigh 0 = .ok (.iload_n 1, 1) := by decide +kernel
theorem dX9_weigh_1 : decode cX9_weigh 1 = .ok (.i2l, 1) := by decide +kernel
theorem dX9_weigh_2 : decode cX9_weigh 2 = .ok (.lconst 0, 1) := by decide +kernel
theorem dX9_weigh_3 : decode cX9_weigh 3 = .ok (.ldc2_w 218, 3) := by decide +kernel
theorem dX9_weigh_6 : decode cX9_weigh 6 = .ok (.invokestatic 119, 3) := by decide +kernel
theorem dX9_weigh_9 : decode cX9_weigh 9 = .ok (.ifCond .eq 15, 3) := by decide +kernel
theorem dX9_weigh_12 : decode cX9_weigh 12 = .ok (.iload_n 2, 1) := by decide +kernel
theorem dX9_weigh_13 : decode cX9_weigh 13 = .ok (.i2l, 1) := by decide +kernel
theorem dX9_weigh_14 : decode cX9_weigh 14 = .ok (.lconst 0, 1) := by decide +kernel
theorem dX9_weigh_15 : decode cX9_weigh 15 = .ok (.ldc2_w 218, 3) := by decide +kernel
theorem dX9_weigh_18 : decode cX9_weigh 18 = .ok (.invokestatic 119, 3) := by decide +kernel
theorem dX9_weigh_21 : decode cX9_weigh 21 = .ok (.ifCond .ne 7, 3) := by decide +kernel
theorem dX9_weigh_24 : decode cX9_weigh 24 = .ok (.sipush (-2000), 3) := by decide +kernel
theorem dX9_weigh_27 : decode cX9_weigh 27 = .ok (.ireturn, 1) := by decide +kernel
theorem dX9_weigh_28 : decode cX9_weigh 28 = .ok (.aload_n 0, 1) := by decide +kernel
theorem dX9_weigh_29 : decode cX9_weigh 29 = .ok (.iload_n 1, 1) := by decide +kernel
theorem dX9_weigh_30 : decode cX9_weigh 30 = .ok (.putfield 78, 3) := by decide +kernel
theorem dX9_weigh_33 : decode cX9_weigh 33 = .ok (.aload_n 0, 1) := by decide +kernel
theorem dX9_weigh_34 : decode cX9_weigh 34 = .ok (.iload_n 2, 1) := by decide +kernel
theorem dX9_weigh_35 : decode cX9_weigh 35 = .ok (.putfield 81, 3) := by decide +kernel
theorem dX9_weigh_38 : decode cX9_weigh 38 = .ok (.iconst 1, 1) := by decide +kernel
theorem dX9_weigh_39 : decode cX9_weigh 39 = .ok (.ireturn, 1) := by decide +kernel
theorem dX9_neighbour_0 : decode cX9_neighbour 0 = .ok (.iload_n 0, 1) := by decide +kernel
theorem dX9_neighbour_1 : decode cX9_neighbour 1 = .ok (.bipush 8, 2) := by decide +kernel
theorem dX9_neighbour_3 : decode cX9_neighbour 3 = .ok (.irem, 1) := by decide +kernel
theorem dX9_neighbour_4 : decode cX9_neighbour 4 = .ok (.iload_n 1, 1) := by decide +kernel
theorem dX9_neighbour_5 : decode cX9_neighbour 5 = .ok (.ifCond .ne 7, 3) := by decide +kernel
theorem dX9_neighbour_8 : decode cX9_neighbour 8 = .ok (.iconst 1, 1) := by decide +kernel
theorem dX9_neighbour_9 : decode cX9_neighbour 9 = .ok (.goto 13, 3) := by decide +kernel
theorem dX9_neighbour_12 : decode cX9_neighbour 12 = .ok (.iload_n 1, 1) := by decide +kernel
theorem dX9_neighbour_13 : decode cX9_neighbour 13 = .ok (.iconst 2, 1) := by decide +kernel
theorem dX9_neighbour_14 : decode cX9_neighbour 14 = .ok (.if_icmp .ne 7, 3) := by decide +kernel
theorem dX9_neighbour_17 : decode cX9_neighbour 17 = .ok (.iconst (-1), 1) := by decide +kernel
theorem dX9_neighbour_18 : decode cX9_neighbour 18 = .ok (.goto 4, 3) := by decide +kernel
theorem dX9_neighbour_21 : decode cX9_neighbour 21 = .ok (.iconst 0, 1) := by decide +kernel
theorem dX9_neighbour_22 : decode cX9_neighbour 22 = .ok (.iadd, 1) := by decide +kernel
theorem dX9_neighbour_23 : decode cX9_neighbour 23 = .ok (.istore_n 2, 1) := by decide +kernel
theorem dX9_neighbour_24 : decode cX9_neighbour 24 = .ok (.iload_n 0, 1) := by decide +kernel
theorem dX9_neighbour_25 : decode cX9_neighbour 25 = .ok (.bipush 8, 2) := by decide +kernel
theorem dX9_neighbour_27 : decode cX9_neighbour 27 = .ok (.idiv, 1) := by decide +kernel
theorem dX9_neighbour_28 : decode cX9_neighbour 28 = .ok (.iload_n 1, 1) := by decide +kernel
theorem dX9_neighbour_29 : decode cX9_neighbour 29 = .ok (.iconst 1, 1) := by decide +kernel
theorem dX9_neighbour_30 : decode cX9_neighbour 30 = .ok (.if_icmp .ne 7, 3) := by decide +kernel
theorem dX9_neighbour_33 : decode cX9_neighbour 33 = .ok (.iconst 1, 1) := by decide +kernel
theorem dX9_neighbour_34 : decode cX9_neighbour 34 = .ok (.goto 13, 3) := by decide +kernel
theorem dX9_neighbour_37 : decode cX9_neighbour 37 = .ok (.iload_n 1, 1) := by decide +kernel
theorem dX9_neighbour_38 : decode cX9_neighbour 38 = .ok (.iconst 3, 1) := by decide +kernel
theorem dX9_neighbour_39 : decode cX9_neighbour 39 = .ok (.if_icmp .ne 7, 3) := by decide +kernel
theorem dX9_neighbour_42 : decode cX9_neighbour 42 = .ok (.iconst (-1), 1) := by decide +kernel
theorem dX9_neighbour_43 : decode cX9_neighbour 43 = .ok (.goto 4, 3) := by decide +kernel
theorem dX9_neighbour_46 : decode cX9_neighbour 46 = .ok (.iconst 0, 1) := by decide +kernel
theorem dX9_neighbour_47 : decode cX9_neighbour 47 = .ok (.iadd, 1) := by decide +kernel
theorem dX9_neighbour_48 : decode cX9_neighbour 48 = .ok (.istore_n 3, 1) := by decide +kernel
theorem dX9_neighbour_49 : decode cX9_neighbour 49 = .ok (.iload_n 2, 1) := by decide +kernel
theorem dX9_neighbour_50 : decode cX9_neighbour 50 = .ok (.i2l, 1) := by decide +kernel
theorem dX9_neighbour_51 : decode cX9_neighbour 51 = .ok (.lconst 0, 1) := by decide +kernel
theorem dX9_neighbour_52 : decode cX9_neighbour 52 = .ok (.ldc2_w 158, 3) := by decide +kernel
theorem dX9_neighbour_55 : decode cX9_neighbour 55 = .ok (.invokestatic 119, 3) := by decide +kernel
theorem dX9_neighbour_58 : decode cX9_neighbour 58 = .ok (.ifCond .eq 24, 3) := by decide +kernel
theorem dX9_neighbour_61 : decode cX9_neighbour 61 = .ok (.iload_n 3, 1) := by decide +kernel
theorem dX9_neighbour_62 : decode cX9_neighbour 62 = .ok (.i2l, 1) := by decide +kernel
theorem dX9_neighbour_63 : decode cX9_neighbour 63 = .ok (.lconst 0, 1) := by decide +kernel
theorem dX9_neighbour_64 : decode cX9_neighbour 64 = .ok (.ldc2_w 158, 3) := by decide +kernel
theorem dX9_neighbour_67 : decode cX9_neighbour 67 = .ok (.invokestatic 119, 3) := by decide +kernel
theorem dX9_neighbour_70 : decode cX9_neighbour 70 = .ok (.ifCond .eq 12, 3) := by decide +kernel
theorem dX9_neighbour_73 : decode cX9_neighbour 73 = .ok (.bipush 8, 2) := by decide +kernel
theorem dX9_neighbour_75 : decode cX9_neighbour 75 = .ok (.iload_n 3, 1) := by decide +kernel
theorem dX9_neighbour_76 : decode cX9_neighbour 76 = .ok (.imul, 1) := by decide +kernel
theorem dX9_neighbour_77 : decode cX9_neighbour 77 = .ok (.iload_n 2, 1) := by decide +kernel
theorem dX9_neighbour_78 : decode cX9_neighbour 78 = .ok (.iadd, 1) := by decide +kernel
theorem dX9_neighbour_79 : decode cX9_neighbour 79 = .ok (.goto 4, 3) := by decide +kernel
theorem dX9_neighbour_82 : decode cX9_neighbour 82 = .ok (.iconst (-1), 1) := by decide +kernel
theorem dX9_neighbour_83 : decode cX9_neighbour 83 = .ok (.ireturn, 1) := by decide +kernel
theorem dX9_reach_0 : decode cX9_reach 0 = .ok (.iconst 0, 1) := by decide +kernel
theorem dX9_reach_1 : decode cX9_reach 1 = .ok (.istore_n 1, 1) := by decide +kernel
theorem dX9_reach_2 : decode cX9_reach 2 = .ok (.iconst 0, 1) := by decide +kernel
theorem dX9_reach_3 : decode cX9_reach 3 = .ok (.istore_n 2, 1) := by decide +kernel
theorem dX9_reach_4 : decode cX9_reach 4 = .ok (.iload_n 2, 1) := by decide +kernel
theorem dX9_reach_5 : decode cX9_reach 5 = .ok (.bipush 64, 2) := by decide +kernel
theorem dX9_reach_7 : decode cX9_reach 7 = .ok (.if_icmp .ge 42, 3) := by decide +kernel
theorem dX9_reach_10 : decode cX9_reach 10 = .ok (.aload_n 0, 1) := by decide +kernel
theorem dX9_reach_11 : decode cX9_reach 11 = .ok (.getfield 93, 3) := by decide +kernel
theorem dX9_reach_14 : decode cX9_reach 14 = .ok (.iload_n 2, 1) := by decide +kernel
theorem dX9_reach_15 : decode cX9_reach 15 = .ok (.iconst (-1), 1) := by decide +kernel
theorem dX9_reach_16 : decode cX9_reach 16 = .ok (.iastore, 1) := by decide +kernel
theorem dX9_reach_17 : decode cX9_reach 17 = .ok (.aload_n 0, 1) := by decide +kernel
theorem dX9_reach_18 : decode cX9_reach 18 = .ok (.getfield 84, 3) := by decide +kernel
theorem dX9_reach_21 : decode cX9_reach 21 = .ok (.iload_n 2, 1) := by decide +kernel
theorem dX9_reach_22 : decode cX9_reach 22 = .ok (.iaload, 1) := by decide +kernel
theorem dX9_reach_23 : decode cX9_reach 23 = .ok (.ifCond .le 20, 3) := by decide +kernel
theorem dX9_reach_26 : decode cX9_reach 26 = .ok (.aload_n 0, 1) := by decide +kernel
theorem dX9_reach_27 : decode cX9_reach 27 = .ok (.getfield 93, 3) := by decide +kernel
theorem dX9_reach_30 : decode cX9_reach 30 = .ok (.iload_n 2, 1) := by decide +kernel
theorem dX9_reach_31 : decode cX9_reach 31 = .ok (.iconst 4, 1) := by decide +kernel
theorem dX9_reach_32 : decode cX9_reach 32 = .ok (.iastore, 1) := by decide +kernel
theorem dX9_reach_33 : decode cX9_reach 33 = .ok (.aload_n 0, 1) := by decide +kernel
theorem dX9_reach_34 : decode cX9_reach 34 = .ok (.getfield 96, 3) := by decide +kernel
theorem dX9_reach_37 : decode cX9_reach 37 = .ok (.iload_n 1, 1) := by decide +kernel
theorem dX9_reach_38 : decode cX9_reach 38 = .ok (.iload_n 2, 1) := by decide +kernel
theorem dX9_reach_39 : decode cX9_reach 39 = .ok (.iastore, 1) := by decide +kernel
theorem dX9_reach_40 : decode cX9_reach 40 = .ok (.iinc 1 1, 3) := by decide +kernel
theorem dX9_reach_43 : decode cX9_reach 43 = .ok (.iinc 2 1, 3) := by decide +kernel
theorem dX9_reach_46 : decode cX9_reach 46 = .ok (.goto (-42), 3) := by decide +kernel
theorem dX9_reach_49 : decode cX9_reach 49 = .ok (.iconst 0, 1) := by decide +kernel
theorem dX9_reach_50 : decode cX9_reach 50 = .ok (.istore_n 2, 1) := by decide +kernel
theorem dX9_reach_51 : decode cX9_reach 51 = .ok (.iload_n 2, 1) := by decide +kernel
theorem dX9_reach_52 : decode cX9_reach 52 = .ok (.iload_n 1, 1) := by decide +kernel
theorem dX9_reach_53 : decode cX9_reach 53 = .ok (.if_icmp .ge 101, 3) := by decide +kernel
theorem dX9_reach_56 : decode cX9_reach 56 = .ok (.aload_n 0, 1) := by decide +kernel
theorem dX9_reach_57 : decode cX9_reach 57 = .ok (.getfield 96, 3) := by decide +kernel
theorem dX9_reach_60 : decode cX9_reach 60 = .ok (.iload_n 2, 1) := by decide +kernel
theorem dX9_reach_61 : decode cX9_reach 61 = .ok (.iaload, 1) := by decide +kernel
theorem dX9_reach_62 : decode cX9_reach 62 = .ok (.istore_n 3, 1) := by decide +kernel
theorem dX9_reach_63 : decode cX9_reach 63 = .ok (.aload_n 0, 1) := by decide +kernel
theorem dX9_reach_64 : decode cX9_reach 64 = .ok (.getfield 87, 3) := by decide +kernel
theorem dX9_reach_67 : decode cX9_reach 67 = .ok (.iload_n 3, 1) := by decide +kernel
theorem dX9_reach_68 : decode cX9_reach 68 = .ok (.iaload, 1) := by decide +kernel
theorem dX9_reach_69 : decode cX9_reach 69 = .ok (.ifCond .le 5, 3) := by decide +kernel
theorem dX9_reach_72 : decode cX9_reach 72 = .ok (.iload_n 3, 1) := by decide +kernel
theorem dX9_reach_73 : decode cX9_reach 73 = .ok (.ireturn, 1) := by decide +kernel
theorem dX9_reach_74 : decode cX9_reach 74 = .ok (.iconst 0, 1) := by decide +kernel
theorem dX9_reach_75 : decode cX9_reach 75 = .ok (.istore 4, 2) := by decide +kernel
theorem dX9_reach_77 : decode cX9_reach 77 = .ok (.iload 4, 2) := by decide +kernel
theorem dX9_reach_79 : decode cX9_reach 79 = .ok (.iconst 4, 1) := by decide +kernel
theorem dX9_reach_80 : decode cX9_reach 80 = .ok (.if_icmp .ge 68, 3) := by decide +kernel
theorem dX9_reach_83 : decode cX9_reach 83 = .ok (.iload_n 3, 1) := by decide +kernel
theorem dX9_reach_84 : decode cX9_reach 84 = .ok (.iload 4, 2) := by decide +kernel
theorem dX9_reach_86 : decode cX9_reach 86 = .ok (.invokestatic 220, 3) := by decide +kernel
theorem dX9_reach_89 : decode cX9_reach 89 = .ok (.istore 5, 2) := by decide +kernel
theorem dX9_reach_91 : decode cX9_reach 91 = .ok (.iload 5, 2) := by decide +kernel
theorem dX9_reach_93 : decode cX9_reach 93 = .ok (.iconst (-1), 1) := by decide +kernel
theorem dX9_reach_94 : decode cX9_reach 94 = .ok (.if_icmp .eq 48, 3) := by decide +kernel
theorem dX9_reach_97 : decode cX9_reach 97 = .ok (.aload_n 0, 1) := by decide +kernel
theorem dX9_reach_98 : decode cX9_reach 98 = .ok (.getfield 93, 3) := by decide +kernel
theorem dX9_reach_101 : decode cX9_reach 101 = .ok (.iload 5, 2) := by decide +kernel
theorem dX9_reach_103 : decode cX9_reach 103 = .ok (.iaload, 1) := by decide +kernel
theorem dX9_reach_104 : decode cX9_reach 104 = .ok (.iconst (-1), 1) := by decide +kernel
theorem dX9_reach_105 : decode cX9_reach 105 = .ok (.if_icmp .ne 37, 3) := by decide +kernel
theorem dX9_reach_108 : decode cX9_reach 108 = .ok (.aload_n 0, 1) := by decide +kernel
theorem dX9_reach_109 : decode cX9_reach 109 = .ok (.getfield 90, 3) := by decide +kernel
theorem dX9_reach_112 : decode cX9_reach 112 = .ok (.iconst 4, 1) := by decide +kernel
theorem dX9_reach_113 : decode cX9_reach 113 = .ok (.iload_n 3, 1) := by decide +kernel
theorem dX9_reach_114 : decode cX9_reach 114 = .ok (.imul, 1) := by decide +kernel
theorem dX9_reach_115 : decode cX9_reach 115 = .ok (.iload 4, 2) := by decide +kernel
theorem dX9_reach_117 : decode cX9_reach 117 = .ok (.iadd, 1) := by decide +kernel
theorem dX9_reach_118 : decode cX9_reach 118 = .ok (.iaload, 1) := by decide +kernel
theorem dX9_reach_119 : decode cX9_reach 119 = .ok (.ifCond .le 23, 3) := by decide +kernel
theorem dX9_reach_122 : decode cX9_reach 122 = .ok (.aload_n 0, 1) := by decide +kernel
theorem dX9_reach_123 : decode cX9_reach 123 = .ok (.getfield 93, 3) := by decide +kernel
theorem dX9_reach_126 : decode cX9_reach 126 = .ok (.iload 5, 2) := by decide +kernel
theorem dX9_reach_128 : decode cX9_reach 128 = .ok (.iload 4, 2) := by decide +kernel
theorem dX9_reach_130 : decode cX9_reach 130 = .ok (.iastore, 1) := by decide +kernel
theorem dX9_reach_131 : decode cX9_reach 131 = .ok (.aload_n 0, 1) := by decide +kernel
theorem dX9_reach_132 : decode cX9_reach 132 = .ok (.getfield 96, 3) := by decide +kernel
theorem dX9_reach_135 : decode cX9_reach 135 = .ok (.iload_n 1, 1) := by decide +kernel
theorem dX9_reach_136 : decode cX9_reach 136 = .ok (.iload 5, 2) := by decide +kernel
theorem dX9_reach_138 : decode cX9_reach 138 = .ok (.iastore, 1) := by decide +kernel
theorem dX9_reach_139 : decode cX9_reach 139 = .ok (.iinc 1 1, 3) := by decide +kernel
theorem dX9_reach_142 : decode cX9_reach 142 = .ok (.iinc 4 1, 3) := by decide +kernel
theorem dX9_reach_145 : decode cX9_reach 145 = .ok (.goto (-68), 3) := by decide +kernel
theorem dX9_reach_148 : decode cX9_reach 148 = .ok (.iinc 2 1, 3) := by decide +kernel
theorem dX9_reach_151 : decode cX9_reach 151 = .ok (.goto (-100), 3) := by decide +kernel
theorem dX9_reach_154 : decode cX9_reach 154 = .ok (.iconst (-1), 1) := by decide +kernel
theorem dX9_reach_155 : decode cX9_reach 155 = .ok (.ireturn, 1) := by decide +kernel
theorem dX9_fill_0 : decode cX9_fill 0 = .ok (.aload_n 0, 1) := by decide +kernel
theorem dX9_fill_1 : decode cX9_fill 1 = .ok (.getfield 87, 3) := by decide +kernel
theorem dX9_fill_4 : decode cX9_fill 4 = .ok (.iload_n 1, 1) := by decide +kernel
theorem dX9_fill_5 : decode cX9_fill 5 = .ok (.iaload, 1) := by decide +kernel
theorem dX9_fill_6 : decode cX9_fill 6 = .ok (.istore_n 2, 1) := by decide +kernel
theorem dX9_fill_7 : decode cX9_fill 7 = .ok (.iload_n 1, 1) := by decide +kernel
theorem dX9_fill_8 : decode cX9_fill 8 = .ok (.istore_n 3, 1) := by decide +kernel
theorem dX9_fill_9 : decode cX9_fill 9 = .ok (.aload_n 0, 1) := by decide +kernel
theorem dX9_fill_10 : decode cX9_fill 10 = .ok (.getfield 93, 3) := by decide +kernel
theorem dX9_fill_13 : decode cX9_fill 13 = .ok (.iload_n 3, 1) := by decide +kernel
theorem dX9_fill_14 : decode cX9_fill 14 = .ok (.iaload, 1) := by decide +kernel
theorem dX9_fill_15 : decode cX9_fill 15 = .ok (.iconst 4, 1) := by decide +kernel
theorem dX9_fill_16 : decode cX9_fill 16 = .ok (.if_icmp .eq 66, 3) := by decide +kernel
theorem dX9_fill_19 : decode cX9_fill 19 = .ok (.iload_n 3, 1) := by decide +kernel
theorem dX9_fill_20 : decode cX9_fill 20 = .ok (.aload_n 0, 1) := by decide +kernel
theorem dX9_fill_21 : decode cX9_fill 21 = .ok (.getfield 93, 3) := by decide +kernel
theorem dX9_fill_24 : decode cX9_fill 24 = .ok (.iload_n 3, 1) := by decide +kernel
theorem dX9_fill_25 : decode cX9_fill 25 = .ok (.iaload, 1) := by decide +kernel
theorem dX9_fill_26 : decode cX9_fill 26 = .ok (.iconst 2, 1) := by decide +kernel
theorem dX9_fill_27 : decode cX9_fill 27 = .ok (.iadd, 1) := by decide +kernel
theorem dX9_fill_28 : decode cX9_fill 28 = .ok (.iconst 4, 1) := by decide +kernel
theorem dX9_fill_29 : decode cX9_fill 29 = .ok (.irem, 1) := by decide +kernel
theorem dX9_fill_30 : decode cX9_fill 30 = .ok (.invokestatic 220, 3) := by decide +kernel
theorem dX9_fill_33 : decode cX9_fill 33 = .ok (.istore 4, 2) := by decide +kernel
theorem dX9_fill_35 : decode cX9_fill 35 = .ok (.aload_n 0, 1) := by decide +kernel
theorem dX9_fill_36 : decode cX9_fill 36 = .ok (.getfield 90, 3) := by decide +kernel
theorem dX9_fill_39 : decode cX9_fill 39 = .ok (.iconst 4, 1) := by decide +kernel
theorem dX9_fill_40 : decode cX9_fill 40 = .ok (.iload 4, 2) := by decide +kernel
theorem dX9_fill_42 : decode cX9_fill 42 = .ok (.imul, 1) := by decide +kernel
theorem dX9_fill_43 : decode cX9_fill 43 = .ok (.aload_n 0, 1) := by decide +kernel
theorem dX9_fill_44 : decode cX9_fill 44 = .ok (.getfield 93, 3) := by decide +kernel
theorem dX9_fill_47 : decode cX9_fill 47 = .ok (.iload_n 3, 1) := by decide +kernel
theorem dX9_fill_48 : decode cX9_fill 48 = .ok (.iaload, 1) := by decide +kernel
theorem dX9_fill_49 : decode cX9_fill 49 = .ok (.iadd, 1) := by decide +kernel
theorem dX9_fill_50 : decode cX9_fill 50 = .ok (.iaload, 1) := by decide +kernel
theorem dX9_fill_51 : decode cX9_fill 51 = .ok (.iload_n 2, 1) := by decide +kernel
theorem dX9_fill_52 : decode cX9_fill 52 = .ok (.if_icmp .ge 22, 3) := by decide +kernel
theorem dX9_fill_55 : decode cX9_fill 55 = .ok (.aload_n 0, 1) := by decide +kernel
theorem dX9_fill_56 : decode cX9_fill 56 = .ok (.getfield 90, 3) := by decide +kernel
theorem dX9_fill_59 : decode cX9_fill 59 = .ok (.iconst 4, 1) := by decide +kernel
theorem dX9_fill_60 : decode cX9_fill 60 = .ok (.iload 4, 2) := by decide +kernel
theorem dX9_fill_62 : decode cX9_fill 62 = .ok (.imul, 1) := by decide +kernel
theorem dX9_fill_63 : decode cX9_fill 63 = .ok (.aload_n 0, 1) := by decide +kernel
theorem dX9_fill_64 : decode cX9_fill 64 = .ok (.getfield 93, 3) := by decide +kernel
theorem dX9_fill_67 : decode cX9_fill 67 = .ok (.iload_n 3, 1) := by decide +kernel
theorem dX9_fill_68 : decode cX9_fill 68 = .ok (.iaload, 1) := by decide +kernel
theorem dX9_fill_69 : decode cX9_fill 69 = .ok (.iadd, 1) := by decide +kernel
theorem dX9_fill_70 : decode cX9_fill 70 = .ok (.iaload, 1) := by decide +kernel
theorem dX9_fill_71 : decode cX9_fill 71 = .ok (.goto 4, 3) := by decide +kernel
theorem dX9_fill_74 : decode cX9_fill 74 = .ok (.iload_n 2, 1) := by decide +kernel
theorem dX9_fill_75 : decode cX9_fill 75 = .ok (.istore_n 2, 1) := by decide +kernel
theorem dX9_fill_76 : decode cX9_fill 76 = .ok (.iload 4, 2) := by decide +kernel
theorem dX9_fill_78 : decode cX9_fill 78 = .ok (.istore_n 3, 1) := by decide +kernel
theorem dX9_fill_79 : decode cX9_fill 79 = .ok (.goto (-70), 3) := by decide +kernel
theorem dX9_fill_82 : decode cX9_fill 82 = .ok (.aload_n 0, 1) := by decide +kernel
theorem dX9_fill_83 : decode cX9_fill 83 = .ok (.getfield 84, 3) := by decide +kernel
theorem dX9_fill_86 : decode cX9_fill 86 = .ok (.iload_n 3, 1) := by decide +kernel
theorem dX9_fill_87 : decode cX9_fill 87 = .ok (.iaload, 1) := by decide +kernel
theorem dX9_fill_88 : decode cX9_fill 88 = .ok (.iload_n 2, 1) := by decide +kernel
theorem dX9_fill_89 : decode cX9_fill 89 = .ok (.if_icmp .ge 12, 3) := by decide +kernel
theorem dX9_fill_92 : decode cX9_fill 92 = .ok (.aload_n 0, 1) := by decide +kernel
theorem dX9_fill_93 : decode cX9_fill 93 = .ok (.getfield 84, 3) := by decide +kernel
theorem dX9_fill_96 : decode cX9_fill 96 = .ok (.iload_n 3, 1) := by decide +kernel
theorem dX9_fill_97 : decode cX9_fill 97 = .ok (.iaload, 1) := by decide +kernel
theorem dX9_fill_98 : decode cX9_fill 98 = .ok (.goto 4, 3) := by decide +kernel
theorem dX9_fill_101 : decode cX9_fill 101 = .ok (.iload_n 2, 1) := by decide +kernel
theorem dX9_fill_102 : decode cX9_fill 102 = .ok (.istore_n 2, 1) := by decide +kernel
theorem dX9_fill_103 : decode cX9_fill 103 = .ok (.aload_n 0, 1) := by decide +kernel
theorem dX9_fill_104 : decode cX9_fill 104 = .ok (.getfield 87, 3) := by decide +kernel
theorem dX9_fill_107 : decode cX9_fill 107 = .ok (.iload_n 1, 1) := by decide +kernel
theorem dX9_fill_108 : decode cX9_fill 108 = .ok (.dup2, 1) := by decide +kernel
theorem dX9_fill_109 : decode cX9_fill 109 = .ok (.iaload, 1) := by decide +kernel
theorem dX9_fill_110 : decode cX9_fill 110 = .ok (.iload_n 2, 1) := by decide +kernel
theorem dX9_fill_111 : decode cX9_fill 111 = .ok (.isub, 1) := by decide +kernel
theorem dX9_fill_112 : decode cX9_fill 112 = .ok (.iastore, 1) := by decide +kernel
theorem dX9_fill_113 : decode cX9_fill 113 = .ok (.iload_n 1, 1) := by decide +kernel
theorem dX9_fill_114 : decode cX9_fill 114 = .ok (.istore_n 3, 1) := by decide +kernel
theorem dX9_fill_115 : decode cX9_fill 115 = .ok (.aload_n 0, 1) := by decide +kernel
theorem dX9_fill_116 : decode cX9_fill 116 = .ok (.getfield 93, 3) := by decide +kernel
theorem dX9_fill_119 : decode cX9_fill 119 = .ok (.iload_n 3, 1) := by decide +kernel
theorem dX9_fill_120 : decode cX9_fill 120 = .ok (.iaload, 1) := by decide +kernel
theorem dX9_fill_121 : decode cX9_fill 121 = .ok (.iconst 4, 1) := by decide +kernel
theorem dX9_fill_122 : decode cX9_fill 122 = .ok (.if_icmp .eq 68, 3) := by decide +kernel
theorem dX9_fill_125 : decode cX9_fill 125 = .ok (.iload_n 3, 1) := by decide +kernel
theorem dX9_fill_126 : decode cX9_fill 126 = .ok (.aload_n 0, 1) := by decide +kernel
theorem dX9_fill_127 : decode cX9_fill 127 = .ok (.getfield 93, 3) := by decide +kernel
theorem dX9_fill_130 : decode cX9_fill 130 = .ok (.iload_n 3, 1) := by decide +kernel
theorem dX9_fill_131 : decode cX9_fill 131 = .ok (.iaload, 1) := by decide +kernel
theorem dX9_fill_132 : decode cX9_fill 132 = .ok (.iconst 2, 1) := by decide +kernel
theorem dX9_fill_133 : decode cX9_fill 133 = .ok (.iadd, 1) := by decide +kernel
theorem dX9_fill_134 : decode cX9_fill 134 = .ok (.iconst 4, 1) := by decide +kernel
theorem dX9_fill_135 : decode cX9_fill 135 = .ok (.irem, 1) := by decide +kernel
theorem dX9_fill_136 : decode cX9_fill 136 = .ok (.invokestatic 220, 3) := by decide +kernel
theorem dX9_fill_139 : decode cX9_fill 139 = .ok (.istore 4, 2) := by decide +kernel
theorem dX9_fill_141 : decode cX9_fill 141 = .ok (.aload_n 0, 1) := by decide +kernel
theorem dX9_fill_142 : decode cX9_fill 142 = .ok (.getfield 90, 3) := by decide +kernel
theorem dX9_fill_145 : decode cX9_fill 145 = .ok (.iconst 4, 1) := by decide +kernel
theorem dX9_fill_146 : decode cX9_fill 146 = .ok (.iload 4, 2) := by decide +kernel
theorem dX9_fill_148 : decode cX9_fill 148 = .ok (.imul, 1) := by decide +kernel
theorem dX9_fill_149 : decode cX9_fill 149 = .ok (.aload_n 0, 1) := by decide +kernel
theorem dX9_fill_150 : decode cX9_fill 150 = .ok (.getfield 93, 3) := by decide +kernel
theorem dX9_fill_153 : decode cX9_fill 153 = .ok (.iload_n 3, 1) := by decide +kernel
theorem dX9_fill_154 : decode cX9_fill 154 = .ok (.iaload, 1) := by decide +kernel
theorem dX9_fill_155 : decode cX9_fill 155 = .ok (.iadd, 1) := by decide +kernel
theorem dX9_fill_156 : decode cX9_fill 156 = .ok (.dup2, 1) := by decide +kernel
theorem dX9_fill_157 : decode cX9_fill 157 = .ok (.iaload, 1) := by decide +kernel
theorem dX9_fill_158 : decode cX9_fill 158 = .ok (.iload_n 2, 1) := by decide +kernel
theorem dX9_fill_159 : decode cX9_fill 159 = .ok (.isub, 1) := by decide +kernel
theorem dX9_fill_160 : decode cX9_fill 160 = .ok (.iastore, 1) := by decide +kernel
theorem dX9_fill_161 : decode cX9_fill 161 = .ok (.aload_n 0, 1) := by decide +kernel
theorem dX9_fill_162 : decode cX9_fill 162 = .ok (.getfield 90, 3) := by decide +kernel
theorem dX9_fill_165 : decode cX9_fill 165 = .ok (.iconst 4, 1) := by decide +kernel
theorem dX9_fill_166 : decode cX9_fill 166 = .ok (.iload_n 3, 1) := by decide +kernel
theorem dX9_fill_167 : decode cX9_fill 167 = .ok (.imul, 1) := by decide +kernel
theorem dX9_fill_168 : decode cX9_fill 168 = .ok (.aload_n 0, 1) := by decide +kernel
theorem dX9_fill_169 : decode cX9_fill 169 = .ok (.getfield 93, 3) := by decide +kernel
theorem dX9_fill_172 : decode cX9_fill 172 = .ok (.iload_n 3, 1) := by decide +kernel
theorem dX9_fill_173 : decode cX9_fill 173 = .ok (.iaload, 1) := by decide +kernel
theorem dX9_fill_174 : decode cX9_fill 174 = .ok (.iconst 2, 1) := by decide +kernel
theorem dX9_fill_175 : decode cX9_fill 175 = .ok (.iadd, 1) := by decide +kernel
theorem dX9_fill_176 : decode cX9_fill 176 = .ok (.iconst 4, 1) := by decide +kernel
theorem dX9_fill_177 : decode cX9_fill 177 = .ok (.irem, 1) := by decide +kernel
theorem dX9_fill_178 : decode cX9_fill 178 = .ok (.iadd, 1) := by decide +kernel
theorem dX9_fill_179 : decode cX9_fill 179 = .ok (.dup2, 1) := by decide +kernel
theorem dX9_fill_180 : decode cX9_fill 180 = .ok (.iaload, 1) := by decide +kernel
theorem dX9_fill_181 : decode cX9_fill 181 = .ok (.iload_n 2, 1) := by decide +kernel
theorem dX9_fill_182 : decode cX9_fill 182 = .ok (.iadd, 1) := by decide +kernel
theorem dX9_fill_183 : decode cX9_fill 183 = .ok (.iastore, 1) := by decide +kernel
theorem dX9_fill_184 : decode cX9_fill 184 = .ok (.iload 4, 2) := by decide +kernel
theorem dX9_fill_186 : decode cX9_fill 186 = .ok (.istore_n 3, 1) := by decide +kernel
theorem dX9_fill_187 : decode cX9_fill 187 = .ok (.goto (-72), 3) := by decide +kernel
theorem dX9_fill_190 : decode cX9_fill 190 = .ok (.aload_n 0, 1) := by decide +kernel
theorem dX9_fill_191 : decode cX9_fill 191 = .ok (.getfield 84, 3) := by decide +kernel
theorem dX9_fill_194 : decode cX9_fill 194 = .ok (.iload_n 3, 1) := by decide +kernel
theorem dX9_fill_195 : decode cX9_fill 195 = .ok (.dup2, 1) := by decide +kernel
theorem dX9_fill_196 : decode cX9_fill 196 = .ok (.iaload, 1) := by decide +kernel
theorem dX9_fill_197 : decode cX9_fill 197 = .ok (.iload_n 2, 1) := by decide +kernel
theorem dX9_fill_198 : decode cX9_fill 198 = .ok (.isub, 1) := by decide +kernel
theorem dX9_fill_199 : decode cX9_fill 199 = .ok (.iastore, 1) := by decide +kernel
theorem dX9_fill_200 : decode cX9_fill 200 = .ok (.iload_n 2, 1) := by decide +kernel
theorem dX9_fill_201 : decode cX9_fill 201 = .ok (.ireturn, 1) := by decide +kernel
theorem dX9_smooth_0 : decode cX9_smooth 0 = .ok (.iload_n 1, 1) := by decide +kernel
theorem dX9_smooth_1 : decode cX9_smooth 1 = .ok (.invokestatic 150, 3) := by decide +kernel
theorem dX9_smooth_4 : decode cX9_smooth 4 = .ok (.ifCond .eq 15, 3) := by decide +kernel
theorem dX9_smooth_7 : decode cX9_smooth 7 = .ok (.iload_n 2, 1) := by decide +kernel
theorem dX9_smooth_8 : decode cX9_smooth 8 = .ok (.i2l, 1) := by decide +kernel
theorem dX9_smooth_9 : decode cX9_smooth 9 = .ok (.lconst 0, 1) := by decide +kernel
theorem dX9_smooth_10 : decode cX9_smooth 10 = .ok (.ldc2_w 173, 3) := by decide +kernel
theorem dX9_smooth_13 : decode cX9_smooth 13 = .ok (.invokestatic 119, 3) := by decide +kernel
theorem dX9_smooth_16 : decode cX9_smooth 16 = .ok (.ifCond .ne 7, 3) := by decide +kernel
theorem dX9_smooth_19 : decode cX9_smooth 19 = .ok (.sipush (-2000), 3) := by decide +kernel
theorem dX9_smooth_22 : decode cX9_smooth 22 = .ok (.ireturn, 1) := by decide +kernel
theorem dX9_smooth_23 : decode cX9_smooth 23 = .ok (.aload_n 0, 1) := by decide +kernel
theorem dX9_smooth_24 : decode cX9_smooth 24 = .ok (.invokevirtual 209, 3) := by decide +kernel
theorem dX9_smooth_27 : decode cX9_smooth 27 = .ok (.iconst 0, 1) := by decide +kernel
theorem dX9_smooth_28 : decode cX9_smooth 28 = .ok (.istore_n 3, 1) := by decide +kernel
theorem dX9_smooth_29 : decode cX9_smooth 29 = .ok (.iload_n 3, 1) := by decide +kernel
theorem dX9_smooth_30 : decode cX9_smooth 30 = .ok (.bipush 64, 2) := by decide +kernel
theorem dX9_smooth_32 : decode cX9_smooth 32 = .ok (.if_icmp .ge 107, 3) := by decide +kernel
theorem dX9_smooth_35 : decode cX9_smooth 35 = .ok (.aload_n 0, 1) := by decide +kernel
theorem dX9_smooth_36 : decode cX9_smooth 36 = .ok (.iload_n 1, 1) := by decide +kernel
theorem dX9_smooth_37 : decode cX9_smooth 37 = .ok (.iload_n 3, 1) := by decide +kernel
theorem dX9_smooth_38 : decode cX9_smooth 38 = .ok (.invokevirtual 212, 3) := by decide +kernel
theorem dX9_smooth_41 : decode cX9_smooth 41 = .ok (.istore 4, 2) := by decide +kernel
theorem dX9_smooth_43 : decode cX9_smooth 43 = .ok (.aload_n 0, 1) := by decide +kernel
theorem dX9_smooth_44 : decode cX9_smooth 44 = .ok (.getfield 84, 3) := by decide +kernel
theorem dX9_smooth_47 : decode cX9_smooth 47 = .ok (.iload_n 3, 1) := by decide +kernel
theorem dX9_smooth_48 : decode cX9_smooth 48 = .ok (.iload 4, 2) := by decide +kernel
theorem dX9_smooth_50 : decode cX9_smooth 50 = .ok (.iload_n 2, 1) := by decide +kernel
theorem dX9_smooth_51 : decode cX9_smooth 51 = .ok (.if_icmp .ne 10, 3) := by decide +kernel
theorem dX9_smooth_54 : decode cX9_smooth 54 = .ok (.aload_n 0, 1) := by decide +kernel
theorem dX9_smooth_55 : decode cX9_smooth 55 = .ok (.getfield 78, 3) := by decide +kernel
theorem dX9_smooth_58 : decode cX9_smooth 58 = .ok (.goto 4, 3) := by decide +kernel
theorem dX9_smooth_61 : decode cX9_smooth 61 = .ok (.iconst 0, 1) := by decide +kernel
theorem dX9_smooth_62 : decode cX9_smooth 62 = .ok (.iastore, 1) := by decide +kernel
theorem dX9_smooth_63 : decode cX9_smooth 63 = .ok (.aload_n 0, 1) := by decide +kernel
theorem dX9_smooth_64 : decode cX9_smooth 64 = .ok (.getfield 87, 3) := by decide +kernel
theorem dX9_smooth_67 : decode cX9_smooth 67 = .ok (.iload_n 3, 1) := by decide +kernel
theorem dX9_smooth_68 : decode cX9_smooth 68 = .ok (.iload 4, 2) := by decide +kernel
theorem dX9_smooth_70 : decode cX9_smooth 70 = .ok (.iload_n 2, 1) := by decide +kernel
theorem dX9_smooth_71 : decode cX9_smooth 71 = .ok (.if_icmp .eq 16, 3) := by decide +kernel
theorem dX9_smooth_74 : decode cX9_smooth 74 = .ok (.iload 4, 2) := by decide +kernel
theorem dX9_smooth_76 : decode cX9_smooth 76 = .ok (.iconst (-1), 1) := by decide +kernel
theorem dX9_smooth_77 : decode cX9_smooth 77 = .ok (.if_icmp .eq 10, 3) := by decide +kernel
theorem dX9_smooth_80 : decode cX9_smooth 80 = .ok (.aload_n 0, 1) := by decide +kernel
theorem dX9_smooth_81 : decode cX9_smooth 81 = .ok (.getfield 78, 3) := by decide +kernel
theorem dX9_smooth_84 : decode cX9_smooth 84 = .ok (.goto 4, 3) := by decide +kernel
theorem dX9_smooth_87 : decode cX9_smooth 87 = .ok (.iconst 0, 1) := by decide +kernel
theorem dX9_smooth_88 : decode cX9_smooth 88 = .ok (.iastore, 1) := by decide +kernel
theorem dX9_smooth_89 : decode cX9_smooth 89 = .ok (.iconst 0, 1) := by decide +kernel
theorem dX9_smooth_90 : decode cX9_smooth 90 = .ok (.istore 5, 2) := by decide +kernel
theorem dX9_smooth_92 : decode cX9_smooth 92 = .ok (.iload 5, 2) := by decide +kernel
theorem dX9_smooth_94 : decode cX9_smooth 94 = .ok (.iconst 4, 1) := by decide +kernel
theorem dX9_smooth_95 : decode cX9_smooth 95 = .ok (.if_icmp .ge 38, 3) := by decide +kernel
theorem dX9_smooth_98 : decode cX9_smooth 98 = .ok (.aload_n 0, 1) := by decide +kernel
theorem dX9_smooth_99 : decode cX9_smooth 99 = .ok (.getfield 90, 3) := by decide +kernel
theorem dX9_smooth_102 : decode cX9_smooth 102 = .ok (.iconst 4, 1) := by decide +kernel
theorem dX9_smooth_103 : decode cX9_smooth 103 = .ok (.iload_n 3, 1) := by decide +kernel
theorem dX9_smooth_104 : decode cX9_smooth 104 = .ok (.imul, 1) := by decide +kernel
theorem dX9_smooth_105 : decode cX9_smooth 105 = .ok (.iload 5, 2) := by decide +kernel
theorem dX9_smooth_107 : decode cX9_smooth 107 = .ok (.iadd, 1) := by decide +kernel
theorem dX9_smooth_108 : decode cX9_smooth 108 = .ok (.iload_n 3, 1) := by decide +kernel
theorem dX9_smooth_109 : decode cX9_smooth 109 = .ok (.iload 5, 2) := by decide +kernel
theorem dX9_smooth_111 : decode cX9_smooth 111 = .ok (.invokestatic 220, 3) := by decide +kernel
theorem dX9_smooth_114 : decode cX9_smooth 114 = .ok (.iconst (-1), 1) := by decide +kernel
theorem dX9_smooth_115 : decode cX9_smooth 115 = .ok (.if_icmp .ne 7, 3) := by decide +kernel
theorem dX9_smooth_118 : decode cX9_smooth 118 = .ok (.iconst 0, 1) := by decide +kernel
theorem dX9_smooth_119 : decode cX9_smooth 119 = .ok (.goto 7, 3) := by decide +kernel
theorem dX9_smooth_122 : decode cX9_smooth 122 = .ok (.aload_n 0, 1) := by decide +kernel
theorem dX9_smooth_123 : decode cX9_smooth 123 = .ok (.getfield 81, 3) := by decide +kernel
theorem dX9_smooth_126 : decode cX9_smooth 126 = .ok (.iastore, 1) := by decide +kernel
theorem dX9_smooth_127 : decode cX9_smooth 127 = .ok (.iinc 5 1, 3) := by decide +kernel
theorem dX9_smooth_130 : decode cX9_smooth 130 = .ok (.goto (-38), 3) := by decide +kernel
theorem dX9_smooth_133 : decode cX9_smooth 133 = .ok (.iinc 3 1, 3) := by decide +kernel
theorem dX9_smooth_136 : decode cX9_smooth 136 = .ok (.goto (-107), 3) := by decide +kernel
theorem dX9_smooth_139 : decode cX9_smooth 139 = .ok (.iconst 0, 1) := by decide +kernel
theorem dX9_smooth_140 : decode cX9_smooth 140 = .ok (.istore_n 3, 1) := by decide +kernel
theorem dX9_smooth_141 : decode cX9_smooth 141 = .ok (.aload_n 0, 1) := by decide +kernel
theorem dX9_smooth_142 : decode cX9_smooth 142 = .ok (.invokevirtual 223, 3) := by decide +kernel
theorem dX9_smooth_145 : decode cX9_smooth 145 = .ok (.istore 4, 2) := by decide +kernel
theorem dX9_smooth_147 : decode cX9_smooth 147 = .ok (.iload 4, 2) := by decide +kernel
theorem dX9_smooth_149 : decode cX9_smooth 149 = .ok (.iconst (-1), 1) := by decide +kernel
theorem dX9_smooth_150 : decode cX9_smooth 150 = .ok (.if_icmp .eq 21, 3) := by decide +kernel
theorem dX9_smooth_153 : decode cX9_smooth 153 = .ok (.iload_n 3, 1) := by decide +kernel
theorem dX9_smooth_154 : decode cX9_smooth 154 = .ok (.aload_n 0, 1) := by decide +kernel
theorem dX9_smooth_155 : decode cX9_smooth 155 = .ok (.iload 4, 2) := by decide +kernel
theorem dX9_smooth_157 : decode cX9_smooth 157 = .ok (.invokevirtual 227, 3) := by decide +kernel
theorem dX9_smooth_160 : decode cX9_smooth 160 = .ok (.iadd, 1) := by decide +kernel
theorem dX9_smooth_161 : decode cX9_smooth 161 = .ok (.istore_n 3, 1) := by decide +kernel
theorem dX9_smooth_162 : decode cX9_smooth 162 = .ok (.aload_n 0, 1) := by decide +kernel
theorem dX9_smooth_163 : decode cX9_smooth 163 = .ok (.invokevirtual 223, 3) := by decide +kernel
theorem dX9_smooth_166 : decode cX9_smooth 166 = .ok (.istore 4, 2) := by decide +kernel
theorem dX9_smooth_168 : decode cX9_smooth 168 = .ok (.goto (-21), 3) := by decide +kernel
theorem dX9_smooth_171 : decode cX9_smooth 171 = .ok (.iconst 0, 1) := by decide +kernel
theorem dX9_smooth_172 : decode cX9_smooth 172 = .ok (.istore 5, 2) := by decide +kernel
theorem dX9_smooth_174 : decode cX9_smooth 174 = .ok (.iload 5, 2) := by decide +kernel
theorem dX9_smooth_176 : decode cX9_smooth 176 = .ok (.bipush 64, 2) := by decide +kernel
theorem dX9_smooth_178 : decode cX9_smooth 178 = .ok (.if_icmp .ge 32, 3) := by decide +kernel
theorem dX9_smooth_181 : decode cX9_smooth 181 = .ok (.aload_n 0, 1) := by decide +kernel
theorem dX9_smooth_182 : decode cX9_smooth 182 = .ok (.getfield 99, 3) := by decide +kernel
theorem dX9_smooth_185 : decode cX9_smooth 185 = .ok (.iload 5, 2) := by decide +kernel
theorem dX9_smooth_187 : decode cX9_smooth 187 = .ok (.aload_n 0, 1) := by decide +kernel
theorem dX9_smooth_188 : decode cX9_smooth 188 = .ok (.getfield 93, 3) := by decide +kernel
theorem dX9_smooth_191 : decode cX9_smooth 191 = .ok (.iload 5, 2) := by decide +kernel
theorem dX9_smooth_193 : decode cX9_smooth 193 = .ok (.iaload, 1) := by decide +kernel
theorem dX9_smooth_194 : decode cX9_smooth 194 = .ok (.iconst (-1), 1) := by decide +kernel
theorem dX9_smooth_195 : decode cX9_smooth 195 = .ok (.if_icmp .ne 7, 3) := by decide +kernel
theorem dX9_smooth_198 : decode cX9_smooth 198 = .ok (.iconst 0, 1) := by decide +kernel
theorem dX9_smooth_199 : decode cX9_smooth 199 = .ok (.goto 4, 3) := by decide +kernel
theorem dX9_smooth_202 : decode cX9_smooth 202 = .ok (.iconst 1, 1) := by decide +kernel
theorem dX9_smooth_203 : decode cX9_smooth 203 = .ok (.iastore, 1) := by decide +kernel
theorem dX9_smooth_204 : decode cX9_smooth 204 = .ok (.iinc 5 1, 3) := by decide +kernel
theorem dX9_smooth_207 : decode cX9_smooth 207 = .ok (.goto (-33), 3) := by decide +kernel
theorem dX9_smooth_210 : decode cX9_smooth 210 = .ok (.iload_n 3, 1) := by decide +kernel
theorem dX9_smooth_211 : decode cX9_smooth 211 = .ok (.ireturn, 1) := by decide +kernel
theorem dX9_mark_0 : decode cX9_mark 0 = .ok (.iload_n 1, 1) := by decide +kernel
theorem dX9_mark_1 : decode cX9_mark 1 = .ok (.invokestatic 167, 3) := by decide +kernel
theorem dX9_mark_4 : decode cX9_mark 4 = .ok (.ifCond .eq 12, 3) := by decide +kernel
theorem dX9_mark_7 : decode cX9_mark 7 = .ok (.aload_n 0, 1) := by decide +kernel
theorem dX9_mark_8 : decode cX9_mark 8 = .ok (.getfield 99, 3) := by decide +kernel
theorem dX9_mark_11 : decode cX9_mark 11 = .ok (.iload_n 1, 1) := by decide +kernel
theorem dX9_mark_12 : decode cX9_mark 12 = .ok (.iaload, 1) := by decide +kernel
theorem dX9_mark_13 : decode cX9_mark 13 = .ok (.goto 6, 3) := by decide +kernel
theorem dX9_mark_16 : decode cX9_mark 16 = .ok (.sipush (-2000), 3) := by decide +kernel
theorem dX9_mark_19 : decode cX9_mark 19 = .ok (.ireturn, 1) := by decide +kernel
theorem dX9_allow_0 : decode cX9_allow 0 = .ok (.iload_n 1, 1) := by decide +kernel
theorem dX9_allow_1 : decode cX9_allow 1 = .ok (.i2l, 1) := by decide +kernel
theorem dX9_allow_2 : decode cX9_allow 2 = .ok (.lconst 0, 1) := by decide +kernel
theorem dX9_allow_3 : decode cX9_allow 3 = .ok (.ldc2_w 173, 3) := by decide +kernel
theorem dX9_allow_6 : decode cX9_allow 6 = .ok (.invokestatic 119, 3) := by decide +kernel
theorem dX9_allow_9 : decode cX9_allow 9 = .ok (.ifCond .eq 20, 3) := by decide +kernel
theorem dX9_allow_12 : decode cX9_allow 12 = .ok (.iload_n 2, 1) := by decide +kernel
theorem dX9_allow_13 : decode cX9_allow 13 = .ok (.i2l, 1) := by decide +kernel
theorem dX9_allow_14 : decode cX9_allow 14 = .ok (.lconst 0, 1) := by decide +kernel
theorem dX9_allow_15 : decode cX9_allow 15 = .ok (.ldc2_w 173, 3) := by decide +kernel
theorem dX9_allow_18 : decode cX9_allow 18 = .ok (.invokestatic 119, 3) := by decide +kernel
theorem dX9_allow_21 : decode cX9_allow 21 = .ok (.ifCond .eq 8, 3) := by decide +kernel
theorem dX9_allow_24 : decode cX9_allow 24 = .ok (.iload_n 1, 1) := by decide +kernel
theorem dX9_allow_25 : decode cX9_allow 25 = .ok (.iload_n 2, 1) := by decide +kernel
theorem dX9_allow_26 : decode cX9_allow 26 = .ok (.if_icmp .ne 7, 3) := by decide +kernel
theorem dX9_allow_29 : decode cX9_allow 29 = .ok (.sipush (-2000), 3) := by decide +kernel
theorem dX9_allow_32 : decode cX9_allow 32 = .ok (.ireturn, 1) := by decide +kernel
theorem dX9_allow_33 : decode cX9_allow 33 = .ok (.aload_n 0, 1) := by decide +kernel
theorem dX9_allow_34 : decode cX9_allow 34 = .ok (.getfield 102, 3) := by decide +kernel
theorem dX9_allow_37 : decode cX9_allow 37 = .ok (.iconst 4, 1) := by decide +kernel
theorem dX9_allow_38 : decode cX9_allow 38 = .ok (.iload_n 1, 1) := by decide +kernel
theorem dX9_allow_39 : decode cX9_allow 39 = .ok (.imul, 1) := by decide +kernel
theorem dX9_allow_40 : decode cX9_allow 40 = .ok (.iload_n 2, 1) := by decide +kernel
theorem dX9_allow_41 : decode cX9_allow 41 = .ok (.iadd, 1) := by decide +kernel
theorem dX9_allow_42 : decode cX9_allow 42 = .ok (.iload_n 3, 1) := by decide +kernel
theorem dX9_allow_43 : decode cX9_allow 43 = .ok (.bastore, 1) := by decide +kernel
theorem dX9_allow_44 : decode cX9_allow 44 = .ok (.iconst 1, 1) := by decide +kernel
theorem dX9_allow_45 : decode cX9_allow 45 = .ok (.ireturn, 1) := by decide +kernel
theorem dX9_findPath_0 : decode cX9_findPath 0 = .ok (.iconst 5, 1) := by decide +kernel
theorem dX9_findPath_1 : decode cX9_findPath 1 = .ok (.istore_n 2, 1) := by decide +kernel
theorem dX9_findPath_2 : decode cX9_findPath 2 = .ok (.iload_n 2, 1) := by decide +kernel
theorem dX9_findPath_3 : decode cX9_findPath 3 = .ok (.ifCond .lt 147, 3) := by decide +kernel
theorem dX9_findPath_6 : decode cX9_findPath 6 = .ok (.aload_n 0, 1) := by decide +kernel
theorem dX9_findPath_7 : decode cX9_findPath 7 = .ok (.iload_n 2, 1) := by decide +kernel
theorem dX9_findPath_8 : decode cX9_findPath 8 = .ok (.iload_n 1, 1) := by decide +kernel
theorem dX9_findPath_9 : decode cX9_findPath 9 = .ok (.invokevirtual 212, 3) := by decide +kernel
theorem dX9_findPath_12 : decode cX9_findPath 12 = .ok (.istore_n 3, 1) := by decide +kernel
theorem dX9_findPath_13 : decode cX9_findPath 13 = .ok (.iconst 0, 1) := by decide +kernel
theorem dX9_findPath_14 : decode cX9_findPath 14 = .ok (.istore 4, 2) := by decide +kernel
theorem dX9_findPath_16 : decode cX9_findPath 16 = .ok (.iload 4, 2) := by decide +kernel
theorem dX9_findPath_18 : decode cX9_findPath 18 = .ok (.iconst 4, 1) := by decide +kernel
theorem dX9_findPath_19 : decode cX9_findPath 19 = .ok (.if_icmp .ge 125, 3) := by decide +kernel
theorem dX9_findPath_22 : decode cX9_findPath 22 = .ok (.iload_n 2, 1) := by decide +kernel
theorem dX9_findPath_23 : decode cX9_findPath 23 = .ok (.iconst 5, 1) := by decide +kernel
theorem dX9_findPath_24 : decode cX9_findPath 24 = .ok (.if_icmp .ne 7, 3) := by decide +kernel
theorem dX9_findPath_27 : decode cX9_findPath 27 = .ok (.iconst 0, 1) := by decide +kernel
theorem dX9_findPath_28 : decode cX9_findPath 28 = .ok (.goto 5, 3) := by decide +kernel
theorem dX9_findPath_31 : decode cX9_findPath 31 = .ok (.bipush 100, 2) := by decide +kernel
theorem dX9_findPath_33 : decode cX9_findPath 33 = .ok (.istore 5, 2) := by decide +kernel
theorem dX9_findPath_35 : decode cX9_findPath 35 = .ok (.iconst 0, 1) := by decide +kernel
theorem dX9_findPath_36 : decode cX9_findPath 36 = .ok (.istore 6, 2) := by decide +kernel
theorem dX9_findPath_38 : decode cX9_findPath 38 = .ok (.iload 6, 2) := by decide +kernel
theorem dX9_findPath_40 : decode cX9_findPath 40 = .ok (.iconst 4, 1) := by decide +kernel
theorem dX9_findPath_41 : decode cX9_findPath 41 = .ok (.if_icmp .ge 67, 3) := by decide +kernel
theorem dX9_findPath_44 : decode cX9_findPath 44 = .ok (.iload_n 2, 1) := by decide +kernel
theorem dX9_findPath_45 : decode cX9_findPath 45 = .ok (.iconst 5, 1) := by decide +kernel
theorem dX9_findPath_46 : decode cX9_findPath 46 = .ok (.if_icmp .ge 62, 3) := by decide +kernel
theorem dX9_findPath_49 : decode cX9_findPath 49 = .ok (.aload_n 0, 1) := by decide +kernel
theorem dX9_findPath_50 : decode cX9_findPath 50 = .ok (.getfield 102, 3) := by decide +kernel
theorem dX9_findPath_53 : decode cX9_findPath 53 = .ok (.iconst 4, 1) := by decide +kernel
theorem dX9_findPath_54 : decode cX9_findPath 54 = .ok (.iload 4, 2) := by decide +kernel
theorem dX9_findPath_56 : decode cX9_findPath 56 = .ok (.imul, 1) := by decide +kernel
theorem dX9_findPath_57 : decode cX9_findPath 57 = .ok (.iload 6, 2) := by decide +kernel
theorem dX9_findPath_59 : decode cX9_findPath 59 = .ok (.iadd, 1) := by decide +kernel
theorem dX9_findPath_60 : decode cX9_findPath 60 = .ok (.baload, 1) := by decide +kernel
theorem dX9_findPath_61 : decode cX9_findPath 61 = .ok (.ifCond .eq 37, 3) := by decide +kernel
theorem dX9_findPath_64 : decode cX9_findPath 64 = .ok (.aload_n 0, 1) := by decide +kernel
theorem dX9_findPath_65 : decode cX9_findPath 65 = .ok (.getfield 105, 3) := by decide +kernel
theorem dX9_findPath_68 : decode cX9_findPath 68 = .ok (.iconst 4, 1) := by decide +kernel
theorem dX9_findPath_69 : decode cX9_findPath 69 = .ok (.iload_n 2, 1) := by decide +kernel
theorem dX9_findPath_70 : decode cX9_findPath 70 = .ok (.iconst 1, 1) := by decide +kernel
theorem dX9_findPath_71 : decode cX9_findPath 71 = .ok (.iadd, 1) := by decide +kernel
theorem dX9_findPath_72 : decode cX9_findPath 72 = .ok (.imul, 1) := by decide +kernel
theorem dX9_findPath_73 : decode cX9_findPath 73 = .ok (.iload 6, 2) := by decide +kernel
theorem dX9_findPath_75 : decode cX9_findPath 75 = .ok (.iadd, 1) := by decide +kernel
theorem dX9_findPath_76 : decode cX9_findPath 76 = .ok (.iaload, 1) := by decide +kernel
theorem dX9_findPath_77 : decode cX9_findPath 77 = .ok (.iload 5, 2) := by decide +kernel
theorem dX9_findPath_79 : decode cX9_findPath 79 = .ok (.if_icmp .ge 19, 3) := by decide +kernel
theorem dX9_findPath_82 : decode cX9_findPath 82 = .ok (.aload_n 0, 1) := by decide +kernel
theorem dX9_findPath_83 : decode cX9_findPath 83 = .ok (.getfield 105, 3) := by decide +kernel
theorem dX9_findPath_86 : decode cX9_findPath 86 = .ok (.iconst 4, 1) := by decide +kernel
theorem dX9_findPath_87 : decode cX9_findPath 87 = .ok (.iload_n 2, 1) := by decide +kernel
theorem dX9_findPath_88 : decode cX9_findPath 88 = .ok (.iconst 1, 1) := by decide +kernel
theorem dX9_findPath_89 : decode cX9_findPath 89 = .ok (.iadd, 1) := by decide +kernel
theorem dX9_findPath_90 : decode cX9_findPath 90 = .ok (.imul, 1) := by decide +kernel
theorem dX9_findPath_91 : decode cX9_findPath 91 = .ok (.iload 6, 2) := by decide +kernel
theorem dX9_findPath_93 : decode cX9_findPath 93 = .ok (.iadd, 1) := by decide +kernel
theorem dX9_findPath_94 : decode cX9_findPath 94 = .ok (.iaload, 1) := by decide +kernel
theorem dX9_findPath_95 : decode cX9_findPath 95 = .ok (.goto 5, 3) := by decide +kernel
theorem dX9_findPath_98 : decode cX9_findPath 98 = .ok (.iload 5, 2) := by decide +kernel
theorem dX9_findPath_100 : decode cX9_findPath 100 = .ok (.istore 5, 2) := by decide +kernel
theorem dX9_findPath_102 : decode cX9_findPath 102 = .ok (.iinc 6 1, 3) := by decide +kernel
theorem dX9_findPath_105 : decode cX9_findPath 105 = .ok (.goto (-67), 3) := by decide +kernel
theorem dX9_findPath_108 : decode cX9_findPath 108 = .ok (.aload_n 0, 1) := by decide +kernel
theorem dX9_findPath_109 : decode cX9_findPath 109 = .ok (.getfield 105, 3) := by decide +kernel
theorem dX9_findPath_112 : decode cX9_findPath 112 = .ok (.iconst 4, 1) := by decide +kernel
theorem dX9_findPath_113 : decode cX9_findPath 113 = .ok (.iload_n 2, 1) := by decide +kernel
theorem dX9_findPath_114 : decode cX9_findPath 114 = .ok (.imul, 1) := by decide +kernel
theorem dX9_findPath_115 : decode cX9_findPath 115 = .ok (.iload 4, 2) := by decide +kernel
theorem dX9_findPath_117 : decode cX9_findPath 117 = .ok (.iadd, 1) := by decide +kernel
theorem dX9_findPath_118 : decode cX9_findPath 118 = .ok (.iload 5, 2) := by decide +kernel
theorem dX9_findPath_120 : decode cX9_findPath 120 = .ok (.iload_n 3, 1) := by decide +kernel
theorem dX9_findPath_121 : decode cX9_findPath 121 = .ok (.iconst (-1), 1) := by decide +kernel
theorem dX9_findPath_122 : decode cX9_findPath 122 = .ok (.if_icmp .eq 13, 3) := by decide +kernel
theorem dX9_findPath_125 : decode cX9_findPath 125 = .ok (.iload_n 3, 1) := by decide +kernel
theorem dX9_findPath_126 : decode cX9_findPath 126 = .ok (.iload 4, 2) := by decide +kernel
theorem dX9_findPath_128 : decode cX9_findPath 128 = .ok (.if_icmp .eq 7, 3) := by decide +kernel
theorem dX9_findPath_131 : decode cX9_findPath 131 = .ok (.iconst 1, 1) := by decide +kernel
theorem dX9_findPath_132 : decode cX9_findPath 132 = .ok (.goto 4, 3) := by decide +kernel
theorem dX9_findPath_135 : decode cX9_findPath 135 = .ok (.iconst 0, 1) := by decide +kernel
theorem dX9_findPath_136 : decode cX9_findPath 136 = .ok (.iadd, 1) := by decide +kernel
theorem dX9_findPath_137 : decode cX9_findPath 137 = .ok (.iastore, 1) := by decide +kernel
theorem dX9_findPath_138 : decode cX9_findPath 138 = .ok (.iinc 4 1, 3) := by decide +kernel
theorem dX9_findPath_141 : decode cX9_findPath 141 = .ok (.goto (-125), 3) := by decide +kernel
theorem dX9_findPath_144 : decode cX9_findPath 144 = .ok (.iinc 2 (-1), 3) := by decide +kernel
theorem dX9_findPath_147 : decode cX9_findPath 147 = .ok (.goto (-145), 3) := by decide +kernel
theorem dX9_findPath_150 : decode cX9_findPath 150 = .ok (.iconst 0, 1) := by decide +kernel
theorem dX9_findPath_151 : decode cX9_findPath 151 = .ok (.istore_n 2, 1) := by decide +kernel
theorem dX9_findPath_152 : decode cX9_findPath 152 = .ok (.iload_n 2, 1) := by decide +kernel
theorem dX9_findPath_153 : decode cX9_findPath 153 = .ok (.bipush 6, 2) := by decide +kernel
theorem dX9_findPath_155 : decode cX9_findPath 155 = .ok (.if_icmp .ge 106, 3) := by decide +kernel
theorem dX9_findPath_158 : decode cX9_findPath 158 = .ok (.iconst (-1), 1) := by decide +kernel
theorem dX9_findPath_159 : decode cX9_findPath 159 = .ok (.istore_n 3, 1) := by decide +kernel
theorem dX9_findPath_160 : decode cX9_findPath 160 = .ok (.iconst 0, 1) := by decide +kernel
theorem dX9_findPath_161 : decode cX9_findPath 161 = .ok (.istore 4, 2) := by decide +kernel
theorem dX9_findPath_163 : decode cX9_findPath 163 = .ok (.iload 4, 2) := by decide +kernel
theorem dX9_findPath_165 : decode cX9_findPath 165 = .ok (.iconst 4, 1) := by decide +kernel
theorem dX9_findPath_166 : decode cX9_findPath 166 = .ok (.if_icmp .ge 82, 3) := by decide +kernel
theorem dX9_findPath_169 : decode cX9_findPath 169 = .ok (.iload_n 2, 1) := by decide +kernel
theorem dX9_findPath_170 : decode cX9_findPath 170 = .ok (.ifCond .eq 24, 3) := by decide +kernel
theorem dX9_findPath_173 : decode cX9_findPath 173 = .ok (.aload_n 0, 1) := by decide +kernel
theorem dX9_findPath_174 : decode cX9_findPath 174 = .ok (.getfield 102, 3) := by decide +kernel
theorem dX9_findPath_177 : decode cX9_findPath 177 = .ok (.iconst 4, 1) := by decide +kernel
theorem dX9_findPath_178 : decode cX9_findPath 178 = .ok (.aload_n 0, 1) := by decide +kernel
theorem dX9_findPath_179 : decode cX9_findPath 179 = .ok (.getfield 108, 3) := by decide +kernel
theorem dX9_findPath_182 : decode cX9_findPath 182 = .ok (.iload_n 2, 1) := by decide +kernel
theorem dX9_findPath_183 : decode cX9_findPath 183 = .ok (.iconst 1, 1) := by decide +kernel
theorem dX9_findPath_184 : decode cX9_findPath 184 = .ok (.isub, 1) := by decide +kernel
theorem dX9_findPath_185 : decode cX9_findPath 185 = .ok (.iaload, 1) := by decide +kernel
theorem dX9_findPath_186 : decode cX9_findPath 186 = .ok (.imul, 1) := by decide +kernel
theorem dX9_findPath_187 : decode cX9_findPath 187 = .ok (.iload 4, 2) := by decide +kernel
theorem dX9_findPath_189 : decode cX9_findPath 189 = .ok (.iadd, 1) := by decide +kernel
theorem dX9_findPath_190 : decode cX9_findPath 190 = .ok (.baload, 1) := by decide +kernel
theorem dX9_findPath_191 : decode cX9_findPath 191 = .ok (.ifCond .eq 7, 3) := by decide +kernel
theorem dX9_findPath_194 : decode cX9_findPath 194 = .ok (.iconst 1, 1) := by decide +kernel
theorem dX9_findPath_195 : decode cX9_findPath 195 = .ok (.goto 4, 3) := by decide +kernel
theorem dX9_findPath_198 : decode cX9_findPath 198 = .ok (.iconst 0, 1) := by decide +kernel
theorem dX9_findPath_199 : decode cX9_findPath 199 = .ok (.istore 5, 2) := by decide +kernel
theorem dX9_findPath_201 : decode cX9_findPath 201 = .ok (.iload 5, 2) := by decide +kernel
theorem dX9_findPath_203 : decode cX9_findPath 203 = .ok (.ifCond .eq 37, 3) := by decide +kernel
theorem dX9_findPath_206 : decode cX9_findPath 206 = .ok (.iload_n 3, 1) := by decide +kernel
theorem dX9_findPath_207 : decode cX9_findPath 207 = .ok (.iconst (-1), 1) := by decide +kernel
theorem dX9_findPath_208 : decode cX9_findPath 208 = .ok (.if_icmp .eq 27, 3) := by decide +kernel
theorem dX9_findPath_211 : decode cX9_findPath 211 = .ok (.aload_n 0, 1) := by decide +kernel
theorem dX9_findPath_212 : decode cX9_findPath 212 = .ok (.getfield 105, 3) := by decide +kernel
theorem dX9_findPath_215 : decode cX9_findPath 215 = .ok (.iconst 4, 1) := by decide +kernel
theorem dX9_findPath_216 : decode cX9_findPath 216 = .ok (.iload_n 2, 1) := by decide +kernel
theorem dX9_findPath_217 : decode cX9_findPath 217 = .ok (.imul, 1) := by decide +kernel
theorem dX9_findPath_218 : decode cX9_findPath 218 = .ok (.iload 4, 2) := by decide +kernel
theorem dX9_findPath_220 : decode cX9_findPath 220 = .ok (.iadd, 1) := by decide +kernel
theorem dX9_findPath_221 : decode cX9_findPath 221 = .ok (.iaload, 1) := by decide +kernel
theorem dX9_findPath_222 : decode cX9_findPath 222 = .ok (.aload_n 0, 1) := by decide +kernel
theorem dX9_findPath_223 : decode cX9_findPath 223 = .ok (.getfield 105, 3) := by decide +kernel
theorem dX9_findPath_226 : decode cX9_findPath 226 = .ok (.iconst 4, 1) := by decide +kernel
theorem dX9_findPath_227 : decode cX9_findPath 227 = .ok (.iload_n 2, 1) := by decide +kernel
theorem dX9_findPath_228 : decode cX9_findPath 228 = .ok (.imul, 1) := by decide +kernel
theorem dX9_findPath_229 : decode cX9_findPath 229 = .ok (.iload_n 3, 1) := by decide +kernel
theorem dX9_findPath_230 : decode cX9_findPath 230 = .ok (.iadd, 1) := by decide +kernel
theorem dX9_findPath_231 : decode cX9_findPath 231 = .ok (.iaload, 1) := by decide +kernel
theorem dX9_findPath_232 : decode cX9_findPath 232 = .ok (.if_icmp .ge 8, 3) := by decide +kernel
theorem dX9_findPath_235 : decode cX9_findPath 235 = .ok (.iload 4, 2) := by decide +kernel
theorem dX9_findPath_237 : decode cX9_findPath 237 = .ok (.goto 4, 3) := by decide +kernel
theorem dX9_findPath_240 : decode cX9_findPath 240 = .ok (.iload_n 3, 1) := by decide +kernel
theorem dX9_findPath_241 : decode cX9_findPath 241 = .ok (.istore_n 3, 1) := by decide +kernel
theorem dX9_findPath_242 : decode cX9_findPath 242 = .ok (.iinc 4 1, 3) := by decide +kernel
theorem dX9_findPath_245 : decode cX9_findPath 245 = .ok (.goto (-82), 3) := by decide +kernel
theorem dX9_findPath_248 : decode cX9_findPath 248 = .ok (.aload_n 0, 1) := by decide +kernel
theorem dX9_findPath_249 : decode cX9_findPath 249 = .ok (.getfield 108, 3) := by decide +kernel
theorem dX9_findPath_252 : decode cX9_findPath 252 = .ok (.iload_n 2, 1) := by decide +kernel
theorem dX9_findPath_253 : decode cX9_findPath 253 = .ok (.iload_n 3, 1) := by decide +kernel
theorem dX9_findPath_254 : decode cX9_findPath 254 = .ok (.iastore, 1) := by decide +kernel
theorem dX9_findPath_255 : decode cX9_findPath 255 = .ok (.iinc 2 1, 3) := by decide +kernel
theorem dX9_findPath_258 : decode cX9_findPath 258 = .ok (.goto (-106), 3) := by decide +kernel
theorem dX9_findPath_261 : decode cX9_findPath 261 = .ok (.aload_n 0, 1) := by decide +kernel
theorem dX9_findPath_262 : decode cX9_findPath 262 = .ok (.getfield 105, 3) := by decide +kernel
theorem dX9_findPath_265 : decode cX9_findPath 265 = .ok (.aload_n 0, 1) := by decide +kernel
theorem dX9_findPath_266 : decode cX9_findPath 266 = .ok (.getfield 108, 3) := by decide +kernel
theorem dX9_findPath_269 : decode cX9_findPath 269 = .ok (.iconst 0, 1) := by decide +kernel
theorem dX9_findPath_270 : decode cX9_findPath 270 = .ok (.iaload, 1) := by decide +kernel
theorem dX9_findPath_271 : decode cX9_findPath 271 = .ok (.iaload, 1) := by decide +kernel
theorem dX9_findPath_272 : decode cX9_findPath 272 = .ok (.ireturn, 1) := by decide +kernel
theorem dX9_path_0 : decode cX9_path 0 = .ok (.iload_n 1, 1) := by decide +kernel
theorem dX9_path_1 : decode cX9_path 1 = .ok (.invokestatic 167, 3) := by decide +kernel
theorem dX9_path_4 : decode cX9_path 4 = .ok (.ifCond .ne 7, 3) := by decide +kernel
theorem dX9_path_7 : decode cX9_path 7 = .ok (.sipush (-2000), 3) := by decide +kernel
theorem dX9_path_10 : decode cX9_path 10 = .ok (.ireturn, 1) := by decide +kernel
theorem dX9_path_11 : decode cX9_path 11 = .ok (.aload_n 0, 1) := by decide +kernel
theorem dX9_path_12 : decode cX9_path 12 = .ok (.invokevirtual 209, 3) := by decide +kernel
theorem dX9_path_15 : decode cX9_path 15 = .ok (.aload_n 0, 1) := by decide +kernel
theorem dX9_path_16 : decode cX9_path 16 = .ok (.iload_n 1, 1) := by decide +kernel
theorem dX9_path_17 : decode cX9_path 17 = .ok (.invokevirtual 230, 3) := by decide +kernel
theorem dX9_path_20 : decode cX9_path 20 = .ok (.ireturn, 1) := by decide +kernel
theorem dX9_on_0 : decode cX9_on 0 = .ok (.iload_n 1, 1) := by decide +kernel
theorem dX9_on_1 : decode cX9_on 1 = .ok (.invokestatic 167, 3) := by decide +kernel
theorem dX9_on_4 : decode cX9_on 4 = .ok (.ifCond .eq 10, 3) := by decide +kernel
theorem dX9_on_7 : decode cX9_on 7 = .ok (.iload_n 2, 1) := by decide +kernel
theorem dX9_on_8 : decode cX9_on 8 = .ok (.invokestatic 150, 3) := by decide +kernel
theorem dX9_on_11 : decode cX9_on 11 = .ok (.ifCond .ne 7, 3) := by decide +kernel
theorem dX9_on_14 : decode cX9_on 14 = .ok (.sipush (-2000), 3) := by decide +kernel
theorem dX9_on_17 : decode cX9_on 17 = .ok (.ireturn, 1) := by decide +kernel
theorem dX9_on_18 : decode cX9_on 18 = .ok (.aload_n 0, 1) := by decide +kernel
theorem dX9_on_19 : decode cX9_on 19 = .ok (.invokevirtual 209, 3) := by decide +kernel
theorem dX9_on_22 : decode cX9_on 22 = .ok (.aload_n 0, 1) := by decide +kernel
theorem dX9_on_23 : decode cX9_on 23 = .ok (.iload_n 1, 1) := by decide +kernel
theorem dX9_on_24 : decode cX9_on 24 = .ok (.invokevirtual 230, 3) := by decide +kernel
theorem dX9_on_27 : decode cX9_on 27 = .ok (.istore_n 3, 1) := by decide +kernel
theorem dX9_on_28 : decode cX9_on 28 = .ok (.aload_n 0, 1) := by decide +kernel
theorem dX9_on_29 : decode cX9_on 29 = .ok (.getfield 108, 3) := by decide +kernel
theorem dX9_on_32 : decode cX9_on 32 = .ok (.iload_n 2, 1) := by decide +kernel
theorem dX9_on_33 : decode cX9_on 33 = .ok (.iaload, 1) := by decide +kernel
theorem dX9_on_34 : decode cX9_on 34 = .ok (.ireturn, 1) := by decide +kernel
theorem dX9_changed_0 : decode cX9_changed 0 = .ok (.iload_n 1, 1) := by decide +kernel
theorem dX9_changed_1 : decode cX9_changed 1 = .ok (.i2l, 1) := by decide +kernel
theorem dX9_changed_2 : decode cX9_changed 2 = .ok (.lconst 0, 1) := by decide +kernel
theorem dX9_changed_3 : decode cX9_changed 3 = .ok (.ldc2_w 173, 3) := by decide +kernel
theorem dX9_changed_6 : decode cX9_changed 6 = .ok (.invokestatic 119, 3) := by decide +kernel
theorem dX9_changed_9 : decode cX9_changed 9 = .ok (.ifCond .eq 20, 3) := by decide +kernel
theorem dX9_changed_12 : decode cX9_changed 12 = .ok (.iload_n 2, 1) := by decide +kernel
theorem dX9_changed_13 : decode cX9_changed 13 = .ok (.i2l, 1) := by decide +kernel
theorem dX9_changed_14 : decode cX9_changed 14 = .ok (.lconst 0, 1) := by decide +kernel
theorem dX9_changed_15 : decode cX9_changed 15 = .ok (.ldc2_w 173, 3) := by decide +kernel
theorem dX9_changed_18 : decode cX9_changed 18 = .ok (.invokestatic 119, 3) := by decide +kernel
theorem dX9_changed_21 : decode cX9_changed 21 = .ok (.ifCond .eq 8, 3) := by decide +kernel
theorem dX9_changed_24 : decode cX9_changed 24 = .ok (.iload_n 1, 1) := by decide +kernel
theorem dX9_changed_25 : decode cX9_changed 25 = .ok (.iload_n 2, 1) := by decide +kernel
theorem dX9_changed_26 : decode cX9_changed 26 = .ok (.if_icmp .ne 7, 3) := by decide +kernel
theorem dX9_changed_29 : decode cX9_changed 29 = .ok (.sipush (-2000), 3) := by decide +kernel
theorem dX9_changed_32 : decode cX9_changed 32 = .ok (.ireturn, 1) := by decide +kernel
theorem dX9_changed_33 : decode cX9_changed 33 = .ok (.aload_n 0, 1) := by decide +kernel
theorem dX9_changed_34 : decode cX9_changed 34 = .ok (.invokevirtual 209, 3) := by decide +kernel
theorem dX9_changed_37 : decode cX9_changed 37 = .ok (.iconst 0, 1) := by decide +kernel
theorem dX9_changed_38 : decode cX9_changed 38 = .ok (.istore_n 3, 1) := by decide +kernel
theorem dX9_changed_39 : decode cX9_changed 39 = .ok (.iconst 0, 1) := by decide +kernel
theorem dX9_changed_40 : decode cX9_changed 40 = .ok (.istore 4, 2) := by decide +kernel
theorem dX9_changed_42 : decode cX9_changed 42 = .ok (.iload 4, 2) := by decide +kernel
theorem dX9_changed_44 : decode cX9_changed 44 = .ok (.bipush 64, 2) := by decide +kernel
theorem dX9_changed_46 : decode cX9_changed 46 = .ok (.if_icmp .ge 65, 3) := by decide +kernel
theorem dX9_changed_49 : decode cX9_changed 49 = .ok (.aload_n 0, 1) := by decide +kernel
theorem dX9_changed_50 : decode cX9_changed 50 = .ok (.iload 4, 2) := by decide +kernel
theorem dX9_changed_52 : decode cX9_changed 52 = .ok (.invokevirtual 230, 3) := by decide +kernel
theorem dX9_changed_55 : decode cX9_changed 55 = .ok (.istore 5, 2) := by decide +kernel
theorem dX9_changed_57 : decode cX9_changed 57 = .ok (.iconst 1, 1) := by decide +kernel
theorem dX9_changed_58 : decode cX9_changed 58 = .ok (.istore 6, 2) := by decide +kernel
theorem dX9_changed_60 : decode cX9_changed 60 = .ok (.iload 6, 2) := by decide +kernel
theorem dX9_changed_62 : decode cX9_changed 62 = .ok (.bipush 6, 2) := by decide +kernel
theorem dX9_changed_64 : decode cX9_changed 64 = .ok (.if_icmp .ge 41, 3) := by decide +kernel
theorem dX9_changed_67 : decode cX9_changed 67 = .ok (.iload_n 3, 1) := by decide +kernel
theorem dX9_changed_68 : decode cX9_changed 68 = .ok (.aload_n 0, 1) := by decide +kernel
theorem dX9_changed_69 : decode cX9_changed 69 = .ok (.getfield 108, 3) := by decide +kernel
theorem dX9_changed_72 : decode cX9_changed 72 = .ok (.iload 6, 2) := by decide +kernel
theorem dX9_changed_74 : decode cX9_changed 74 = .ok (.iconst 1, 1) := by decide +kernel
theorem dX9_changed_75 : decode cX9_changed 75 = .ok (.isub, 1) := by decide +kernel
theorem dX9_changed_76 : decode cX9_changed 76 = .ok (.iaload, 1) := by decide +kernel
theorem dX9_changed_77 : decode cX9_changed 77 = .ok (.iload_n 1, 1) := by decide +kernel
theorem dX9_changed_78 : decode cX9_changed 78 = .ok (.if_icmp .ne 18, 3) := by decide +kernel
theorem dX9_changed_81 : decode cX9_changed 81 = .ok (.aload_n 0, 1) := by decide +kernel
theorem dX9_changed_82 : decode cX9_changed 82 = .ok (.getfield 108, 3) := by decide +kernel
theorem dX9_changed_85 : decode cX9_changed 85 = .ok (.iload 6, 2) := by decide +kernel
theorem dX9_changed_87 : decode cX9_changed 87 = .ok (.iaload, 1) := by decide +kernel
theorem dX9_changed_88 : decode cX9_changed 88 = .ok (.iload_n 2, 1) := by decide +kernel
theorem dX9_changed_89 : decode cX9_changed 89 = .ok (.if_icmp .ne 7, 3) := by decide +kernel
theorem dX9_changed_92 : decode cX9_changed 92 = .ok (.iconst 1, 1) := by decide +kernel
theorem dX9_changed_93 : decode cX9_changed 93 = .ok (.goto 4, 3) := by decide +kernel
theorem dX9_changed_96 : decode cX9_changed 96 = .ok (.iconst 0, 1) := by decide +kernel
theorem dX9_changed_97 : decode cX9_changed 97 = .ok (.iadd, 1) := by decide +kernel
theorem dX9_changed_98 : decode cX9_changed 98 = .ok (.istore_n 3, 1) := by decide +kernel
theorem dX9_changed_99 : decode cX9_changed 99 = .ok (.iinc 6 1, 3) := by decide +kernel
theorem dX9_changed_102 : decode cX9_changed 102 = .ok (.goto (-42), 3) := by decide +kernel
theorem dX9_changed_105 : decode cX9_changed 105 = .ok (.iinc 4 1, 3) := by decide +kernel
theorem dX9_changed_108 : decode cX9_changed 108 = .ok (.goto (-66), 3) := by decide +kernel
theorem dX9_changed_111 : decode cX9_changed 111 = .ok (.iload_n 3, 1) := by decide +kernel
theorem dX9_changed_112 : decode cX9_changed 112 = .ok (.ireturn, 1) := by decide +kernel
theorem dX9_prove_0 : decode cX9_prove 0 = .ok (.iload_n 1, 1) := by decide +kernel
theorem dX9_prove_1 : decode cX9_prove 1 = .ok (.i2l, 1) := by decide +kernel
theorem dX9_prove_2 : decode cX9_prove 2 = .ok (.lconst 0, 1) := by decide +kernel
theorem dX9_prove_3 : decode cX9_prove 3 = .ok (.ldc2_w 173, 3) := by decide +kernel
theorem dX9_prove_6 : decode cX9_prove 6 = .ok (.invokestatic 119, 3) := by decide +kernel
theorem dX9_prove_9 : decode cX9_prove 9 = .ok (.ifCond .eq 27, 3) := by decide +kernel
theorem dX9_prove_12 : decode cX9_prove 12 = .ok (.iload_n 2, 1) := by decide +kernel
theorem dX9_prove_13 : decode cX9_prove 13 = .ok (.i2l, 1) := by decide +kernel
theorem dX9_prove_14 : decode cX9_prove 14 = .ok (.lconst 0, 1) := by decide +kernel
theorem dX9_prove_15 : decode cX9_prove 15 = .ok (.ldc2_w 173, 3) := by decide +kernel
theorem dX9_prove_18 : decode cX9_prove 18 = .ok (.invokestatic 119, 3) := by decide +kernel
theorem dX9_prove_21 : decode cX9_prove 21 = .ok (.ifCond .eq 15, 3) := by decide +kernel
theorem dX9_prove_24 : decode cX9_prove 24 = .ok (.iload_n 3, 1) := by decide +kernel
theorem dX9_prove_25 : decode cX9_prove 25 = .ok (.i2l, 1) := by decide +kernel
theorem dX9_prove_26 : decode cX9_prove 26 = .ok (.lconst 1, 1) := by decide +kernel
theorem dX9_prove_27 : decode cX9_prove 27 = .ok (.ldc2_w 144, 3) := by decide +kernel
theorem dX9_prove_30 : decode cX9_prove 30 = .ok (.invokestatic 119, 3) := by decide +kernel
theorem dX9_prove_33 : decode cX9_prove 33 = .ok (.ifCond .ne 7, 3) := by decide +kernel
theorem dX9_prove_36 : decode cX9_prove 36 = .ok (.sipush (-2000), 3) := by decide +kernel
theorem dX9_prove_39 : decode cX9_prove 39 = .ok (.ireturn, 1) := by decide +kernel
theorem dX9_prove_40 : decode cX9_prove 40 = .ok (.aload_n 0, 1) := by decide +kernel
theorem dX9_prove_41 : decode cX9_prove 41 = .ok (.getfield 111, 3) := by decide +kernel
theorem dX9_prove_44 : decode cX9_prove 44 = .ok (.iconst 4, 1) := by decide +kernel
theorem dX9_prove_45 : decode cX9_prove 45 = .ok (.iload_n 1, 1) := by decide +kernel
theorem dX9_prove_46 : decode cX9_prove 46 = .ok (.imul, 1) := by decide +kernel
theorem dX9_prove_47 : decode cX9_prove 47 = .ok (.iload_n 2, 1) := by decide +kernel
theorem dX9_prove_48 : decode cX9_prove 48 = .ok (.iadd, 1) := by decide +kernel
theorem dX9_prove_49 : decode cX9_prove 49 = .ok (.iaload, 1) := by decide +kernel
theorem dX9_prove_50 : decode cX9_prove 50 = .ok (.iload_n 3, 1) := by decide +kernel
theorem dX9_prove_51 : decode cX9_prove 51 = .ok (.iadd, 1) := by decide +kernel
theorem dX9_prove_52 : decode cX9_prove 52 = .ok (.istore 4, 2) := by decide +kernel
theorem dX9_prove_54 : decode cX9_prove 54 = .ok (.aload_n 0, 1) := by decide +kernel
theorem dX9_prove_55 : decode cX9_prove 55 = .ok (.getfield 111, 3) := by decide +kernel
theorem dX9_prove_58 : decode cX9_prove 58 = .ok (.iconst 4, 1) := by decide +kernel
theorem dX9_prove_59 : decode cX9_prove 59 = .ok (.iload_n 1, 1) := by decide +kernel
theorem dX9_prove_60 : decode cX9_prove 60 = .ok (.imul, 1) := by decide +kernel
theorem dX9_prove_61 : decode cX9_prove 61 = .ok (.iload_n 2, 1) := by decide +kernel
theorem dX9_prove_62 : decode cX9_prove 62 = .ok (.iadd, 1) := by decide +kernel
theorem dX9_prove_63 : decode cX9_prove 63 = .ok (.iload 4, 2) := by decide +kernel
theorem dX9_prove_65 : decode cX9_prove 65 = .ok (.sipush 1000, 3) := by decide +kernel
theorem dX9_prove_68 : decode cX9_prove 68 = .ok (.if_icmp .le 9, 3) := by decide +kernel
theorem dX9_prove_71 : decode cX9_prove 71 = .ok (.sipush 1000, 3) := by decide +kernel
theorem dX9_prove_74 : decode cX9_prove 74 = .ok (.goto 5, 3) := by decide +kernel
theorem dX9_prove_77 : decode cX9_prove 77 = .ok (.iload 4, 2) := by decide +kernel
theorem dX9_prove_79 : decode cX9_prove 79 = .ok (.iastore, 1) := by decide +kernel
theorem dX9_prove_80 : decode cX9_prove 80 = .ok (.aload_n 0, 1) := by decide +kernel
theorem dX9_prove_81 : decode cX9_prove 81 = .ok (.getfield 111, 3) := by decide +kernel
theorem dX9_prove_84 : decode cX9_prove 84 = .ok (.iconst 4, 1) := by decide +kernel
theorem dX9_prove_85 : decode cX9_prove 85 = .ok (.iload_n 1, 1) := by decide +kernel
theorem dX9_prove_86 : decode cX9_prove 86 = .ok (.imul, 1) := by decide +kernel
theorem dX9_prove_87 : decode cX9_prove 87 = .ok (.iload_n 2, 1) := by decide +kernel
theorem dX9_prove_88 : decode cX9_prove 88 = .ok (.iadd, 1) := by decide +kernel
theorem dX9_prove_89 : decode cX9_prove 89 = .ok (.iaload, 1) := by decide +kernel
theorem dX9_prove_90 : decode cX9_prove 90 = .ok (.ireturn, 1) := by decide +kernel
theorem dX9_area_0 : decode cX9_area 0 = .ok (.iload_n 1, 1) := by decide +kernel
theorem dX9_area_1 : decode cX9_area 1 = .ok (.invokestatic 150, 3) := by decide +kernel
theorem dX9_area_4 : decode cX9_area 4 = .ok (.ifCond .eq 15, 3) := by decide +kernel
theorem dX9_area_7 : decode cX9_area 7 = .ok (.iload_n 2, 1) := by decide +kernel
theorem dX9_area_8 : decode cX9_area 8 = .ok (.i2l, 1) := by decide +kernel
theorem dX9_area_9 : decode cX9_area 9 = .ok (.lconst 0, 1) := by decide +kernel
theorem dX9_area_10 : decode cX9_area 10 = .ok (.ldc2_w 173, 3) := by decide +kernel
theorem dX9_area_13 : decode cX9_area 13 = .ok (.invokestatic 119, 3) := by decide +kernel
theorem dX9_area_16 : decode cX9_area 16 = .ok (.ifCond .ne 7, 3) := by decide +kernel
theorem dX9_area_19 : decode cX9_area 19 = .ok (.ldc2_w 233, 3) := by decide +kernel
theorem dX9_area_22 : decode cX9_area 22 = .ok (.lreturn, 1) := by decide +kernel
theorem dX9_area_23 : decode cX9_area 23 = .ok (.aload_n 0, 1) := by decide +kernel
theorem dX9_area_24 : decode cX9_area 24 = .ok (.invokevirtual 209, 3) := by decide +kernel
theorem dX9_area_27 : decode cX9_area 27 = .ok (.lconst 0, 1) := by decide +kernel
theorem dX9_area_28 : decode cX9_area 28 = .ok (.lstore_n 3, 1) := by decide +kernel
theorem dX9_area_29 : decode cX9_area 29 = .ok (.lconst 1, 1) := by decide +kernel
theorem dX9_area_30 : decode cX9_area 30 = .ok (.lstore 5, 2) := by decide +kernel
theorem dX9_area_32 : decode cX9_area 32 = .ok (.iconst 0, 1) := by decide +kernel
theorem dX9_area_33 : decode cX9_area 33 = .ok (.istore 7, 2) := by decide +kernel
theorem dX9_area_35 : decode cX9_area 35 = .ok (.iload 7, 2) := by decide +kernel
theorem dX9_area_37 : decode cX9_area 37 = .ok (.iconst 4, 1) := by decide +kernel
theorem dX9_area_38 : decode cX9_area 38 = .ok (.if_icmp .ge 121, 3) := by decide +kernel
theorem dX9_area_41 : decode cX9_area 41 = .ok (.aload_n 0, 1) := by decide +kernel
theorem dX9_area_42 : decode cX9_area 42 = .ok (.iload_n 1, 1) := by decide +kernel
theorem dX9_area_43 : decode cX9_area 43 = .ok (.iload 7, 2) := by decide +kernel
theorem dX9_area_45 : decode cX9_area 45 = .ok (.invokevirtual 215, 3) := by decide +kernel
theorem dX9_area_48 : decode cX9_area 48 = .ok (.istore 8, 2) := by decide +kernel
theorem dX9_area_50 : decode cX9_area 50 = .ok (.aload_n 0, 1) := by decide +kernel
theorem dX9_area_51 : decode cX9_area 51 = .ok (.getfield 111, 3) := by decide +kernel
theorem dX9_area_54 : decode cX9_area 54 = .ok (.iconst 4, 1) := by decide +kernel
theorem dX9_area_55 : decode cX9_area 55 = .ok (.iload 7, 2) := by decide +kernel
theorem dX9_area_57 : decode cX9_area 57 = .ok (.imul, 1) := by decide +kernel
theorem dX9_area_58 : decode cX9_area 58 = .ok (.iaload, 1) := by decide +kernel
theorem dX9_area_59 : decode cX9_area 59 = .ok (.i2l, 1) := by decide +kernel
theorem dX9_area_60 : decode cX9_area 60 = .ok (.aload_n 0, 1) := by decide +kernel
theorem dX9_area_61 : decode cX9_area 61 = .ok (.getfield 111, 3) := by decide +kernel
theorem dX9_area_64 : decode cX9_area 64 = .ok (.iconst 4, 1) := by decide +kernel
theorem dX9_area_65 : decode cX9_area 65 = .ok (.iload 7, 2) := by decide +kernel
theorem dX9_area_67 : decode cX9_area 67 = .ok (.imul, 1) := by decide +kernel
theorem dX9_area_68 : decode cX9_area 68 = .ok (.iconst 1, 1) := by decide +kernel
theorem dX9_area_69 : decode cX9_area 69 = .ok (.iadd, 1) := by decide +kernel
theorem dX9_area_70 : decode cX9_area 70 = .ok (.iaload, 1) := by decide +kernel
theorem dX9_area_71 : decode cX9_area 71 = .ok (.i2l, 1) := by decide +kernel
theorem dX9_area_72 : decode cX9_area 72 = .ok (.ladd, 1) := by decide +kernel
theorem dX9_area_73 : decode cX9_area 73 = .ok (.aload_n 0, 1) := by decide +kernel
theorem dX9_area_74 : decode cX9_area 74 = .ok (.getfield 111, 3) := by decide +kernel
theorem dX9_area_77 : decode cX9_area 77 = .ok (.iconst 4, 1) := by decide +kernel
theorem dX9_area_78 : decode cX9_area 78 = .ok (.iload 7, 2) := by decide +kernel
theorem dX9_area_80 : decode cX9_area 80 = .ok (.imul, 1) := by decide +kernel
theorem dX9_area_81 : decode cX9_area 81 = .ok (.iconst 2, 1) := by decide +kernel
theorem dX9_area_82 : decode cX9_area 82 = .ok (.iadd, 1) := by decide +kernel
theorem dX9_area_83 : decode cX9_area 83 = .ok (.iaload, 1) := by decide +kernel
theorem dX9_area_84 : decode cX9_area 84 = .ok (.i2l, 1) := by decide +kernel
theorem dX9_area_85 : decode cX9_area 85 = .ok (.ladd, 1) := by decide +kernel
theorem dX9_area_86 : decode cX9_area 86 = .ok (.aload_n 0, 1) := by decide +kernel
theorem dX9_area_87 : decode cX9_area 87 = .ok (.getfield 111, 3) := by decide +kernel
theorem dX9_area_90 : decode cX9_area 90 = .ok (.iconst 4, 1) := by decide +kernel
theorem dX9_area_91 : decode cX9_area 91 = .ok (.iload 7, 2) := by decide +kernel
theorem dX9_area_93 : decode cX9_area 93 = .ok (.imul, 1) := by decide +kernel
theorem dX9_area_94 : decode cX9_area 94 = .ok (.iconst 3, 1) := by decide +kernel
theorem dX9_area_95 : decode cX9_area 95 = .ok (.iadd, 1) := by decide +kernel
theorem dX9_area_96 : decode cX9_area 96 = .ok (.iaload, 1) := by decide +kernel
theorem dX9_area_97 : decode cX9_area 97 = .ok (.i2l, 1) := by decide +kernel
theorem dX9_area_98 : decode cX9_area 98 = .ok (.ladd, 1) := by decide +kernel
theorem dX9_area_99 : decode cX9_area 99 = .ok (.lstore 9, 2) := by decide +kernel
theorem dX9_area_101 : decode cX9_area 101 = .ok (.iload 8, 2) := by decide +kernel
theorem dX9_area_103 : decode cX9_area 103 = .ok (.ifCond .le 50, 3) := by decide +kernel
theorem dX9_area_106 : decode cX9_area 106 = .ok (.lload 9, 2) := by decide +kernel
theorem dX9_area_108 : decode cX9_area 108 = .ok (.lconst 0, 1) := by decide +kernel
theorem dX9_area_109 : decode cX9_area 109 = .ok (.lcmp, 1) := by decide +kernel
theorem dX9_area_110 : decode cX9_area 110 = .ok (.ifCond .ne 7, 3) := by decide +kernel
theorem dX9_area_113 : decode cX9_area 113 = .ok (.ldc2_w 235, 3) := by decide +kernel
theorem dX9_area_116 : decode cX9_area 116 = .ok (.lreturn, 1) := by decide +kernel
theorem dX9_area_117 : decode cX9_area 117 = .ok (.lload_n 3, 1) := by decide +kernel
theorem dX9_area_118 : decode cX9_area 118 = .ok (.lload 9, 2) := by decide +kernel
theorem dX9_area_120 : decode cX9_area 120 = .ok (.lmul, 1) := by decide +kernel
theorem dX9_area_121 : decode cX9_area 121 = .ok (.ldc2_w 144, 3) := by decide +kernel
theorem dX9_area_124 : decode cX9_area 124 = .ok (.iload 8, 2) := by decide +kernel
theorem dX9_area_126 : decode cX9_area 126 = .ok (.i2l, 1) := by decide +kernel
theorem dX9_area_127 : decode cX9_area 127 = .ok (.lmul, 1) := by decide +kernel
theorem dX9_area_128 : decode cX9_area 128 = .ok (.aload_n 0, 1) := by decide +kernel
theorem dX9_area_129 : decode cX9_area 129 = .ok (.getfield 111, 3) := by decide +kernel
theorem dX9_area_132 : decode cX9_area 132 = .ok (.iconst 4, 1) := by decide +kernel
theorem dX9_area_133 : decode cX9_area 133 = .ok (.iload 7, 2) := by decide +kernel
theorem dX9_area_135 : decode cX9_area 135 = .ok (.imul, 1) := by decide +kernel
theorem dX9_area_136 : decode cX9_area 136 = .ok (.iload_n 2, 1) := by decide +kernel
theorem dX9_area_137 : decode cX9_area 137 = .ok (.iadd, 1) := by decide +kernel
theorem dX9_area_138 : decode cX9_area 138 = .ok (.iaload, 1) := by decide +kernel
theorem dX9_area_139 : decode cX9_area 139 = .ok (.i2l, 1) := by decide +kernel
theorem dX9_area_140 : decode cX9_area 140 = .ok (.lmul, 1) := by decide +kernel
theorem dX9_area_141 : decode cX9_area 141 = .ok (.lload 5, 2) := by decide +kernel
theorem dX9_area_143 : decode cX9_area 143 = .ok (.lmul, 1) := by decide +kernel
theorem dX9_area_144 : decode cX9_area 144 = .ok (.ladd, 1) := by decide +kernel
theorem dX9_area_145 : decode cX9_area 145 = .ok (.lstore_n 3, 1) := by decide +kernel
theorem dX9_area_146 : decode cX9_area 146 = .ok (.lload 5, 2) := by decide +kernel
theorem dX9_area_148 : decode cX9_area 148 = .ok (.lload 9, 2) := by decide +kernel
theorem dX9_area_150 : decode cX9_area 150 = .ok (.lmul, 1) := by decide +kernel
theorem dX9_area_151 : decode cX9_area 151 = .ok (.lstore 5, 2) := by decide +kernel
theorem dX9_area_153 : decode cX9_area 153 = .ok (.iinc 7 1, 3) := by decide +kernel
theorem dX9_area_156 : decode cX9_area 156 = .ok (.goto (-121), 3) := by decide +kernel
theorem dX9_area_159 : decode cX9_area 159 = .ok (.lload_n 3, 1) := by decide +kernel
theorem dX9_area_160 : decode cX9_area 160 = .ok (.lload 5, 2) := by decide +kernel
theorem dX9_area_162 : decode cX9_area 162 = .ok (.ldiv, 1) := by decide +kernel
theorem dX9_area_163 : decode cX9_area 163 = .ok (.lreturn, 1) := by decide +kernel
theorem dX9_count_0 : decode cX9_count 0 = .ok (.iconst 0, 1) := by decide +kernel
theorem dX9_count_1 : decode cX9_count 1 = .ok (.istore_n 2, 1) := by decide +kernel
theorem dX9_count_2 : decode cX9_count 2 = .ok (.iload_n 1, 1) := by decide +kernel
theorem dX9_count_3 : decode cX9_count 3 = .ok (.tableswitch 122 0 8 #[49, 54, 59, 64, 69, 74, 107, 112, 117], 49) := by decide +kernel
theorem dX9_count_52 : decode cX9_count 52 = .ok (.aload_n 0, 1) := by decide +kernel
theorem dX9_count_53 : decode cX9_count 53 = .ok (.getfield 178, 3) := by decide +kernel
theorem dX9_count_56 : decode cX9_count 56 = .ok (.ireturn, 1) := by decide +kernel
theorem dX9_count_57 : decode cX9_count 57 = .ok (.aload_n 0, 1) := by decide +kernel
theorem dX9_count_58 : decode cX9_count 58 = .ok (.getfield 44, 3) := by decide +kernel
theorem dX9_count_61 : decode cX9_count 61 = .ok (.ireturn, 1) := by decide +kernel
theorem dX9_count_62 : decode cX9_count 62 = .ok (.aload_n 0, 1) := by decide +kernel
theorem dX9_count_63 : decode cX9_count 63 = .ok (.getfield 187, 3) := by decide +kernel
theorem dX9_count_66 : decode cX9_count 66 = .ok (.ireturn, 1) := by decide +kernel
theorem dX9_count_67 : decode cX9_count 67 = .ok (.aload_n 0, 1) := by decide +kernel
theorem dX9_count_68 : decode cX9_count 68 = .ok (.getfield 78, 3) := by decide +kernel
theorem dX9_count_71 : decode cX9_count 71 = .ok (.ireturn, 1) := by decide +kernel
theorem dX9_count_72 : decode cX9_count 72 = .ok (.aload_n 0, 1) := by decide +kernel
theorem dX9_count_73 : decode cX9_count 73 = .ok (.getfield 81, 3) := by decide +kernel
theorem dX9_count_76 : decode cX9_count 76 = .ok (.ireturn, 1) := by decide +kernel
theorem dX9_count_77 : decode cX9_count 77 = .ok (.iconst 0, 1) := by decide +kernel
theorem dX9_count_78 : decode cX9_count 78 = .ok (.istore_n 3, 1) := by decide +kernel
theorem dX9_count_79 : decode cX9_count 79 = .ok (.iload_n 3, 1) := by decide +kernel
theorem dX9_count_80 : decode cX9_count 80 = .ok (.bipush 18, 2) := by decide +kernel
theorem dX9_count_82 : decode cX9_count 82 = .ok (.if_icmp .ge 26, 3) := by decide +kernel
theorem dX9_count_85 : decode cX9_count 85 = .ok (.iload_n 2, 1) := by decide +kernel
theorem dX9_count_86 : decode cX9_count 86 = .ok (.aload_n 0, 1) := by decide +kernel
theorem dX9_count_87 : decode cX9_count 87 = .ok (.getfield 7, 3) := by decide +kernel
theorem dX9_count_90 : decode cX9_count 90 = .ok (.iload_n 3, 1) := by decide +kernel
theorem dX9_count_91 : decode cX9_count 91 = .ok (.iaload, 1) := by decide +kernel
theorem dX9_count_92 : decode cX9_count 92 = .ok (.ifCond .ge 7, 3) := by decide +kernel
theorem dX9_count_95 : decode cX9_count 95 = .ok (.iconst 0, 1) := by decide +kernel
theorem dX9_count_96 : decode cX9_count 96 = .ok (.goto 4, 3) := by decide +kernel
theorem dX9_count_99 : decode cX9_count 99 = .ok (.iconst 1, 1) := by decide +kernel
theorem dX9_count_100 : decode cX9_count 100 = .ok (.iadd, 1) := by decide +kernel
theorem dX9_count_101 : decode cX9_count 101 = .ok (.istore_n 2, 1) := by decide +kernel
theorem dX9_count_102 : decode cX9_count 102 = .ok (.iinc 3 1, 3) := by decide +kernel
theorem dX9_count_105 : decode cX9_count 105 = .ok (.goto (-26), 3) := by decide +kernel
theorem dX9_count_108 : decode cX9_count 108 = .ok (.iload_n 2, 1) := by decide +kernel
theorem dX9_count_109 : decode cX9_count 109 = .ok (.ireturn, 1) := by decide +kernel
theorem dX9_count_110 : decode cX9_count 110 = .ok (.aload_n 0, 1) := by decide +kernel
theorem dX9_count_111 : decode cX9_count 111 = .ok (.getfield 114, 3) := by decide +kernel
theorem dX9_count_114 : decode cX9_count 114 = .ok (.ireturn, 1) := by decide +kernel
theorem dX9_count_115 : decode cX9_count 115 = .ok (.aload_n 0, 1) := by decide +kernel
theorem dX9_count_116 : decode cX9_count 116 = .ok (.getfield 22, 3) := by decide +kernel
theorem dX9_count_119 : decode cX9_count 119 = .ok (.ireturn, 1) := by decide +kernel
theorem dX9_count_120 : decode cX9_count 120 = .ok (.aload_n 0, 1) := by decide +kernel
theorem dX9_count_121 : decode cX9_count 121 = .ok (.getfield 26, 3) := by decide +kernel
theorem dX9_count_124 : decode cX9_count 124 = .ok (.ireturn, 1) := by decide +kernel
theorem dX9_count_125 : decode cX9_count 125 = .ok (.sipush (-2000), 3) := by decide +kernel
theorem dX9_count_128 : decode cX9_count 128 = .ok (.ireturn, 1) := by decide +kernel
theorem dX9_digest_0 : decode cX9_digest 0 = .ok (.aload_n 0, 1) := by decide +kernel
theorem dX9_digest_1 : decode cX9_digest 1 = .ok (.invokevirtual 209, 3) := by decide +kernel
theorem dX9_digest_4 : decode cX9_digest 4 = .ok (.ldc2_w 117, 3) := by decide +kernel
theorem dX9_digest_7 : decode cX9_digest 7 = .ok (.lstore_n 1, 1) := by decide +kernel
theorem dX9_digest_8 : decode cX9_digest 8 = .ok (.iconst 0, 1) := by decide +kernel
theorem dX9_digest_9 : decode cX9_digest 9 = .ok (.istore_n 3, 1) := by decide +kernel
theorem dX9_digest_10 : decode cX9_digest 10 = .ok (.iload_n 3, 1) := by decide +kernel
theorem dX9_digest_11 : decode cX9_digest 11 = .ok (.bipush 9, 2) := by decide +kernel
theorem dX9_digest_13 : decode cX9_digest 13 = .ok (.if_icmp .ge 32, 3) := by decide +kernel
theorem dX9_digest_16 : decode cX9_digest 16 = .ok (.iload_n 3, 1) := by decide +kernel
theorem dX9_digest_17 : decode cX9_digest 17 = .ok (.bipush 6, 2) := by decide +kernel
theorem dX9_digest_19 : decode cX9_digest 19 = .ok (.if_icmp .ne 7, 3) := by decide +kernel
theorem dX9_digest_22 : decode cX9_digest 22 = .ok (.lload_n 1, 1) := by decide +kernel
theorem dX9_digest_23 : decode cX9_digest 23 = .ok (.goto 15, 3) := by decide +kernel
theorem dX9_digest_26 : decode cX9_digest 26 = .ok (.ldc2_w 237, 3) := by decide +kernel
theorem dX9_digest_29 : decode cX9_digest 29 = .ok (.lload_n 1, 1) := by decide +kernel
theorem dX9_digest_30 : decode cX9_digest 30 = .ok (.lmul, 1) := by decide +kernel
theorem dX9_digest_31 : decode cX9_digest 31 = .ok (.aload_n 0, 1) := by decide +kernel
theorem dX9_digest_32 : decode cX9_digest 32 = .ok (.iload_n 3, 1) := by decide +kernel
theorem dX9_digest_33 : decode cX9_digest 33 = .ok (.invokevirtual 239, 3) := by decide +kernel
theorem dX9_digest_36 : decode cX9_digest 36 = .ok (.i2l, 1) := by decide +kernel
theorem dX9_digest_37 : decode cX9_digest 37 = .ok (.ladd, 1) := by decide +kernel
theorem dX9_digest_38 : decode cX9_digest 38 = .ok (.lstore_n 1, 1) := by decide +kernel
theorem dX9_digest_39 : decode cX9_digest 39 = .ok (.iinc 3 1, 3) := by decide +kernel
theorem dX9_digest_42 : decode cX9_digest 42 = .ok (.goto (-32), 3) := by decide +kernel
theorem dX9_digest_45 : decode cX9_digest 45 = .ok (.iconst 0, 1) := by decide +kernel
theorem dX9_digest_46 : decode cX9_digest 46 = .ok (.istore_n 3, 1) := by decide +kernel
theorem dX9_digest_47 : decode cX9_digest 47 = .ok (.iload_n 3, 1) := by decide +kernel
theorem dX9_digest_48 : decode cX9_digest 48 = .ok (.bipush 6, 2) := by decide +kernel
theorem dX9_digest_50 : decode cX9_digest 50 = .ok (.if_icmp .ge 71, 3) := by decide +kernel
theorem dX9_digest_53 : decode cX9_digest 53 = .ok (.iconst 0, 1) := by decide +kernel
theorem dX9_digest_54 : decode cX9_digest 54 = .ok (.istore 4, 2) := by decide +kernel
theorem dX9_digest_56 : decode cX9_digest 56 = .ok (.iload 4, 2) := by decide +kernel
theorem dX9_digest_58 : decode cX9_digest 58 = .ok (.bipush 64, 2) := by decide +kernel
theorem dX9_digest_60 : decode cX9_digest 60 = .ok (.if_icmp .ge 24, 3) := by decide +kernel
theorem dX9_digest_63 : decode cX9_digest 63 = .ok (.ldc2_w 237, 3) := by decide +kernel
theorem dX9_digest_66 : decode cX9_digest 66 = .ok (.lload_n 1, 1) := by decide +kernel
theorem dX9_digest_67 : decode cX9_digest 67 = .ok (.lmul, 1) := by decide +kernel
theorem dX9_digest_68 : decode cX9_digest 68 = .ok (.aload_n 0, 1) := by decide +kernel
theorem dX9_digest_69 : decode cX9_digest 69 = .ok (.iload_n 3, 1) := by decide +kernel
theorem dX9_digest_70 : decode cX9_digest 70 = .ok (.iload 4, 2) := by decide +kernel
theorem dX9_digest_72 : decode cX9_digest 72 = .ok (.invokevirtual 170, 3) := by decide +kernel
theorem dX9_digest_75 : decode cX9_digest 75 = .ok (.i2l, 1) := by decide +kernel
theorem dX9_digest_76 : decode cX9_digest 76 = .ok (.ladd, 1) := by decide +kernel
theorem dX9_digest_77 : decode cX9_digest 77 = .ok (.lstore_n 1, 1) := by decide +kernel
theorem dX9_digest_78 : decode cX9_digest 78 = .ok (.iinc 4 1, 3) := by decide +kernel
theorem dX9_digest_81 : decode cX9_digest 81 = .ok (.goto (-25), 3) := by decide +kernel
theorem dX9_digest_84 : decode cX9_digest 84 = .ok (.iconst 0, 1) := by decide +kernel
theorem dX9_digest_85 : decode cX9_digest 85 = .ok (.istore 4, 2) := by decide +kernel
theorem dX9_digest_87 : decode cX9_digest 87 = .ok (.iload 4, 2) := by decide +kernel
theorem dX9_digest_89 : decode cX9_digest 89 = .ok (.bipush 64, 2) := by decide +kernel
theorem dX9_digest_91 : decode cX9_digest 91 = .ok (.if_icmp .ge 24, 3) := by decide +kernel
theorem dX9_digest_94 : decode cX9_digest 94 = .ok (.ldc2_w 237, 3) := by decide +kernel
theorem dX9_digest_97 : decode cX9_digest 97 = .ok (.lload_n 1, 1) := by decide +kernel
theorem dX9_digest_98 : decode cX9_digest 98 = .ok (.lmul, 1) := by decide +kernel
theorem dX9_digest_99 : decode cX9_digest 99 = .ok (.aload_n 0, 1) := by decide +kernel
theorem dX9_digest_100 : decode cX9_digest 100 = .ok (.iload_n 3, 1) := by decide +kernel
theorem dX9_digest_101 : decode cX9_digest 101 = .ok (.iload 4, 2) := by decide +kernel
theorem dX9_digest_103 : decode cX9_digest 103 = .ok (.invokevirtual 212, 3) := by decide +kernel
theorem dX9_digest_106 : decode cX9_digest 106 = .ok (.i2l, 1) := by decide +kernel
theorem dX9_digest_107 : decode cX9_digest 107 = .ok (.ladd, 1) := by decide +kernel
theorem dX9_digest_108 : decode cX9_digest 108 = .ok (.lstore_n 1, 1) := by decide +kernel
theorem dX9_digest_109 : decode cX9_digest 109 = .ok (.iinc 4 9, 3) := by decide +kernel
theorem dX9_digest_112 : decode cX9_digest 112 = .ok (.goto (-25), 3) := by decide +kernel
theorem dX9_digest_115 : decode cX9_digest 115 = .ok (.iinc 3 1, 3) := by decide +kernel
theorem dX9_digest_118 : decode cX9_digest 118 = .ok (.goto (-71), 3) := by decide +kernel
theorem dX9_digest_121 : decode cX9_digest 121 = .ok (.iconst 0, 1) := by decide +kernel
theorem dX9_digest_122 : decode cX9_digest 122 = .ok (.istore_n 3, 1) := by decide +kernel
theorem dX9_digest_123 : decode cX9_digest 123 = .ok (.iload_n 3, 1) := by decide +kernel
theorem dX9_digest_124 : decode cX9_digest 124 = .ok (.bipush 64, 2) := by decide +kernel
theorem dX9_digest_126 : decode cX9_digest 126 = .ok (.if_icmp .ge 23, 3) := by decide +kernel
theorem dX9_digest_129 : decode cX9_digest 129 = .ok (.ldc2_w 237, 3) := by decide +kernel
theorem dX9_digest_132 : decode cX9_digest 132 = .ok (.lload_n 1, 1) := by decide +kernel
theorem dX9_digest_133 : decode cX9_digest 133 = .ok (.lmul, 1) := by decide +kernel
theorem dX9_digest_134 : decode cX9_digest 134 = .ok (.aload_n 0, 1) := by decide +kernel
theorem dX9_digest_135 : decode cX9_digest 135 = .ok (.getfield 99, 3) := by decide +kernel
theorem dX9_digest_138 : decode cX9_digest 138 = .ok (.iload_n 3, 1) := by decide +kernel
theorem dX9_digest_139 : decode cX9_digest 139 = .ok (.iaload, 1) := by decide +kernel
theorem dX9_digest_140 : decode cX9_digest 140 = .ok (.i2l, 1) := by decide +kernel
theorem dX9_digest_141 : decode cX9_digest 141 = .ok (.ladd, 1) := by decide +kernel
theorem dX9_digest_142 : decode cX9_digest 142 = .ok (.lstore_n 1, 1) := by decide +kernel
theorem dX9_digest_143 : decode cX9_digest 143 = .ok (.iinc 3 1, 3) := by decide +kernel
theorem dX9_digest_146 : decode cX9_digest 146 = .ok (.goto (-23), 3) := by decide +kernel
theorem dX9_digest_149 : decode cX9_digest 149 = .ok (.lload_n 1, 1) := by decide +kernel
theorem dX9_digest_150 : decode cX9_digest 150 = .ok (.lreturn, 1) := by decide +kernel
theorem dJ9_floorDiv_7cf53_0 : decode cJ9_floorDiv_7cf53 0 = .ok (.iload_n 0, 1) := by decide +kernel
theorem dJ9_floorDiv_7cf53_1 : decode cJ9_floorDiv_7cf53 1 = .ok (.iload_n 1, 1) := by decide +kernel
theorem dJ9_floorDiv_7cf53_2 : decode cJ9_floorDiv_7cf53 2 = .ok (.idiv, 1) := by decide +kernel
theorem dJ9_floorDiv_7cf53_3 : decode cJ9_floorDiv_7cf53 3 = .ok (.istore_n 2, 1) := by decide +kernel
theorem dJ9_floorDiv_7cf53_4 : decode cJ9_floorDiv_7cf53 4 = .ok (.iload_n 0, 1) := by decide +kernel
theorem dJ9_floorDiv_7cf53_5 : decode cJ9_floorDiv_7cf53 5 = .ok (.iload_n 1, 1) := by decide +kernel
theorem dJ9_floorDiv_7cf53_6 : decode cJ9_floorDiv_7cf53 6 = .ok (.ixor, 1) := by decide +kernel
theorem dJ9_floorDiv_7cf53_7 : decode cJ9_floorDiv_7cf53 7 = .ok (.ifCond .ge 14, 3) := by decide +kernel
theorem dJ9_floorDiv_7cf53_10 : decode cJ9_floorDiv_7cf53 10 = .ok (.iload_n 2, 1) := by decide +kernel
theorem dJ9_floorDiv_7cf53_11 : decode cJ9_floorDiv_7cf53 11 = .ok (.iload_n 1, 1) := by decide +kernel
theorem dJ9_floorDiv_7cf53_12 : decode cJ9_floorDiv_7cf53 12 = .ok (.imul, 1) := by decide +kernel
theorem dJ9_floorDiv_7cf53_13 : decode cJ9_floorDiv_7cf53 13 = .ok (.iload_n 0, 1) := by decide +kernel
theorem dJ9_floorDiv_7cf53_14 : decode cJ9_floorDiv_7cf53 14 = .ok (.if_icmp .eq 7, 3) := by decide +kernel
theorem dJ9_floorDiv_7cf53_17 : decode cJ9_floorDiv_7cf53 17 = .ok (.iload_n 2, 1) := by decide +kernel
theorem dJ9_floorDiv_7cf53_18 : decode cJ9_floorDiv_7cf53 18 = .ok (.iconst 1, 1) := by decide +kernel
theorem dJ9_floorDiv_7cf53_19 : decode cJ9_floorDiv_7cf53 19 = .ok (.isub, 1) := by decide +kernel
theorem dJ9_floorDiv_7cf53_20 : decode cJ9_floorDiv_7cf53 20 = .ok (.ireturn, 1) := by decide +kernel
theorem dJ9_floorDiv_7cf53_21 : decode cJ9_floorDiv_7cf53 21 = .ok (.iload_n 2, 1) := by decide +kernel
theorem dJ9_floorDiv_7cf53_22 : decode cJ9_floorDiv_7cf53 22 = .ok (.ireturn, 1) := by decide +kernel
theorem dJ9_abs_0f7a4_0 : decode cJ9_abs_0f7a4 0 = .ok (.iload_n 0, 1) := by decide +kernel
theorem dJ9_abs_0f7a4_1 : decode cJ9_abs_0f7a4 1 = .ok (.ifCond .ge 8, 3) := by decide +kernel
theorem dJ9_abs_0f7a4_4 : decode cJ9_abs_0f7a4 4 = .ok (.iload_n 0, 1) := by decide +kernel
theorem dJ9_abs_0f7a4_5 : decode cJ9_abs_0f7a4 5 = .ok (.ineg, 1) := by decide +kernel
theorem dJ9_abs_0f7a4_6 : decode cJ9_abs_0f7a4 6 = .ok (.goto 4, 3) := by decide +kernel
theorem dJ9_abs_0f7a4_9 : decode cJ9_abs_0f7a4 9 = .ok (.iload_n 0, 1) := by decide +kernel
theorem dJ9_abs_0f7a4_10 : decode cJ9_abs_0f7a4 10 = .ok (.ireturn, 1) := by decide +kernel
theorem dJ9_min_7cf53_0 : decode cJ9_min_7cf53 0 = .ok (.iload_n 0, 1) := by decide +kernel
theorem dJ9_min_7cf53_1 : decode cJ9_min_7cf53 1 = .ok (.iload_n 1, 1) := by decide +kernel
theorem dJ9_min_7cf53_2 : decode cJ9_min_7cf53 2 = .ok (.if_icmp .gt 7, 3) := by decide +kernel
theorem dJ9_min_7cf53_5 : decode cJ9_min_7cf53 5 = .ok (.iload_n 0, 1) := by decide +kernel
theorem dJ9_min_7cf53_6 : decode cJ9_min_7cf53 6 = .ok (.goto 4, 3) := by decide +kernel
theorem dJ9_min_7cf53_9 : decode cJ9_min_7cf53 9 = .ok (.iload_n 1, 1) := by decide +kernel
theorem dJ9_min_7cf53_10 : decode cJ9_min_7cf53 10 = .ok (.ireturn, 1) := by decide +kernel
theorem dJ7_fill_53178_0 : decode cJ7_fill_53178 0 = .ok (.iconst 0, 1) := by decide +kernel
theorem dJ7_fill_53178_1 : decode cJ7_fill_53178 1 = .ok (.istore_n 2, 1) := by decide +kernel
theorem dJ7_fill_53178_2 : decode cJ7_fill_53178 2 = .ok (.aload_n 0, 1) := by decide +kernel
theorem dJ7_fill_53178_3 : decode cJ7_fill_53178 3 = .ok (.arraylength, 1) := by decide +kernel
theorem dJ7_fill_53178_4 : decode cJ7_fill_53178 4 = .ok (.istore_n 3, 1) := by decide +kernel
theorem dJ7_fill_53178_5 : decode cJ7_fill_53178 5 = .ok (.iload_n 2, 1) := by decide +kernel
theorem dJ7_fill_53178_6 : decode cJ7_fill_53178 6 = .ok (.iload_n 3, 1) := by decide +kernel
theorem dJ7_fill_53178_7 : decode cJ7_fill_53178 7 = .ok (.if_icmp .ge 13, 3) := by decide +kernel
theorem dJ7_fill_53178_10 : decode cJ7_fill_53178 10 = .ok (.aload_n 0, 1) := by decide +kernel
theorem dJ7_fill_53178_11 : decode cJ7_fill_53178 11 = .ok (.iload_n 2, 1) := by decide +kernel
theorem dJ7_fill_53178_12 : decode cJ7_fill_53178 12 = .ok (.iload_n 1, 1) := by decide +kernel
theorem dJ7_fill_53178_13 : decode cJ7_fill_53178 13 = .ok (.iastore, 1) := by decide +kernel
theorem dJ7_fill_53178_14 : decode cJ7_fill_53178 14 = .ok (.iinc 2 1, 3) := by decide +kernel
theorem dJ7_fill_53178_17 : decode cJ7_fill_53178 17 = .ok (.goto (-12), 3) := by decide +kernel
theorem dJ7_fill_53178_20 : decode cJ7_fill_53178 20 = .ok (.return_, 1) := by decide +kernel
theorem dL_law_0 : decode cL_law 0 = .ok (.new 7, 3) := by decide +kernel
theorem dL_law_3 : decode cL_law 3 = .ok (.dup, 1) := by decide +kernel
theorem dL_law_4 : decode cL_law 4 = .ok (.invokespecial 9, 3) := by decide +kernel
theorem dL_law_7 : decode cL_law 7 = .ok (.astore_n 1, 1) := by decide +kernel
theorem dL_law_8 : decode cL_law 8 = .ok (.new 10, 3) := by decide +kernel
theorem dL_law_11 : decode cL_law 11 = .ok (.dup, 1) := by decide +kernel
theorem dL_law_12 : decode cL_law 12 = .ok (.invokespecial 12, 3) := by decide +kernel
theorem dL_law_15 : decode cL_law 15 = .ok (.astore_n 2, 1) := by decide +kernel
theorem dL_law_16 : decode cL_law 16 = .ok (.iconst 0, 1) := by decide +kernel
theorem dL_law_17 : decode cL_law 17 = .ok (.istore_n 3, 1) := by decide +kernel
theorem dL_law_18 : decode cL_law 18 = .ok (.iload_n 3, 1) := by decide +kernel
theorem dL_law_19 : decode cL_law 19 = .ok (.aload_n 0, 1) := by decide +kernel
theorem dL_law_20 : decode cL_law 20 = .ok (.arraylength, 1) := by decide +kernel
theorem dL_law_21 : decode cL_law 21 = .ok (.bipush 6, 2) := by decide +kernel
theorem dL_law_23 : decode cL_law 23 = .ok (.isub, 1) := by decide +kernel
theorem dL_law_24 : decode cL_law 24 = .ok (.if_icmp .gt 1124, 3) := by decide +kernel
theorem dL_law_27 : decode cL_law 27 = .ok (.aload_n 0, 1) := by decide +kernel
theorem dL_law_28 : decode cL_law 28 = .ok (.iload_n 3, 1) := by decide +kernel
theorem dL_law_29 : decode cL_law 29 = .ok (.iaload, 1) := by decide +kernel
theorem dL_law_30 : decode cL_law 30 = .ok (.bipush 31, 2) := by decide +kernel
theorem dL_law_32 : decode cL_law 32 = .ok (.iand, 1) := by decide +kernel
theorem dL_law_33 : decode cL_law 33 = .ok (.tableswitch 1109 0 27 #[127, 170, 193, 246, 289, 352, 405, 438, 481, 514, 557, 600, 613, 626, 659, 692, 725, 758, 791, 824, 847, 906, 929, 962, 995, 1038, 1072, 1095], 127) := by decide +kernel
theorem dL_law_160 : decode cL_law 160 = .ok (.aload_n 1, 1) := by decide +kernel
theorem dL_law_161 : decode cL_law 161 = .ok (.aload_n 0, 1) := by decide +kernel
theorem dL_law_162 : decode cL_law 162 = .ok (.iload_n 3, 1) := by decide +kernel
theorem dL_law_163 : decode cL_law 163 = .ok (.iconst 1, 1) := by decide +kernel
theorem dL_law_164 : decode cL_law 164 = .ok (.iadd, 1) := by decide +kernel
theorem dL_law_165 : decode cL_law 165 = .ok (.iaload, 1) := by decide +kernel
theorem dL_law_166 : decode cL_law 166 = .ok (.aload_n 0, 1) := by decide +kernel
theorem dL_law_167 : decode cL_law 167 = .ok (.iload_n 3, 1) := by decide +kernel
theorem dL_law_168 : decode cL_law 168 = .ok (.iconst 2, 1) := by decide +kernel
theorem dL_law_169 : decode cL_law 169 = .ok (.iadd, 1) := by decide +kernel
theorem dL_law_170 : decode cL_law 170 = .ok (.iaload, 1) := by decide +kernel
theorem dL_law_171 : decode cL_law 171 = .ok (.aload_n 0, 1) := by decide +kernel
theorem dL_law_172 : decode cL_law 172 = .ok (.iload_n 3, 1) := by decide +kernel
theorem dL_law_173 : decode cL_law 173 = .ok (.iconst 3, 1) := by decide +kernel
theorem dL_law_174 : decode cL_law 174 = .ok (.iadd, 1) := by decide +kernel
theorem dL_law_175 : decode cL_law 175 = .ok (.iaload, 1) := by decide +kernel
theorem dL_law_176 : decode cL_law 176 = .ok (.invokevirtual 13, 3) := by decide +kernel
theorem dL_law_179 : decode cL_law 179 = .ok (.aload_n 2, 1) := by decide +kernel
theorem dL_law_180 : decode cL_law 180 = .ok (.aload_n 0, 1) := by decide +kernel
theorem dL_law_181 : decode cL_law 181 = .ok (.iload_n 3, 1) := by decide +kernel
theorem dL_law_182 : decode cL_law 182 = .ok (.iconst 1, 1) := by decide +kernel
theorem dL_law_183 : decode cL_law 183 = .ok (.iadd, 1) := by decide +kernel
theorem dL_law_184 : decode cL_law 184 = .ok (.iaload, 1) := by decide +kernel
theorem dL_law_185 : decode cL_law 185 = .ok (.aload_n 0, 1) := by decide +kernel
theorem dL_law_186 : decode cL_law 186 = .ok (.iload_n 3, 1) := by decide +kernel
theorem dL_law_187 : decode cL_law 187 = .ok (.iconst 2, 1) := by decide +kernel
theorem dL_law_188 : decode cL_law 188 = .ok (.iadd, 1) := by decide +kernel
theorem dL_law_189 : decode cL_law 189 = .ok (.iaload, 1) := by decide +kernel
theorem dL_law_190 : decode cL_law 190 = .ok (.aload_n 0, 1) := by decide +kernel
theorem dL_law_191 : decode cL_law 191 = .ok (.iload_n 3, 1) := by decide +kernel
theorem dL_law_192 : decode cL_law 192 = .ok (.iconst 3, 1) := by decide +kernel
theorem dL_law_193 : decode cL_law 193 = .ok (.iadd, 1) := by decide +kernel
theorem dL_law_194 : decode cL_law 194 = .ok (.iaload, 1) := by decide +kernel
theorem dL_law_195 : decode cL_law 195 = .ok (.invokevirtual 17, 3) := by decide +kernel
theorem dL_law_198 : decode cL_law 198 = .ok (.if_icmp .eq 944, 3) := by decide +kernel
theorem dL_law_201 : decode cL_law 201 = .ok (.iconst 0, 1) := by decide +kernel
theorem dL_law_202 : decode cL_law 202 = .ok (.ireturn, 1) := by decide +kernel
theorem dL_law_203 : decode cL_law 203 = .ok (.aload_n 1, 1) := by decide +kernel
theorem dL_law_204 : decode cL_law 204 = .ok (.aload_n 0, 1) := by decide +kernel
theorem dL_law_205 : decode cL_law 205 = .ok (.iload_n 3, 1) := by decide +kernel
theorem dL_law_206 : decode cL_law 206 = .ok (.iconst 1, 1) := by decide +kernel
theorem dL_law_207 : decode cL_law 207 = .ok (.iadd, 1) := by decide +kernel
theorem dL_law_208 : decode cL_law 208 = .ok (.iaload, 1) := by decide +kernel
theorem dL_law_209 : decode cL_law 209 = .ok (.invokevirtual 18, 3) := by decide +kernel
theorem dL_law_212 : decode cL_law 212 = .ok (.aload_n 2, 1) := by decide +kernel
theorem dL_law_213 : decode cL_law 213 = .ok (.aload_n 0, 1) := by decide +kernel
theorem dL_law_214 : decode cL_law 214 = .ok (.iload_n 3, 1) := by decide +kernel
theorem dL_law_215 : decode cL_law 215 = .ok (.iconst 1, 1) := by decide +kernel
theorem dL_law_216 : decode cL_law 216 = .ok (.iadd, 1) := by decide +kernel
theorem dL_law_217 : decode cL_law 217 = .ok (.iaload, 1) := by decide +kernel
theorem dL_law_218 : decode cL_law 218 = .ok (.invokevirtual 22, 3) := by decide +kernel
theorem dL_law_221 : decode cL_law 221 = .ok (.if_icmp .eq 921, 3) := by decide +kernel
theorem dL_law_224 : decode cL_law 224 = .ok (.iconst 0, 1) := by decide +kernel
theorem dL_law_225 : decode cL_law 225 = .ok (.ireturn, 1) := by decide +kernel
theorem dL_law_226 : decode cL_law 226 = .ok (.aload_n 1, 1) := by decide +kernel
theorem dL_law_227 : decode cL_law 227 = .ok (.aload_n 0, 1) := by decide +kernel
theorem dL_law_228 : decode cL_law 228 = .ok (.iload_n 3, 1) := by decide +kernel
theorem dL_law_229 : decode cL_law 229 = .ok (.iconst 1, 1) := by decide +kernel
theorem dL_law_230 : decode cL_law 230 = .ok (.iadd, 1) := by decide +kernel
theorem dL_law_231 : decode cL_law 231 = .ok (.iaload, 1) := by decide +kernel
theorem dL_law_232 : decode cL_law 232 = .ok (.aload_n 0, 1) := by decide +kernel
theorem dL_law_233 : decode cL_law 233 = .ok (.iload_n 3, 1) := by decide +kernel
theorem dL_law_234 : decode cL_law 234 = .ok (.iconst 2, 1) := by decide +kernel
theorem dL_law_235 : decode cL_law 235 = .ok (.iadd, 1) := by decide +kernel
theorem dL_law_236 : decode cL_law 236 = .ok (.iaload, 1) := by decide +kernel
theorem dL_law_237 : decode cL_law 237 = .ok (.aload_n 0, 1) := by decide +kernel
theorem dL_law_238 : decode cL_law 238 = .ok (.iload_n 3, 1) := by decide +kernel
theorem dL_law_239 : decode cL_law 239 = .ok (.iconst 3, 1) := by decide +kernel
theorem dL_law_240 : decode cL_law 240 = .ok (.iadd, 1) := by decide +kernel
theorem dL_law_241 : decode cL_law 241 = .ok (.iaload, 1) := by decide +kernel
theorem dL_law_242 : decode cL_law 242 = .ok (.aload_n 0, 1) := by decide +kernel
theorem dL_law_243 : decode cL_law 243 = .ok (.iload_n 3, 1) := by decide +kernel
theorem dL_law_244 : decode cL_law 244 = .ok (.iconst 4, 1) := by decide +kernel
theorem dL_law_245 : decode cL_law 245 = .ok (.iadd, 1) := by decide +kernel
theorem dL_law_246 : decode cL_law 246 = .ok (.iaload, 1) := by decide +kernel
theorem dL_law_247 : decode cL_law 247 = .ok (.invokevirtual 23, 3) := by decide +kernel
theorem dL_law_250 : decode cL_law 250 = .ok (.aload_n 2, 1) := by decide +kernel
theorem dL_law_251 : decode cL_law 251 = .ok (.aload_n 0, 1) := by decide +kernel
theorem dL_law_252 : decode cL_law 252 = .ok (.iload_n 3, 1) := by decide +kernel
theorem dL_law_253 : decode cL_law 253 = .ok (.iconst 1, 1) := by decide +kernel
theorem dL_law_254 : decode cL_law 254 = .ok (.iadd, 1) := by decide +kernel
theorem dL_law_255 : decode cL_law 255 = .ok (.iaload, 1) := by decide +kernel
theorem dL_law_256 : decode cL_law 256 = .ok (.aload_n 0, 1) := by decide +kernel
theorem dL_law_257 : decode cL_law 257 = .ok (.iload_n 3, 1) := by decide +kernel
theorem dL_law_258 : decode cL_law 258 = .ok (.iconst 2, 1) := by decide +kernel
theorem dL_law_259 : decode cL_law 259 = .ok (.iadd, 1) := by decide +kernel
theorem dL_law_260 : decode cL_law 260 = .ok (.iaload, 1) := by decide +kernel
theorem dL_law_261 : decode cL_law 261 = .ok (.aload_n 0, 1) := by decide +kernel
theorem dL_law_262 : decode cL_law 262 = .ok (.iload_n 3, 1) := by decide +kernel
theorem dL_law_263 : decode cL_law 263 = .ok (.iconst 3, 1) := by decide +kernel
theorem dL_law_264 : decode cL_law 264 = .ok (.iadd, 1) := by decide +kernel
theorem dL_law_265 : decode cL_law 265 = .ok (.iaload, 1) := by decide +kernel
theorem dL_law_266 : decode cL_law 266 = .ok (.aload_n 0, 1) := by decide +kernel
theorem dL_law_267 : decode cL_law 267 = .ok (.iload_n 3, 1) := by decide +kernel
theorem dL_law_268 : decode cL_law 268 = .ok (.iconst 4, 1) := by decide +kernel
theorem dL_law_269 : decode cL_law 269 = .ok (.iadd, 1) := by decide +kernel
theorem dL_law_270 : decode cL_law 270 = .ok (.iaload, 1) := by decide +kernel
theorem dL_law_271 : decode cL_law 271 = .ok (.invokevirtual 27, 3) := by decide +kernel
theorem dL_law_274 : decode cL_law 274 = .ok (.if_icmp .eq 868, 3) := by decide +kernel
theorem dL_law_277 : decode cL_law 277 = .ok (.iconst 0, 1) := by decide +kernel
theorem dL_law_278 : decode cL_law 278 = .ok (.ireturn, 1) := by decide +kernel
theorem dL_law_279 : decode cL_law 279 = .ok (.aload_n 1, 1) := by decide +kernel
theorem dL_law_280 : decode cL_law 280 = .ok (.aload_n 0, 1) := by decide +kernel
theorem dL_law_281 : decode cL_law 281 = .ok (.iload_n 3, 1) := by decide +kernel
theorem dL_law_282 : decode cL_law 282 = .ok (.iconst 1, 1) := by decide +kernel
theorem dL_law_283 : decode cL_law 283 = .ok (.iadd, 1) := by decide +kernel
theorem dL_law_284 : decode cL_law 284 = .ok (.iaload, 1) := by decide +kernel
theorem dL_law_285 : decode cL_law 285 = .ok (.aload_n 0, 1) := by decide +kernel
theorem dL_law_286 : decode cL_law 286 = .ok (.iload_n 3, 1) := by decide +kernel
theorem dL_law_287 : decode cL_law 287 = .ok (.iconst 2, 1) := by decide +kernel
theorem dL_law_288 : decode cL_law 288 = .ok (.iadd, 1) := by decide +kernel
theorem dL_law_289 : decode cL_law 289 = .ok (.iaload, 1) := by decide +kernel
theorem dL_law_290 : decode cL_law 290 = .ok (.aload_n 0, 1) := by decide +kernel
theorem dL_law_291 : decode cL_law 291 = .ok (.iload_n 3, 1) := by decide +kernel
theorem dL_law_292 : decode cL_law 292 = .ok (.iconst 3, 1) := by decide +kernel
theorem dL_law_293 : decode cL_law 293 = .ok (.iadd, 1) := by decide +kernel
theorem dL_law_294 : decode cL_law 294 = .ok (.iaload, 1) := by decide +kernel
theorem dL_law_295 : decode cL_law 295 = .ok (.invokevirtual 28, 3) := by decide +kernel
theorem dL_law_298 : decode cL_law 298 = .ok (.aload_n 2, 1) := by decide +kernel
theorem dL_law_299 : decode cL_law 299 = .ok (.aload_n 0, 1) := by decide +kernel
theorem dL_law_300 : decode cL_law 300 = .ok (.iload_n 3, 1) := by decide +kernel
theorem dL_law_301 : decode cL_law 301 = .ok (.iconst 1, 1) := by decide +kernel
theorem dL_law_302 : decode cL_law 302 = .ok (.iadd, 1) := by decide +kernel
theorem dL_law_303 : decode cL_law 303 = .ok (.iaload, 1) := by decide +kernel
theorem dL_law_304 : decode cL_law 304 = .ok (.aload_n 0, 1) := by decide +kernel
theorem dL_law_305 : decode cL_law 305 = .ok (.iload_n 3, 1) := by decide +kernel
theorem dL_law_306 : decode cL_law 306 = .ok (.iconst 2, 1) := by decide +kernel
theorem dL_law_307 : decode cL_law 307 = .ok (.iadd, 1) := by decide +kernel
theorem dL_law_308 : decode cL_law 308 = .ok (.iaload, 1) := by decide +kernel
theorem dL_law_309 : decode cL_law 309 = .ok (.aload_n 0, 1) := by decide +kernel
theorem dL_law_310 : decode cL_law 310 = .ok (.iload_n 3, 1) := by decide +kernel
theorem dL_law_311 : decode cL_law 311 = .ok (.iconst 3, 1) := by decide +kernel
theorem dL_law_312 : decode cL_law 312 = .ok (.iadd, 1) := by decide +kernel
theorem dL_law_313 : decode cL_law 313 = .ok (.iaload, 1) := by decide +kernel
theorem dL_law_314 : decode cL_law 314 = .ok (.invokevirtual 31, 3) := by decide +kernel
theorem dL_law_317 : decode cL_law 317 = .ok (.if_icmp .eq 825, 3) := by decide +kernel
theorem dL_law_320 : decode cL_law 320 = .ok (.iconst 0, 1) := by decide +kernel
theorem dL_law_321 : decode cL_law 321 = .ok (.ireturn, 1) := by decide +kernel
theorem dL_law_322 : decode cL_law 322 = .ok (.aload_n 1, 1) := by decide +kernel
theorem dL_law_323 : decode cL_law 323 = .ok (.aload_n 0, 1) := by decide +kernel
theorem dL_law_324 : decode cL_law 324 = .ok (.iload_n 3, 1) := by decide +kernel
theorem dL_law_325 : decode cL_law 325 = .ok (.iconst 1, 1) := by decide +kernel
theorem dL_law_326 : decode cL_law 326 = .ok (.iadd, 1) := by decide +kernel
theorem dL_law_327 : decode cL_law 327 = .ok (.iaload, 1) := by decide +kernel
theorem dL_law_328 : decode cL_law 328 = .ok (.aload_n 0, 1) := by decide +kernel
theorem dL_law_329 : decode cL_law 329 = .ok (.iload_n 3, 1) := by decide +kernel
theorem dL_law_330 : decode cL_law 330 = .ok (.iconst 2, 1) := by decide +kernel
theorem dL_law_331 : decode cL_law 331 = .ok (.iadd, 1) := by decide +kernel
theorem dL_law_332 : decode cL_law 332 = .ok (.iaload, 1) := by decide +kernel
theorem dL_law_333 : decode cL_law 333 = .ok (.aload_n 0, 1) := by decide +kernel
theorem dL_law_334 : decode cL_law 334 = .ok (.iload_n 3, 1) := by decide +kernel
theorem dL_law_335 : decode cL_law 335 = .ok (.iconst 3, 1) := by decide +kernel
theorem dL_law_336 : decode cL_law 336 = .ok (.iadd, 1) := by decide +kernel
theorem dL_law_337 : decode cL_law 337 = .ok (.iaload, 1) := by decide +kernel
theorem dL_law_338 : decode cL_law 338 = .ok (.aload_n 0, 1) := by decide +kernel
theorem dL_law_339 : decode cL_law 339 = .ok (.iload_n 3, 1) := by decide +kernel
theorem dL_law_340 : decode cL_law 340 = .ok (.iconst 4, 1) := by decide +kernel
theorem dL_law_341 : decode cL_law 341 = .ok (.iadd, 1) := by decide +kernel
theorem dL_law_342 : decode cL_law 342 = .ok (.iaload, 1) := by decide +kernel
theorem dL_law_343 : decode cL_law 343 = .ok (.aload_n 0, 1) := by decide +kernel
theorem dL_law_344 : decode cL_law 344 = .ok (.iload_n 3, 1) := by decide +kernel
theorem dL_law_345 : decode cL_law 345 = .ok (.iconst 5, 1) := by decide +kernel
theorem dL_law_346 : decode cL_law 346 = .ok (.iadd, 1) := by decide +kernel
theorem dL_law_347 : decode cL_law 347 = .ok (.iaload, 1) := by decide +kernel
theorem dL_law_348 : decode cL_law 348 = .ok (.invokevirtual 32, 3) := by decide +kernel
theorem dL_law_351 : decode cL_law 351 = .ok (.aload_n 2, 1) := by decide +kernel
theorem dL_law_352 : decode cL_law 352 = .ok (.aload_n 0, 1) := by decide +kernel
theorem dL_law_353 : decode cL_law 353 = .ok (.iload_n 3, 1) := by decide +kernel
theorem dL_law_354 : decode cL_law 354 = .ok (.iconst 1, 1) := by decide +kernel
theorem dL_law_355 : decode cL_law 355 = .ok (.iadd, 1) := by decide +kernel
theorem dL_law_356 : decode cL_law 356 = .ok (.iaload, 1) := by decide +kernel
theorem dL_law_357 : decode cL_law 357 = .ok (.aload_n 0, 1) := by decide +kernel
theorem dL_law_358 : decode cL_law 358 = .ok (.iload_n 3, 1) := by decide +kernel
theorem dL_law_359 : decode cL_law 359 = .ok (.iconst 2, 1) := by decide +kernel
theorem dL_law_360 : decode cL_law 360 = .ok (.iadd, 1) := by decide +kernel
theorem dL_law_361 : decode cL_law 361 = .ok (.iaload, 1) := by decide +kernel
theorem dL_law_362 : decode cL_law 362 = .ok (.aload_n 0, 1) := by decide +kernel
theorem dL_law_363 : decode cL_law 363 = .ok (.iload_n 3, 1) := by decide +kernel
theorem dL_law_364 : decode cL_law 364 = .ok (.iconst 3, 1) := by decide +kernel
theorem dL_law_365 : decode cL_law 365 = .ok (.iadd, 1) := by decide +kernel
theorem dL_law_366 : decode cL_law 366 = .ok (.iaload, 1) := by decide +kernel
theorem dL_law_367 : decode cL_law 367 = .ok (.aload_n 0, 1) := by decide +kernel
theorem dL_law_368 : decode cL_law 368 = .ok (.iload_n 3, 1) := by decide +kernel
theorem dL_law_369 : decode cL_law 369 = .ok (.iconst 4, 1) := by decide +kernel
theorem dL_law_370 : decode cL_law 370 = .ok (.iadd, 1) := by decide +kernel
theorem dL_law_371 : decode cL_law 371 = .ok (.iaload, 1) := by decide +kernel
theorem dL_law_372 : decode cL_law 372 = .ok (.aload_n 0, 1) := by decide +kernel
theorem dL_law_373 : decode cL_law 373 = .ok (.iload_n 3, 1) := by decide +kernel
theorem dL_law_374 : decode cL_law 374 = .ok (.iconst 5, 1) := by decide +kernel
theorem dL_law_375 : decode cL_law 375 = .ok (.iadd, 1) := by decide +kernel
theorem dL_law_376 : decode cL_law 376 = .ok (.iaload, 1) := by decide +kernel
theorem dL_law_377 : decode cL_law 377 = .ok (.invokevirtual 36, 3) := by decide +kernel
theorem dL_law_380 : decode cL_law 380 = .ok (.if_icmp .eq 762, 3) := by decide +kernel
theorem dL_law_383 : decode cL_law 383 = .ok (.iconst 0, 1) := by decide +kernel
theorem dL_law_384 : decode cL_law 384 = .ok (.ireturn, 1) := by decide +kernel
theorem dL_law_385 : decode cL_law 385 = .ok (.aload_n 1, 1) := by decide +kernel
theorem dL_law_386 : decode cL_law 386 = .ok (.aload_n 0, 1) := by decide +kernel
theorem dL_law_387 : decode cL_law 387 = .ok (.iload_n 3, 1) := by decide +kernel
theorem dL_law_388 : decode cL_law 388 = .ok (.iconst 1, 1) := by decide +kernel
theorem dL_law_389 : decode cL_law 389 = .ok (.iadd, 1) := by decide +kernel
theorem dL_law_390 : decode cL_law 390 = .ok (.iaload, 1) := by decide +kernel
theorem dL_law_391 : decode cL_law 391 = .ok (.aload_n 0, 1) := by decide +kernel
theorem dL_law_392 : decode cL_law 392 = .ok (.iload_n 3, 1) := by decide +kernel
theorem dL_law_393 : decode cL_law 393 = .ok (.iconst 2, 1) := by decide +kernel
theorem dL_law_394 : decode cL_law 394 = .ok (.iadd, 1) := by decide +kernel
theorem dL_law_395 : decode cL_law 395 = .ok (.iaload, 1) := by decide +kernel
theorem dL_law_396 : decode cL_law 396 = .ok (.aload_n 0, 1) := by decide +kernel
theorem dL_law_397 : decode cL_law 397 = .ok (.iload_n 3, 1) := by decide +kernel
theorem dL_law_398 : decode cL_law 398 = .ok (.iconst 3, 1) := by decide +kernel
theorem dL_law_399 : decode cL_law 399 = .ok (.iadd, 1) := by decide +kernel
theorem dL_law_400 : decode cL_law 400 = .ok (.iaload, 1) := by decide +kernel
theorem dL_law_401 : decode cL_law 401 = .ok (.aload_n 0, 1) := by decide +kernel
theorem dL_law_402 : decode cL_law 402 = .ok (.iload_n 3, 1) := by decide +kernel
theorem dL_law_403 : decode cL_law 403 = .ok (.iconst 4, 1) := by decide +kernel
theorem dL_law_404 : decode cL_law 404 = .ok (.iadd, 1) := by decide +kernel
theorem dL_law_405 : decode cL_law 405 = .ok (.iaload, 1) := by decide +kernel
theorem dL_law_406 : decode cL_law 406 = .ok (.invokevirtual 37, 3) := by decide +kernel
theorem dL_law_409 : decode cL_law 409 = .ok (.aload_n 2, 1) := by decide +kernel
theorem dL_law_410 : decode cL_law 410 = .ok (.aload_n 0, 1) := by decide +kernel
theorem dL_law_411 : decode cL_law 411 = .ok (.iload_n 3, 1) := by decide +kernel
theorem dL_law_412 : decode cL_law 412 = .ok (.iconst 1, 1) := by decide +kernel
theorem dL_law_413 : decode cL_law 413 = .ok (.iadd, 1) := by decide +kernel
theorem dL_law_414 : decode cL_law 414 = .ok (.iaload, 1) := by decide +kernel
theorem dL_law_415 : decode cL_law 415 = .ok (.aload_n 0, 1) := by decide +kernel
theorem dL_law_416 : decode cL_law 416 = .ok (.iload_n 3, 1) := by decide +kernel
theorem dL_law_417 : decode cL_law 417 = .ok (.iconst 2, 1) := by decide +kernel
theorem dL_law_418 : decode cL_law 418 = .ok (.iadd, 1) := by decide +kernel
theorem dL_law_419 : decode cL_law 419 = .ok (.iaload, 1) := by decide +kernel
theorem dL_law_420 : decode cL_law 420 = .ok (.aload_n 0, 1) := by decide +kernel
theorem dL_law_421 : decode cL_law 421 = .ok (.iload_n 3, 1) := by decide +kernel
theorem dL_law_422 : decode cL_law 422 = .ok (.iconst 3, 1) := by decide +kernel
theorem dL_law_423 : decode cL_law 423 = .ok (.iadd, 1) := by decide +kernel
theorem dL_law_424 : decode cL_law 424 = .ok (.iaload, 1) := by decide +kernel
theorem dL_law_425 : decode cL_law 425 = .ok (.aload_n 0, 1) := by decide +kernel
theorem dL_law_426 : decode cL_law 426 = .ok (.iload_n 3, 1) := by decide +kernel
theorem dL_law_427 : decode cL_law 427 = .ok (.iconst 4, 1) := by decide +kernel
theorem dL_law_428 : decode cL_law 428 = .ok (.iadd, 1) := by decide +kernel
theorem dL_law_429 : decode cL_law 429 = .ok (.iaload, 1) := by decide +kernel
theorem dL_law_430 : decode cL_law 430 = .ok (.invokevirtual 40, 3) := by decide +kernel
theorem dL_law_433 : decode cL_law 433 = .ok (.if_icmp .eq 709, 3) := by decide +kernel
theorem dL_law_436 : decode cL_law 436 = .ok (.iconst 0, 1) := by decide +kernel
theorem dL_law_437 : decode cL_law 437 = .ok (.ireturn, 1) := by decide +kernel
theorem dL_law_438 : decode cL_law 438 = .ok (.aload_n 1, 1) := by decide +kernel
theorem dL_law_439 : decode cL_law 439 = .ok (.aload_n 0, 1) := by decide +kernel
theorem dL_law_440 : decode cL_law 440 = .ok (.iload_n 3, 1) := by decide +kernel
theorem dL_law_441 : decode cL_law 441 = .ok (.iconst 1, 1) := by decide +kernel
theorem dL_law_442 : decode cL_law 442 = .ok (.iadd, 1) := by decide +kernel
theorem dL_law_443 : decode cL_law 443 = .ok (.iaload, 1) := by decide +kernel
theorem dL_law_444 : decode cL_law 444 = .ok (.aload_n 0, 1) := by decide +kernel
theorem dL_law_445 : decode cL_law 445 = .ok (.iload_n 3, 1) := by decide +kernel
theorem dL_law_446 : decode cL_law 446 = .ok (.iconst 2, 1) := by decide +kernel
theorem dL_law_447 : decode cL_law 447 = .ok (.iadd, 1) := by decide +kernel
theorem dL_law_448 : decode cL_law 448 = .ok (.iaload, 1) := by decide +kernel
theorem dL_law_449 : decode cL_law 449 = .ok (.invokevirtual 41, 3) := by decide +kernel
theorem dL_law_452 : decode cL_law 452 = .ok (.aload_n 2, 1) := by decide +kernel
theorem dL_law_453 : decode cL_law 453 = .ok (.aload_n 0, 1) := by decide +kernel
theorem dL_law_454 : decode cL_law 454 = .ok (.iload_n 3, 1) := by decide +kernel
theorem dL_law_455 : decode cL_law 455 = .ok (.iconst 1, 1) := by decide +kernel
theorem dL_law_456 : decode cL_law 456 = .ok (.iadd, 1) := by decide +kernel
theorem dL_law_457 : decode cL_law 457 = .ok (.iaload, 1) := by decide +kernel
theorem dL_law_458 : decode cL_law 458 = .ok (.aload_n 0, 1) := by decide +kernel
theorem dL_law_459 : decode cL_law 459 = .ok (.iload_n 3, 1) := by decide +kernel
theorem dL_law_460 : decode cL_law 460 = .ok (.iconst 2, 1) := by decide +kernel
theorem dL_law_461 : decode cL_law 461 = .ok (.iadd, 1) := by decide +kernel
theorem dL_law_462 : decode cL_law 462 = .ok (.iaload, 1) := by decide +kernel
theorem dL_law_463 : decode cL_law 463 = .ok (.invokevirtual 45, 3) := by decide +kernel
theorem dL_law_466 : decode cL_law 466 = .ok (.if_icmp .eq 676, 3) := by decide +kernel
theorem dL_law_469 : decode cL_law 469 = .ok (.iconst 0, 1) := by decide +kernel
theorem dL_law_470 : decode cL_law 470 = .ok (.ireturn, 1) := by decide +kernel
theorem dL_law_471 : decode cL_law 471 = .ok (.aload_n 1, 1) := by decide +kernel
theorem dL_law_472 : decode cL_law 472 = .ok (.aload_n 0, 1) := by decide +kernel
theorem dL_law_473 : decode cL_law 473 = .ok (.iload_n 3, 1) := by decide +kernel
theorem dL_law_474 : decode cL_law 474 = .ok (.iconst 1, 1) := by decide +kernel
theorem dL_law_475 : decode cL_law 475 = .ok (.iadd, 1) := by decide +kernel
theorem dL_law_476 : decode cL_law 476 = .ok (.iaload, 1) := by decide +kernel
theorem dL_law_477 : decode cL_law 477 = .ok (.aload_n 0, 1) := by decide +kernel
theorem dL_law_478 : decode cL_law 478 = .ok (.iload_n 3, 1) := by decide +kernel
theorem dL_law_479 : decode cL_law 479 = .ok (.iconst 2, 1) := by decide +kernel
theorem dL_law_480 : decode cL_law 480 = .ok (.iadd, 1) := by decide +kernel
theorem dL_law_481 : decode cL_law 481 = .ok (.iaload, 1) := by decide +kernel
theorem dL_law_482 : decode cL_law 482 = .ok (.aload_n 0, 1) := by decide +kernel
theorem dL_law_483 : decode cL_law 483 = .ok (.iload_n 3, 1) := by decide +kernel
theorem dL_law_484 : decode cL_law 484 = .ok (.iconst 3, 1) := by decide +kernel
theorem dL_law_485 : decode cL_law 485 = .ok (.iadd, 1) := by decide +kernel
theorem dL_law_486 : decode cL_law 486 = .ok (.iaload, 1) := by decide +kernel
theorem dL_law_487 : decode cL_law 487 = .ok (.invokevirtual 46, 3) := by decide +kernel
theorem dL_law_490 : decode cL_law 490 = .ok (.aload_n 2, 1) := by decide +kernel
theorem dL_law_491 : decode cL_law 491 = .ok (.aload_n 0, 1) := by decide +kernel
theorem dL_law_492 : decode cL_law 492 = .ok (.iload_n 3, 1) := by decide +kernel
theorem dL_law_493 : decode cL_law 493 = .ok (.iconst 1, 1) := by decide +kernel
theorem dL_law_494 : decode cL_law 494 = .ok (.iadd, 1) := by decide +kernel
theorem dL_law_495 : decode cL_law 495 = .ok (.iaload, 1) := by decide +kernel
theorem dL_law_496 : decode cL_law 496 = .ok (.aload_n 0, 1) := by decide +kernel
theorem dL_law_497 : decode cL_law 497 = .ok (.iload_n 3, 1) := by decide +kernel
theorem dL_law_498 : decode cL_law 498 = .ok (.iconst 2, 1) := by decide +kernel
theorem dL_law_499 : decode cL_law 499 = .ok (.iadd, 1) := by decide +kernel
theorem dL_law_500 : decode cL_law 500 = .ok (.iaload, 1) := by decide +kernel
theorem dL_law_501 : decode cL_law 501 = .ok (.aload_n 0, 1) := by decide +kernel
theorem dL_law_502 : decode cL_law 502 = .ok (.iload_n 3, 1) := by decide +kernel
theorem dL_law_503 : decode cL_law 503 = .ok (.iconst 3, 1) := by decide +kernel
theorem dL_law_504 : decode cL_law 504 = .ok (.iadd, 1) := by decide +kernel
theorem dL_law_505 : decode cL_law 505 = .ok (.iaload, 1) := by decide +kernel
theorem dL_law_506 : decode cL_law 506 = .ok (.invokevirtual 49, 3) := by decide +kernel
theorem dL_law_509 : decode cL_law 509 = .ok (.if_icmp .eq 633, 3) := by decide +kernel
theorem dL_law_512 : decode cL_law 512 = .ok (.iconst 0, 1) := by decide +kernel
theorem dL_law_513 : decode cL_law 513 = .ok (.ireturn, 1) := by decide +kernel
theorem dL_law_514 : decode cL_law 514 = .ok (.aload_n 1, 1) := by decide +kernel
theorem dL_law_515 : decode cL_law 515 = .ok (.aload_n 0, 1) := by decide +kernel
theorem dL_law_516 : decode cL_law 516 = .ok (.iload_n 3, 1) := by decide +kernel
theorem dL_law_517 : decode cL_law 517 = .ok (.iconst 1, 1) := by decide +kernel
theorem dL_law_518 : decode cL_law 518 = .ok (.iadd, 1) := by decide +kernel
theorem dL_law_519 : decode cL_law 519 = .ok (.iaload, 1) := by decide +kernel
theorem dL_law_520 : decode cL_law 520 = .ok (.aload_n 0, 1) := by decide +kernel
theorem dL_law_521 : decode cL_law 521 = .ok (.iload_n 3, 1) := by decide +kernel
theorem dL_law_522 : decode cL_law 522 = .ok (.iconst 2, 1) := by decide +kernel
theorem dL_law_523 : decode cL_law 523 = .ok (.iadd, 1) := by decide +kernel
theorem dL_law_524 : decode cL_law 524 = .ok (.iaload, 1) := by decide +kernel
theorem dL_law_525 : decode cL_law 525 = .ok (.invokevirtual 50, 3) := by decide +kernel
theorem dL_law_528 : decode cL_law 528 = .ok (.aload_n 2, 1) := by decide +kernel
theorem dL_law_529 : decode cL_law 529 = .ok (.aload_n 0, 1) := by decide +kernel
theorem dL_law_530 : decode cL_law 530 = .ok (.iload_n 3, 1) := by decide +kernel
theorem dL_law_531 : decode cL_law 531 = .ok (.iconst 1, 1) := by decide +kernel
theorem dL_law_532 : decode cL_law 532 = .ok (.iadd, 1) := by decide +kernel
theorem dL_law_533 : decode cL_law 533 = .ok (.iaload, 1) := by decide +kernel
theorem dL_law_534 : decode cL_law 534 = .ok (.aload_n 0, 1) := by decide +kernel
theorem dL_law_535 : decode cL_law 535 = .ok (.iload_n 3, 1) := by decide +kernel
theorem dL_law_536 : decode cL_law 536 = .ok (.iconst 2, 1) := by decide +kernel
theorem dL_law_537 : decode cL_law 537 = .ok (.iadd, 1) := by decide +kernel
theorem dL_law_538 : decode cL_law 538 = .ok (.iaload, 1) := by decide +kernel
theorem dL_law_539 : decode cL_law 539 = .ok (.invokevirtual 53, 3) := by decide +kernel
theorem dL_law_542 : decode cL_law 542 = .ok (.if_icmp .eq 600, 3) := by decide +kernel
theorem dL_law_545 : decode cL_law 545 = .ok (.iconst 0, 1) := by decide +kernel
theorem dL_law_546 : decode cL_law 546 = .ok (.ireturn, 1) := by decide +kernel
theorem dL_law_547 : decode cL_law 547 = .ok (.aload_n 1, 1) := by decide +kernel
theorem dL_law_548 : decode cL_law 548 = .ok (.aload_n 0, 1) := by decide +kernel
theorem dL_law_549 : decode cL_law 549 = .ok (.iload_n 3, 1) := by decide +kernel
theorem dL_law_550 : decode cL_law 550 = .ok (.iconst 1, 1) := by decide +kernel
theorem dL_law_551 : decode cL_law 551 = .ok (.iadd, 1) := by decide +kernel
theorem dL_law_552 : decode cL_law 552 = .ok (.iaload, 1) := by decide +kernel
theorem dL_law_553 : decode cL_law 553 = .ok (.aload_n 0, 1) := by decide +kernel
theorem dL_law_554 : decode cL_law 554 = .ok (.iload_n 3, 1) := by decide +kernel
theorem dL_law_555 : decode cL_law 555 = .ok (.iconst 2, 1) := by decide +kernel
theorem dL_law_556 : decode cL_law 556 = .ok (.iadd, 1) := by decide +kernel
theorem dL_law_557 : decode cL_law 557 = .ok (.iaload, 1) := by decide +kernel
theorem dL_law_558 : decode cL_law 558 = .ok (.aload_n 0, 1) := by decide +kernel
theorem dL_law_559 : decode cL_law 559 = .ok (.iload_n 3, 1) := by decide +kernel
theorem dL_law_560 : decode cL_law 560 = .ok (.iconst 3, 1) := by decide +kernel
theorem dL_law_561 : decode cL_law 561 = .ok (.iadd, 1) := by decide +kernel
theorem dL_law_562 : decode cL_law 562 = .ok (.iaload, 1) := by decide +kernel
theorem dL_law_563 : decode cL_law 563 = .ok (.invokevirtual 54, 3) := by decide +kernel
theorem dL_law_566 : decode cL_law 566 = .ok (.aload_n 2, 1) := by decide +kernel
theorem dL_law_567 : decode cL_law 567 = .ok (.aload_n 0, 1) := by decide +kernel
theorem dL_law_568 : decode cL_law 568 = .ok (.iload_n 3, 1) := by decide +kernel
theorem dL_law_569 : decode cL_law 569 = .ok (.iconst 1, 1) := by decide +kernel
theorem dL_law_570 : decode cL_law 570 = .ok (.iadd, 1) := by decide +kernel
theorem dL_law_571 : decode cL_law 571 = .ok (.iaload, 1) := by decide +kernel
theorem dL_law_572 : decode cL_law 572 = .ok (.aload_n 0, 1) := by decide +kernel
theorem dL_law_573 : decode cL_law 573 = .ok (.iload_n 3, 1) := by decide +kernel
theorem dL_law_574 : decode cL_law 574 = .ok (.iconst 2, 1) := by decide +kernel
theorem dL_law_575 : decode cL_law 575 = .ok (.iadd, 1) := by decide +kernel
theorem dL_law_576 : decode cL_law 576 = .ok (.iaload, 1) := by decide +kernel
theorem dL_law_577 : decode cL_law 577 = .ok (.aload_n 0, 1) := by decide +kernel
theorem dL_law_578 : decode cL_law 578 = .ok (.iload_n 3, 1) := by decide +kernel
theorem dL_law_579 : decode cL_law 579 = .ok (.iconst 3, 1) := by decide +kernel
theorem dL_law_580 : decode cL_law 580 = .ok (.iadd, 1) := by decide +kernel
theorem dL_law_581 : decode cL_law 581 = .ok (.iaload, 1) := by decide +kernel
theorem dL_law_582 : decode cL_law 582 = .ok (.invokevirtual 57, 3) := by decide +kernel
theorem dL_law_585 : decode cL_law 585 = .ok (.if_icmp .eq 557, 3) := by decide +kernel
theorem dL_law_588 : decode cL_law 588 = .ok (.iconst 0, 1) := by decide +kernel
theorem dL_law_589 : decode cL_law 589 = .ok (.ireturn, 1) := by decide +kernel
theorem dL_law_590 : decode cL_law 590 = .ok (.aload_n 1, 1) := by decide +kernel
theorem dL_law_591 : decode cL_law 591 = .ok (.aload_n 0, 1) := by decide +kernel
theorem dL_law_592 : decode cL_law 592 = .ok (.iload_n 3, 1) := by decide +kernel
theorem dL_law_593 : decode cL_law 593 = .ok (.iconst 1, 1) := by decide +kernel
theorem dL_law_594 : decode cL_law 594 = .ok (.iadd, 1) := by decide +kernel
theorem dL_law_595 : decode cL_law 595 = .ok (.iaload, 1) := by decide +kernel
theorem dL_law_596 : decode cL_law 596 = .ok (.aload_n 0, 1) := by decide +kernel
theorem dL_law_597 : decode cL_law 597 = .ok (.iload_n 3, 1) := by decide +kernel
theorem dL_law_598 : decode cL_law 598 = .ok (.iconst 2, 1) := by decide +kernel
theorem dL_law_599 : decode cL_law 599 = .ok (.iadd, 1) := by decide +kernel
theorem dL_law_600 : decode cL_law 600 = .ok (.iaload, 1) := by decide +kernel
theorem dL_law_601 : decode cL_law 601 = .ok (.aload_n 0, 1) := by decide +kernel
theorem dL_law_602 : decode cL_law 602 = .ok (.iload_n 3, 1) := by decide +kernel
theorem dL_law_603 : decode cL_law 603 = .ok (.iconst 3, 1) := by decide +kernel
theorem dL_law_604 : decode cL_law 604 = .ok (.iadd, 1) := by decide +kernel
theorem dL_law_605 : decode cL_law 605 = .ok (.iaload, 1) := by decide +kernel
theorem dL_law_606 : decode cL_law 606 = .ok (.invokevirtual 58, 3) := by decide +kernel
theorem dL_law_609 : decode cL_law 609 = .ok (.aload_n 2, 1) := by decide +kernel
theorem dL_law_610 : decode cL_law 610 = .ok (.aload_n 0, 1) := by decide +kernel
theorem dL_law_611 : decode cL_law 611 = .ok (.iload_n 3, 1) := by decide +kernel
theorem dL_law_612 : decode cL_law 612 = .ok (.iconst 1, 1) := by decide +kernel
theorem dL_law_613 : decode cL_law 613 = .ok (.iadd, 1) := by decide +kernel
theorem dL_law_614 : decode cL_law 614 = .ok (.iaload, 1) := by decide +kernel
theorem dL_law_615 : decode cL_law 615 = .ok (.aload_n 0, 1) := by decide +kernel
theorem dL_law_616 : decode cL_law 616 = .ok (.iload_n 3, 1) := by decide +kernel
theorem dL_law_617 : decode cL_law 617 = .ok (.iconst 2, 1) := by decide +kernel
theorem dL_law_618 : decode cL_law 618 = .ok (.iadd, 1) := by decide +kernel
theorem dL_law_619 : decode cL_law 619 = .ok (.iaload, 1) := by decide +kernel
theorem dL_law_620 : decode cL_law 620 = .ok (.aload_n 0, 1) := by decide +kernel
theorem dL_law_621 : decode cL_law 621 = .ok (.iload_n 3, 1) := by decide +kernel
theorem dL_law_622 : decode cL_law 622 = .ok (.iconst 3, 1) := by decide +kernel
theorem dL_law_623 : decode cL_law 623 = .ok (.iadd, 1) := by decide +kernel
theorem dL_law_624 : decode cL_law 624 = .ok (.iaload, 1) := by decide +kernel
theorem dL_law_625 : decode cL_law 625 = .ok (.invokevirtual 61, 3) := by decide +kernel
theorem dL_law_628 : decode cL_law 628 = .ok (.if_icmp .eq 514, 3) := by decide +kernel
theorem dL_law_631 : decode cL_law 631 = .ok (.iconst 0, 1) := by decide +kernel
theorem dL_law_632 : decode cL_law 632 = .ok (.ireturn, 1) := by decide +kernel
theorem dL_law_633 : decode cL_law 633 = .ok (.aload_n 1, 1) := by decide +kernel
theorem dL_law_634 : decode cL_law 634 = .ok (.invokevirtual 62, 3) := by decide +kernel
theorem dL_law_637 : decode cL_law 637 = .ok (.aload_n 2, 1) := by decide +kernel
theorem dL_law_638 : decode cL_law 638 = .ok (.invokevirtual 66, 3) := by decide +kernel
theorem dL_law_641 : decode cL_law 641 = .ok (.if_icmp .eq 501, 3) := by decide +kernel
theorem dL_law_644 : decode cL_law 644 = .ok (.iconst 0, 1) := by decide +kernel
theorem dL_law_645 : decode cL_law 645 = .ok (.ireturn, 1) := by decide +kernel
theorem dL_law_646 : decode cL_law 646 = .ok (.aload_n 1, 1) := by decide +kernel
theorem dL_law_647 : decode cL_law 647 = .ok (.invokevirtual 67, 3) := by decide +kernel
theorem dL_law_650 : decode cL_law 650 = .ok (.aload_n 2, 1) := by decide +kernel
theorem dL_law_651 : decode cL_law 651 = .ok (.invokevirtual 70, 3) := by decide +kernel
theorem dL_law_654 : decode cL_law 654 = .ok (.if_icmp .eq 488, 3) := by decide +kernel
theorem dL_law_657 : decode cL_law 657 = .ok (.iconst 0, 1) := by decide +kernel
theorem dL_law_658 : decode cL_law 658 = .ok (.ireturn, 1) := by decide +kernel
theorem dL_law_659 : decode cL_law 659 = .ok (.aload_n 1, 1) := by decide +kernel
theorem dL_law_660 : decode cL_law 660 = .ok (.aload_n 0, 1) := by decide +kernel
theorem dL_law_661 : decode cL_law 661 = .ok (.iload_n 3, 1) := by decide +kernel
theorem dL_law_662 : decode cL_law 662 = .ok (.iconst 1, 1) := by decide +kernel
theorem dL_law_663 : decode cL_law 663 = .ok (.iadd, 1) := by decide +kernel
theorem dL_law_664 : decode cL_law 664 = .ok (.iaload, 1) := by decide +kernel
theorem dL_law_665 : decode cL_law 665 = .ok (.aload_n 0, 1) := by decide +kernel
theorem dL_law_666 : decode cL_law 666 = .ok (.iload_n 3, 1) := by decide +kernel
theorem dL_law_667 : decode cL_law 667 = .ok (.iconst 2, 1) := by decide +kernel
theorem dL_law_668 : decode cL_law 668 = .ok (.iadd, 1) := by decide +kernel
theorem dL_law_669 : decode cL_law 669 = .ok (.iaload, 1) := by decide +kernel
theorem dL_law_670 : decode cL_law 670 = .ok (.invokevirtual 71, 3) := by decide +kernel
theorem dL_law_673 : decode cL_law 673 = .ok (.aload_n 2, 1) := by decide +kernel
theorem dL_law_674 : decode cL_law 674 = .ok (.aload_n 0, 1) := by decide +kernel
theorem dL_law_675 : decode cL_law 675 = .ok (.iload_n 3, 1) := by decide +kernel
theorem dL_law_676 : decode cL_law 676 = .ok (.iconst 1, 1) := by decide +kernel
theorem dL_law_677 : decode cL_law 677 = .ok (.iadd, 1) := by decide +kernel
theorem dL_law_678 : decode cL_law 678 = .ok (.iaload, 1) := by decide +kernel
theorem dL_law_679 : decode cL_law 679 = .ok (.aload_n 0, 1) := by decide +kernel
theorem dL_law_680 : decode cL_law 680 = .ok (.iload_n 3, 1) := by decide +kernel
theorem dL_law_681 : decode cL_law 681 = .ok (.iconst 2, 1) := by decide +kernel
theorem dL_law_682 : decode cL_law 682 = .ok (.iadd, 1) := by decide +kernel
theorem dL_law_683 : decode cL_law 683 = .ok (.iaload, 1) := by decide +kernel
theorem dL_law_684 : decode cL_law 684 = .ok (.invokevirtual 74, 3) := by decide +kernel
theorem dL_law_687 : decode cL_law 687 = .ok (.if_icmp .eq 455, 3) := by decide +kernel
theorem dL_law_690 : decode cL_law 690 = .ok (.iconst 0, 1) := by decide +kernel
theorem dL_law_691 : decode cL_law 691 = .ok (.ireturn, 1) := by decide +kernel
theorem dL_law_692 : decode cL_law 692 = .ok (.aload_n 1, 1) := by decide +kernel
theorem dL_law_693 : decode cL_law 693 = .ok (.aload_n 0, 1) := by decide +kernel
theorem dL_law_694 : decode cL_law 694 = .ok (.iload_n 3, 1) := by decide +kernel
theorem dL_law_695 : decode cL_law 695 = .ok (.iconst 1, 1) := by decide +kernel
theorem dL_law_696 : decode cL_law 696 = .ok (.iadd, 1) := by decide +kernel
theorem dL_law_697 : decode cL_law 697 = .ok (.iaload, 1) := by decide +kernel
theorem dL_law_698 : decode cL_law 698 = .ok (.aload_n 0, 1) := by decide +kernel
theorem dL_law_699 : decode cL_law 699 = .ok (.iload_n 3, 1) := by decide +kernel
theorem dL_law_700 : decode cL_law 700 = .ok (.iconst 2, 1) := by decide +kernel
theorem dL_law_701 : decode cL_law 701 = .ok (.iadd, 1) := by decide +kernel
theorem dL_law_702 : decode cL_law 702 = .ok (.iaload, 1) := by decide +kernel
theorem dL_law_703 : decode cL_law 703 = .ok (.invokevirtual 75, 3) := by decide +kernel
theorem dL_law_706 : decode cL_law 706 = .ok (.aload_n 2, 1) := by decide +kernel
theorem dL_law_707 : decode cL_law 707 = .ok (.aload_n 0, 1) := by decide +kernel
theorem dL_law_708 : decode cL_law 708 = .ok (.iload_n 3, 1) := by decide +kernel
theorem dL_law_709 : decode cL_law 709 = .ok (.iconst 1, 1) := by decide +kernel
theorem dL_law_710 : decode cL_law 710 = .ok (.iadd, 1) := by decide +kernel
theorem dL_law_711 : decode cL_law 711 = .ok (.iaload, 1) := by decide +kernel
theorem dL_law_712 : decode cL_law 712 = .ok (.aload_n 0, 1) := by decide +kernel
theorem dL_law_713 : decode cL_law 713 = .ok (.iload_n 3, 1) := by decide +kernel
theorem dL_law_714 : decode cL_law 714 = .ok (.iconst 2, 1) := by decide +kernel
theorem dL_law_715 : decode cL_law 715 = .ok (.iadd, 1) := by decide +kernel
theorem dL_law_716 : decode cL_law 716 = .ok (.iaload, 1) := by decide +kernel
theorem dL_law_717 : decode cL_law 717 = .ok (.invokevirtual 78, 3) := by decide +kernel
theorem dL_law_720 : decode cL_law 720 = .ok (.if_icmp .eq 422, 3) := by decide +kernel
theorem dL_law_723 : decode cL_law 723 = .ok (.iconst 0, 1) := by decide +kernel
theorem dL_law_724 : decode cL_law 724 = .ok (.ireturn, 1) := by decide +kernel
theorem dL_law_725 : decode cL_law 725 = .ok (.aload_n 1, 1) := by decide +kernel
theorem dL_law_726 : decode cL_law 726 = .ok (.aload_n 0, 1) := by decide +kernel
theorem dL_law_727 : decode cL_law 727 = .ok (.iload_n 3, 1) := by decide +kernel
theorem dL_law_728 : decode cL_law 728 = .ok (.iconst 1, 1) := by decide +kernel
theorem dL_law_729 : decode cL_law 729 = .ok (.iadd, 1) := by decide +kernel
theorem dL_law_730 : decode cL_law 730 = .ok (.iaload, 1) := by decide +kernel
theorem dL_law_731 : decode cL_law 731 = .ok (.aload_n 0, 1) := by decide +kernel
theorem dL_law_732 : decode cL_law 732 = .ok (.iload_n 3, 1) := by decide +kernel
theorem dL_law_733 : decode cL_law 733 = .ok (.iconst 2, 1) := by decide +kernel
theorem dL_law_734 : decode cL_law 734 = .ok (.iadd, 1) := by decide +kernel
theorem dL_law_735 : decode cL_law 735 = .ok (.iaload, 1) := by decide +kernel
theorem dL_law_736 : decode cL_law 736 = .ok (.invokevirtual 79, 3) := by decide +kernel
theorem dL_law_739 : decode cL_law 739 = .ok (.aload_n 2, 1) := by decide +kernel
theorem dL_law_740 : decode cL_law 740 = .ok (.aload_n 0, 1) := by decide +kernel
theorem dL_law_741 : decode cL_law 741 = .ok (.iload_n 3, 1) := by decide +kernel
theorem dL_law_742 : decode cL_law 742 = .ok (.iconst 1, 1) := by decide +kernel
theorem dL_law_743 : decode cL_law 743 = .ok (.iadd, 1) := by decide +kernel
theorem dL_law_744 : decode cL_law 744 = .ok (.iaload, 1) := by decide +kernel
theorem dL_law_745 : decode cL_law 745 = .ok (.aload_n 0, 1) := by decide +kernel
theorem dL_law_746 : decode cL_law 746 = .ok (.iload_n 3, 1) := by decide +kernel
theorem dL_law_747 : decode cL_law 747 = .ok (.iconst 2, 1) := by decide +kernel
theorem dL_law_748 : decode cL_law 748 = .ok (.iadd, 1) := by decide +kernel
theorem dL_law_749 : decode cL_law 749 = .ok (.iaload, 1) := by decide +kernel
theorem dL_law_750 : decode cL_law 750 = .ok (.invokevirtual 82, 3) := by decide +kernel
theorem dL_law_753 : decode cL_law 753 = .ok (.if_icmp .eq 389, 3) := by decide +kernel
theorem dL_law_756 : decode cL_law 756 = .ok (.iconst 0, 1) := by decide +kernel
theorem dL_law_757 : decode cL_law 757 = .ok (.ireturn, 1) := by decide +kernel
theorem dL_law_758 : decode cL_law 758 = .ok (.aload_n 1, 1) := by decide +kernel
theorem dL_law_759 : decode cL_law 759 = .ok (.aload_n 0, 1) := by decide +kernel
theorem dL_law_760 : decode cL_law 760 = .ok (.iload_n 3, 1) := by decide +kernel
theorem dL_law_761 : decode cL_law 761 = .ok (.iconst 1, 1) := by decide +kernel
theorem dL_law_762 : decode cL_law 762 = .ok (.iadd, 1) := by decide +kernel
theorem dL_law_763 : decode cL_law 763 = .ok (.iaload, 1) := by decide +kernel
theorem dL_law_764 : decode cL_law 764 = .ok (.aload_n 0, 1) := by decide +kernel
theorem dL_law_765 : decode cL_law 765 = .ok (.iload_n 3, 1) := by decide +kernel
theorem dL_law_766 : decode cL_law 766 = .ok (.iconst 2, 1) := by decide +kernel
theorem dL_law_767 : decode cL_law 767 = .ok (.iadd, 1) := by decide +kernel
theorem dL_law_768 : decode cL_law 768 = .ok (.iaload, 1) := by decide +kernel
theorem dL_law_769 : decode cL_law 769 = .ok (.invokevirtual 83, 3) := by decide +kernel
theorem dL_law_772 : decode cL_law 772 = .ok (.aload_n 2, 1) := by decide +kernel
theorem dL_law_773 : decode cL_law 773 = .ok (.aload_n 0, 1) := by decide +kernel
theorem dL_law_774 : decode cL_law 774 = .ok (.iload_n 3, 1) := by decide +kernel
theorem dL_law_775 : decode cL_law 775 = .ok (.iconst 1, 1) := by decide +kernel
theorem dL_law_776 : decode cL_law 776 = .ok (.iadd, 1) := by decide +kernel
theorem dL_law_777 : decode cL_law 777 = .ok (.iaload, 1) := by decide +kernel
theorem dL_law_778 : decode cL_law 778 = .ok (.aload_n 0, 1) := by decide +kernel
theorem dL_law_779 : decode cL_law 779 = .ok (.iload_n 3, 1) := by decide +kernel
theorem dL_law_780 : decode cL_law 780 = .ok (.iconst 2, 1) := by decide +kernel
theorem dL_law_781 : decode cL_law 781 = .ok (.iadd, 1) := by decide +kernel
theorem dL_law_782 : decode cL_law 782 = .ok (.iaload, 1) := by decide +kernel
theorem dL_law_783 : decode cL_law 783 = .ok (.invokevirtual 86, 3) := by decide +kernel
theorem dL_law_786 : decode cL_law 786 = .ok (.if_icmp .eq 356, 3) := by decide +kernel
theorem dL_law_789 : decode cL_law 789 = .ok (.iconst 0, 1) := by decide +kernel
theorem dL_law_790 : decode cL_law 790 = .ok (.ireturn, 1) := by decide +kernel
theorem dL_law_791 : decode cL_law 791 = .ok (.aload_n 1, 1) := by decide +kernel
theorem dL_law_792 : decode cL_law 792 = .ok (.aload_n 0, 1) := by decide +kernel
theorem dL_law_793 : decode cL_law 793 = .ok (.iload_n 3, 1) := by decide +kernel
theorem dL_law_794 : decode cL_law 794 = .ok (.iconst 1, 1) := by decide +kernel
theorem dL_law_795 : decode cL_law 795 = .ok (.iadd, 1) := by decide +kernel
theorem dL_law_796 : decode cL_law 796 = .ok (.iaload, 1) := by decide +kernel
theorem dL_law_797 : decode cL_law 797 = .ok (.aload_n 0, 1) := by decide +kernel
theorem dL_law_798 : decode cL_law 798 = .ok (.iload_n 3, 1) := by decide +kernel
theorem dL_law_799 : decode cL_law 799 = .ok (.iconst 2, 1) := by decide +kernel
theorem dL_law_800 : decode cL_law 800 = .ok (.iadd, 1) := by decide +kernel
theorem dL_law_801 : decode cL_law 801 = .ok (.iaload, 1) := by decide +kernel
theorem dL_law_802 : decode cL_law 802 = .ok (.invokevirtual 87, 3) := by decide +kernel
theorem dL_law_805 : decode cL_law 805 = .ok (.aload_n 2, 1) := by decide +kernel
theorem dL_law_806 : decode cL_law 806 = .ok (.aload_n 0, 1) := by decide +kernel
theorem dL_law_807 : decode cL_law 807 = .ok (.iload_n 3, 1) := by decide +kernel
theorem dL_law_808 : decode cL_law 808 = .ok (.iconst 1, 1) := by decide +kernel
theorem dL_law_809 : decode cL_law 809 = .ok (.iadd, 1) := by decide +kernel
theorem dL_law_810 : decode cL_law 810 = .ok (.iaload, 1) := by decide +kernel
theorem dL_law_811 : decode cL_law 811 = .ok (.aload_n 0, 1) := by decide +kernel
theorem dL_law_812 : decode cL_law 812 = .ok (.iload_n 3, 1) := by decide +kernel
theorem dL_law_813 : decode cL_law 813 = .ok (.iconst 2, 1) := by decide +kernel
theorem dL_law_814 : decode cL_law 814 = .ok (.iadd, 1) := by decide +kernel
theorem dL_law_815 : decode cL_law 815 = .ok (.iaload, 1) := by decide +kernel
theorem dL_law_816 : decode cL_law 816 = .ok (.invokevirtual 90, 3) := by decide +kernel
theorem dL_law_819 : decode cL_law 819 = .ok (.if_icmp .eq 323, 3) := by decide +kernel
theorem dL_law_822 : decode cL_law 822 = .ok (.iconst 0, 1) := by decide +kernel
theorem dL_law_823 : decode cL_law 823 = .ok (.ireturn, 1) := by decide +kernel
theorem dL_law_824 : decode cL_law 824 = .ok (.aload_n 1, 1) := by decide +kernel
theorem dL_law_825 : decode cL_law 825 = .ok (.aload_n 0, 1) := by decide +kernel
theorem dL_law_826 : decode cL_law 826 = .ok (.iload_n 3, 1) := by decide +kernel
theorem dL_law_827 : decode cL_law 827 = .ok (.iconst 1, 1) := by decide +kernel
theorem dL_law_828 : decode cL_law 828 = .ok (.iadd, 1) := by decide +kernel
theorem dL_law_829 : decode cL_law 829 = .ok (.iaload, 1) := by decide +kernel
theorem dL_law_830 : decode cL_law 830 = .ok (.aload_n 0, 1) := by decide +kernel
theorem dL_law_831 : decode cL_law 831 = .ok (.iload_n 3, 1) := by decide +kernel
theorem dL_law_832 : decode cL_law 832 = .ok (.iconst 2, 1) := by decide +kernel
theorem dL_law_833 : decode cL_law 833 = .ok (.iadd, 1) := by decide +kernel
theorem dL_law_834 : decode cL_law 834 = .ok (.iaload, 1) := by decide +kernel
theorem dL_law_835 : decode cL_law 835 = .ok (.invokevirtual 91, 3) := by decide +kernel
theorem dL_law_838 : decode cL_law 838 = .ok (.aload_n 2, 1) := by decide +kernel
theorem dL_law_839 : decode cL_law 839 = .ok (.aload_n 0, 1) := by decide +kernel
theorem dL_law_840 : decode cL_law 840 = .ok (.iload_n 3, 1) := by decide +kernel
theorem dL_law_841 : decode cL_law 841 = .ok (.iconst 1, 1) := by decide +kernel
theorem dL_law_842 : decode cL_law 842 = .ok (.iadd, 1) := by decide +kernel
theorem dL_law_843 : decode cL_law 843 = .ok (.iaload, 1) := by decide +kernel
theorem dL_law_844 : decode cL_law 844 = .ok (.aload_n 0, 1) := by decide +kernel
theorem dL_law_845 : decode cL_law 845 = .ok (.iload_n 3, 1) := by decide +kernel
theorem dL_law_846 : decode cL_law 846 = .ok (.iconst 2, 1) := by decide +kernel
theorem dL_law_847 : decode cL_law 847 = .ok (.iadd, 1) := by decide +kernel
theorem dL_law_848 : decode cL_law 848 = .ok (.iaload, 1) := by decide +kernel
theorem dL_law_849 : decode cL_law 849 = .ok (.invokevirtual 94, 3) := by decide +kernel
theorem dL_law_852 : decode cL_law 852 = .ok (.if_icmp .eq 290, 3) := by decide +kernel
theorem dL_law_855 : decode cL_law 855 = .ok (.iconst 0, 1) := by decide +kernel
theorem dL_law_856 : decode cL_law 856 = .ok (.ireturn, 1) := by decide +kernel
theorem dL_law_857 : decode cL_law 857 = .ok (.aload_n 1, 1) := by decide +kernel
theorem dL_law_858 : decode cL_law 858 = .ok (.aload_n 0, 1) := by decide +kernel
theorem dL_law_859 : decode cL_law 859 = .ok (.iload_n 3, 1) := by decide +kernel
theorem dL_law_860 : decode cL_law 860 = .ok (.iconst 1, 1) := by decide +kernel
theorem dL_law_861 : decode cL_law 861 = .ok (.iadd, 1) := by decide +kernel
theorem dL_law_862 : decode cL_law 862 = .ok (.iaload, 1) := by decide +kernel
theorem dL_law_863 : decode cL_law 863 = .ok (.invokevirtual 95, 3) := by decide +kernel
theorem dL_law_866 : decode cL_law 866 = .ok (.aload_n 2, 1) := by decide +kernel
theorem dL_law_867 : decode cL_law 867 = .ok (.aload_n 0, 1) := by decide +kernel
theorem dL_law_868 : decode cL_law 868 = .ok (.iload_n 3, 1) := by decide +kernel
theorem dL_law_869 : decode cL_law 869 = .ok (.iconst 1, 1) := by decide +kernel
theorem dL_law_870 : decode cL_law 870 = .ok (.iadd, 1) := by decide +kernel
theorem dL_law_871 : decode cL_law 871 = .ok (.iaload, 1) := by decide +kernel
theorem dL_law_872 : decode cL_law 872 = .ok (.invokevirtual 98, 3) := by decide +kernel
theorem dL_law_875 : decode cL_law 875 = .ok (.if_icmp .eq 267, 3) := by decide +kernel
theorem dL_law_878 : decode cL_law 878 = .ok (.iconst 0, 1) := by decide +kernel
theorem dL_law_879 : decode cL_law 879 = .ok (.ireturn, 1) := by decide +kernel
theorem dL_law_880 : decode cL_law 880 = .ok (.aload_n 1, 1) := by decide +kernel
theorem dL_law_881 : decode cL_law 881 = .ok (.aload_n 0, 1) := by decide +kernel
theorem dL_law_882 : decode cL_law 882 = .ok (.iload_n 3, 1) := by decide +kernel
theorem dL_law_883 : decode cL_law 883 = .ok (.iconst 1, 1) := by decide +kernel
theorem dL_law_884 : decode cL_law 884 = .ok (.iadd, 1) := by decide +kernel
theorem dL_law_885 : decode cL_law 885 = .ok (.iaload, 1) := by decide +kernel
theorem dL_law_886 : decode cL_law 886 = .ok (.aload_n 0, 1) := by decide +kernel
theorem dL_law_887 : decode cL_law 887 = .ok (.iload_n 3, 1) := by decide +kernel
theorem dL_law_888 : decode cL_law 888 = .ok (.iconst 2, 1) := by decide +kernel
theorem dL_law_889 : decode cL_law 889 = .ok (.iadd, 1) := by decide +kernel
theorem dL_law_890 : decode cL_law 890 = .ok (.iaload, 1) := by decide +kernel
theorem dL_law_891 : decode cL_law 891 = .ok (.aload_n 0, 1) := by decide +kernel
theorem dL_law_892 : decode cL_law 892 = .ok (.iload_n 3, 1) := by decide +kernel
theorem dL_law_893 : decode cL_law 893 = .ok (.iconst 3, 1) := by decide +kernel
theorem dL_law_894 : decode cL_law 894 = .ok (.iadd, 1) := by decide +kernel
theorem dL_law_895 : decode cL_law 895 = .ok (.iaload, 1) := by decide +kernel
theorem dL_law_896 : decode cL_law 896 = .ok (.ifCond .eq 7, 3) := by decide +kernel
theorem dL_law_899 : decode cL_law 899 = .ok (.iconst 1, 1) := by decide +kernel
theorem dL_law_900 : decode cL_law 900 = .ok (.goto 4, 3) := by decide +kernel
theorem dL_law_903 : decode cL_law 903 = .ok (.iconst 0, 1) := by decide +kernel
theorem dL_law_904 : decode cL_law 904 = .ok (.invokevirtual 99, 3) := by decide +kernel
theorem dL_law_907 : decode cL_law 907 = .ok (.aload_n 2, 1) := by decide +kernel
theorem dL_law_908 : decode cL_law 908 = .ok (.aload_n 0, 1) := by decide +kernel
theorem dL_law_909 : decode cL_law 909 = .ok (.iload_n 3, 1) := by decide +kernel
theorem dL_law_910 : decode cL_law 910 = .ok (.iconst 1, 1) := by decide +kernel
theorem dL_law_911 : decode cL_law 911 = .ok (.iadd, 1) := by decide +kernel
theorem dL_law_912 : decode cL_law 912 = .ok (.iaload, 1) := by decide +kernel
theorem dL_law_913 : decode cL_law 913 = .ok (.aload_n 0, 1) := by decide +kernel
theorem dL_law_914 : decode cL_law 914 = .ok (.iload_n 3, 1) := by decide +kernel
theorem dL_law_915 : decode cL_law 915 = .ok (.iconst 2, 1) := by decide +kernel
theorem dL_law_916 : decode cL_law 916 = .ok (.iadd, 1) := by decide +kernel
theorem dL_law_917 : decode cL_law 917 = .ok (.iaload, 1) := by decide +kernel
theorem dL_law_918 : decode cL_law 918 = .ok (.aload_n 0, 1) := by decide +kernel
theorem dL_law_919 : decode cL_law 919 = .ok (.iload_n 3, 1) := by decide +kernel
theorem dL_law_920 : decode cL_law 920 = .ok (.iconst 3, 1) := by decide +kernel
theorem dL_law_921 : decode cL_law 921 = .ok (.iadd, 1) := by decide +kernel
theorem dL_law_922 : decode cL_law 922 = .ok (.iaload, 1) := by decide +kernel
theorem dL_law_923 : decode cL_law 923 = .ok (.ifCond .eq 7, 3) := by decide +kernel
theorem dL_law_926 : decode cL_law 926 = .ok (.iconst 1, 1) := by decide +kernel
theorem dL_law_927 : decode cL_law 927 = .ok (.goto 4, 3) := by decide +kernel
theorem dL_law_930 : decode cL_law 930 = .ok (.iconst 0, 1) := by decide +kernel
theorem dL_law_931 : decode cL_law 931 = .ok (.invokevirtual 103, 3) := by decide +kernel
theorem dL_law_934 : decode cL_law 934 = .ok (.if_icmp .eq 208, 3) := by decide +kernel
theorem dL_law_937 : decode cL_law 937 = .ok (.iconst 0, 1) := by decide +kernel
theorem dL_law_938 : decode cL_law 938 = .ok (.ireturn, 1) := by decide +kernel
theorem dL_law_939 : decode cL_law 939 = .ok (.aload_n 1, 1) := by decide +kernel
theorem dL_law_940 : decode cL_law 940 = .ok (.aload_n 0, 1) := by decide +kernel
theorem dL_law_941 : decode cL_law 941 = .ok (.iload_n 3, 1) := by decide +kernel
theorem dL_law_942 : decode cL_law 942 = .ok (.iconst 1, 1) := by decide +kernel
theorem dL_law_943 : decode cL_law 943 = .ok (.iadd, 1) := by decide +kernel
theorem dL_law_944 : decode cL_law 944 = .ok (.iaload, 1) := by decide +kernel
theorem dL_law_945 : decode cL_law 945 = .ok (.invokevirtual 104, 3) := by decide +kernel
theorem dL_law_948 : decode cL_law 948 = .ok (.aload_n 2, 1) := by decide +kernel
theorem dL_law_949 : decode cL_law 949 = .ok (.aload_n 0, 1) := by decide +kernel
theorem dL_law_950 : decode cL_law 950 = .ok (.iload_n 3, 1) := by decide +kernel
theorem dL_law_951 : decode cL_law 951 = .ok (.iconst 1, 1) := by decide +kernel
theorem dL_law_952 : decode cL_law 952 = .ok (.iadd, 1) := by decide +kernel
theorem dL_law_953 : decode cL_law 953 = .ok (.iaload, 1) := by decide +kernel
theorem dL_law_954 : decode cL_law 954 = .ok (.invokevirtual 107, 3) := by decide +kernel
theorem dL_law_957 : decode cL_law 957 = .ok (.if_icmp .eq 185, 3) := by decide +kernel
theorem dL_law_960 : decode cL_law 960 = .ok (.iconst 0, 1) := by decide +kernel
theorem dL_law_961 : decode cL_law 961 = .ok (.ireturn, 1) := by decide +kernel
theorem dL_law_962 : decode cL_law 962 = .ok (.aload_n 1, 1) := by decide +kernel
theorem dL_law_963 : decode cL_law 963 = .ok (.aload_n 0, 1) := by decide +kernel
theorem dL_law_964 : decode cL_law 964 = .ok (.iload_n 3, 1) := by decide +kernel
theorem dL_law_965 : decode cL_law 965 = .ok (.iconst 1, 1) := by decide +kernel
theorem dL_law_966 : decode cL_law 966 = .ok (.iadd, 1) := by decide +kernel
theorem dL_law_967 : decode cL_law 967 = .ok (.iaload, 1) := by decide +kernel
theorem dL_law_968 : decode cL_law 968 = .ok (.aload_n 0, 1) := by decide +kernel
theorem dL_law_969 : decode cL_law 969 = .ok (.iload_n 3, 1) := by decide +kernel
theorem dL_law_970 : decode cL_law 970 = .ok (.iconst 2, 1) := by decide +kernel
theorem dL_law_971 : decode cL_law 971 = .ok (.iadd, 1) := by decide +kernel
theorem dL_law_972 : decode cL_law 972 = .ok (.iaload, 1) := by decide +kernel
theorem dL_law_973 : decode cL_law 973 = .ok (.invokevirtual 108, 3) := by decide +kernel
theorem dL_law_976 : decode cL_law 976 = .ok (.aload_n 2, 1) := by decide +kernel
theorem dL_law_977 : decode cL_law 977 = .ok (.aload_n 0, 1) := by decide +kernel
theorem dL_law_978 : decode cL_law 978 = .ok (.iload_n 3, 1) := by decide +kernel
theorem dL_law_979 : decode cL_law 979 = .ok (.iconst 1, 1) := by decide +kernel
theorem dL_law_980 : decode cL_law 980 = .ok (.iadd, 1) := by decide +kernel
theorem dL_law_981 : decode cL_law 981 = .ok (.iaload, 1) := by decide +kernel
theorem dL_law_982 : decode cL_law 982 = .ok (.aload_n 0, 1) := by decide +kernel
theorem dL_law_983 : decode cL_law 983 = .ok (.iload_n 3, 1) := by decide +kernel
theorem dL_law_984 : decode cL_law 984 = .ok (.iconst 2, 1) := by decide +kernel
theorem dL_law_985 : decode cL_law 985 = .ok (.iadd, 1) := by decide +kernel
theorem dL_law_986 : decode cL_law 986 = .ok (.iaload, 1) := by decide +kernel
theorem dL_law_987 : decode cL_law 987 = .ok (.invokevirtual 111, 3) := by decide +kernel
theorem dL_law_990 : decode cL_law 990 = .ok (.if_icmp .eq 152, 3) := by decide +kernel
theorem dL_law_993 : decode cL_law 993 = .ok (.iconst 0, 1) := by decide +kernel
theorem dL_law_994 : decode cL_law 994 = .ok (.ireturn, 1) := by decide +kernel
theorem dL_law_995 : decode cL_law 995 = .ok (.aload_n 1, 1) := by decide +kernel
theorem dL_law_996 : decode cL_law 996 = .ok (.aload_n 0, 1) := by decide +kernel
theorem dL_law_997 : decode cL_law 997 = .ok (.iload_n 3, 1) := by decide +kernel
theorem dL_law_998 : decode cL_law 998 = .ok (.iconst 1, 1) := by decide +kernel
theorem dL_law_999 : decode cL_law 999 = .ok (.iadd, 1) := by decide +kernel
theorem dL_law_1000 : decode cL_law 1000 = .ok (.iaload, 1) := by decide +kernel
theorem dL_law_1001 : decode cL_law 1001 = .ok (.aload_n 0, 1) := by decide +kernel
theorem dL_law_1002 : decode cL_law 1002 = .ok (.iload_n 3, 1) := by decide +kernel
theorem dL_law_1003 : decode cL_law 1003 = .ok (.iconst 2, 1) := by decide +kernel
theorem dL_law_1004 : decode cL_law 1004 = .ok (.iadd, 1) := by decide +kernel
theorem dL_law_1005 : decode cL_law 1005 = .ok (.iaload, 1) := by decide +kernel
theorem dL_law_1006 : decode cL_law 1006 = .ok (.invokevirtual 112, 3) := by decide +kernel
theorem dL_law_1009 : decode cL_law 1009 = .ok (.aload_n 2, 1) := by decide +kernel
theorem dL_law_1010 : decode cL_law 1010 = .ok (.aload_n 0, 1) := by decide +kernel
theorem dL_law_1011 : decode cL_law 1011 = .ok (.iload_n 3, 1) := by decide +kernel
theorem dL_law_1012 : decode cL_law 1012 = .ok (.iconst 1, 1) := by decide +kernel
theorem dL_law_1013 : decode cL_law 1013 = .ok (.iadd, 1) := by decide +kernel
theorem dL_law_1014 : decode cL_law 1014 = .ok (.iaload, 1) := by decide +kernel
theorem dL_law_1015 : decode cL_law 1015 = .ok (.aload_n 0, 1) := by decide +kernel
theorem dL_law_1016 : decode cL_law 1016 = .ok (.iload_n 3, 1) := by decide +kernel
theorem dL_law_1017 : decode cL_law 1017 = .ok (.iconst 2, 1) := by decide +kernel
theorem dL_law_1018 : decode cL_law 1018 = .ok (.iadd, 1) := by decide +kernel
theorem dL_law_1019 : decode cL_law 1019 = .ok (.iaload, 1) := by decide +kernel
theorem dL_law_1020 : decode cL_law 1020 = .ok (.invokevirtual 115, 3) := by decide +kernel
theorem dL_law_1023 : decode cL_law 1023 = .ok (.if_icmp .eq 119, 3) := by decide +kernel
theorem dL_law_1026 : decode cL_law 1026 = .ok (.iconst 0, 1) := by decide +kernel
theorem dL_law_1027 : decode cL_law 1027 = .ok (.ireturn, 1) := by decide +kernel
theorem dL_law_1028 : decode cL_law 1028 = .ok (.aload_n 1, 1) := by decide +kernel
theorem dL_law_1029 : decode cL_law 1029 = .ok (.aload_n 0, 1) := by decide +kernel
theorem dL_law_1030 : decode cL_law 1030 = .ok (.iload_n 3, 1) := by decide +kernel
theorem dL_law_1031 : decode cL_law 1031 = .ok (.iconst 1, 1) := by decide +kernel
theorem dL_law_1032 : decode cL_law 1032 = .ok (.iadd, 1) := by decide +kernel
theorem dL_law_1033 : decode cL_law 1033 = .ok (.iaload, 1) := by decide +kernel
theorem dL_law_1034 : decode cL_law 1034 = .ok (.aload_n 0, 1) := by decide +kernel
theorem dL_law_1035 : decode cL_law 1035 = .ok (.iload_n 3, 1) := by decide +kernel
theorem dL_law_1036 : decode cL_law 1036 = .ok (.iconst 2, 1) := by decide +kernel
theorem dL_law_1037 : decode cL_law 1037 = .ok (.iadd, 1) := by decide +kernel
theorem dL_law_1038 : decode cL_law 1038 = .ok (.iaload, 1) := by decide +kernel
theorem dL_law_1039 : decode cL_law 1039 = .ok (.aload_n 0, 1) := by decide +kernel
theorem dL_law_1040 : decode cL_law 1040 = .ok (.iload_n 3, 1) := by decide +kernel
theorem dL_law_1041 : decode cL_law 1041 = .ok (.iconst 3, 1) := by decide +kernel
theorem dL_law_1042 : decode cL_law 1042 = .ok (.iadd, 1) := by decide +kernel
theorem dL_law_1043 : decode cL_law 1043 = .ok (.iaload, 1) := by decide +kernel
theorem dL_law_1044 : decode cL_law 1044 = .ok (.invokevirtual 116, 3) := by decide +kernel
theorem dL_law_1047 : decode cL_law 1047 = .ok (.aload_n 2, 1) := by decide +kernel
theorem dL_law_1048 : decode cL_law 1048 = .ok (.aload_n 0, 1) := by decide +kernel
theorem dL_law_1049 : decode cL_law 1049 = .ok (.iload_n 3, 1) := by decide +kernel
theorem dL_law_1050 : decode cL_law 1050 = .ok (.iconst 1, 1) := by decide +kernel
theorem dL_law_1051 : decode cL_law 1051 = .ok (.iadd, 1) := by decide +kernel
theorem dL_law_1052 : decode cL_law 1052 = .ok (.iaload, 1) := by decide +kernel
theorem dL_law_1053 : decode cL_law 1053 = .ok (.aload_n 0, 1) := by decide +kernel
theorem dL_law_1054 : decode cL_law 1054 = .ok (.iload_n 3, 1) := by decide +kernel
theorem dL_law_1055 : decode cL_law 1055 = .ok (.iconst 2, 1) := by decide +kernel
theorem dL_law_1056 : decode cL_law 1056 = .ok (.iadd, 1) := by decide +kernel
theorem dL_law_1057 : decode cL_law 1057 = .ok (.iaload, 1) := by decide +kernel
theorem dL_law_1058 : decode cL_law 1058 = .ok (.aload_n 0, 1) := by decide +kernel
theorem dL_law_1059 : decode cL_law 1059 = .ok (.iload_n 3, 1) := by decide +kernel
theorem dL_law_1060 : decode cL_law 1060 = .ok (.iconst 3, 1) := by decide +kernel
theorem dL_law_1061 : decode cL_law 1061 = .ok (.iadd, 1) := by decide +kernel
theorem dL_law_1062 : decode cL_law 1062 = .ok (.iaload, 1) := by decide +kernel
theorem dL_law_1063 : decode cL_law 1063 = .ok (.invokevirtual 119, 3) := by decide +kernel
theorem dL_law_1066 : decode cL_law 1066 = .ok (.if_icmp .eq 76, 3) := by decide +kernel
theorem dL_law_1069 : decode cL_law 1069 = .ok (.iconst 0, 1) := by decide +kernel
theorem dL_law_1070 : decode cL_law 1070 = .ok (.ireturn, 1) := by decide +kernel
theorem dL_law_1071 : decode cL_law 1071 = .ok (.aload_n 1, 1) := by decide +kernel
theorem dL_law_1072 : decode cL_law 1072 = .ok (.aload_n 0, 1) := by decide +kernel
theorem dL_law_1073 : decode cL_law 1073 = .ok (.iload_n 3, 1) := by decide +kernel
theorem dL_law_1074 : decode cL_law 1074 = .ok (.iconst 1, 1) := by decide +kernel
theorem dL_law_1075 : decode cL_law 1075 = .ok (.iadd, 1) := by decide +kernel
theorem dL_law_1076 : decode cL_law 1076 = .ok (.iaload, 1) := by decide +kernel
theorem dL_law_1077 : decode cL_law 1077 = .ok (.aload_n 0, 1) := by decide +kernel
theorem dL_law_1078 : decode cL_law 1078 = .ok (.iload_n 3, 1) := by decide +kernel
theorem dL_law_1079 : decode cL_law 1079 = .ok (.iconst 2, 1) := by decide +kernel
theorem dL_law_1080 : decode cL_law 1080 = .ok (.iadd, 1) := by decide +kernel
theorem dL_law_1081 : decode cL_law 1081 = .ok (.iaload, 1) := by decide +kernel
theorem dL_law_1082 : decode cL_law 1082 = .ok (.invokevirtual 120, 3) := by decide +kernel
theorem dL_law_1085 : decode cL_law 1085 = .ok (.aload_n 2, 1) := by decide +kernel
theorem dL_law_1086 : decode cL_law 1086 = .ok (.aload_n 0, 1) := by decide +kernel
theorem dL_law_1087 : decode cL_law 1087 = .ok (.iload_n 3, 1) := by decide +kernel
theorem dL_law_1088 : decode cL_law 1088 = .ok (.iconst 1, 1) := by decide +kernel
theorem dL_law_1089 : decode cL_law 1089 = .ok (.iadd, 1) := by decide +kernel
theorem dL_law_1090 : decode cL_law 1090 = .ok (.iaload, 1) := by decide +kernel
theorem dL_law_1091 : decode cL_law 1091 = .ok (.aload_n 0, 1) := by decide +kernel
theorem dL_law_1092 : decode cL_law 1092 = .ok (.iload_n 3, 1) := by decide +kernel
theorem dL_law_1093 : decode cL_law 1093 = .ok (.iconst 2, 1) := by decide +kernel
theorem dL_law_1094 : decode cL_law 1094 = .ok (.iadd, 1) := by decide +kernel
theorem dL_law_1095 : decode cL_law 1095 = .ok (.iaload, 1) := by decide +kernel
theorem dL_law_1096 : decode cL_law 1096 = .ok (.invokevirtual 124, 3) := by decide +kernel
theorem dL_law_1099 : decode cL_law 1099 = .ok (.lcmp, 1) := by decide +kernel
theorem dL_law_1100 : decode cL_law 1100 = .ok (.ifCond .eq 42, 3) := by decide +kernel
theorem dL_law_1103 : decode cL_law 1103 = .ok (.iconst 0, 1) := by decide +kernel
theorem dL_law_1104 : decode cL_law 1104 = .ok (.ireturn, 1) := by decide +kernel
theorem dL_law_1105 : decode cL_law 1105 = .ok (.aload_n 1, 1) := by decide +kernel
theorem dL_law_1106 : decode cL_law 1106 = .ok (.aload_n 0, 1) := by decide +kernel
theorem dL_law_1107 : decode cL_law 1107 = .ok (.iload_n 3, 1) := by decide +kernel
theorem dL_law_1108 : decode cL_law 1108 = .ok (.iconst 1, 1) := by decide +kernel
theorem dL_law_1109 : decode cL_law 1109 = .ok (.iadd, 1) := by decide +kernel
theorem dL_law_1110 : decode cL_law 1110 = .ok (.iaload, 1) := by decide +kernel
theorem dL_law_1111 : decode cL_law 1111 = .ok (.invokevirtual 125, 3) := by decide +kernel
theorem dL_law_1114 : decode cL_law 1114 = .ok (.aload_n 2, 1) := by decide +kernel
theorem dL_law_1115 : decode cL_law 1115 = .ok (.aload_n 0, 1) := by decide +kernel
theorem dL_law_1116 : decode cL_law 1116 = .ok (.iload_n 3, 1) := by decide +kernel
theorem dL_law_1117 : decode cL_law 1117 = .ok (.iconst 1, 1) := by decide +kernel
theorem dL_law_1118 : decode cL_law 1118 = .ok (.iadd, 1) := by decide +kernel
theorem dL_law_1119 : decode cL_law 1119 = .ok (.iaload, 1) := by decide +kernel
theorem dL_law_1120 : decode cL_law 1120 = .ok (.invokevirtual 128, 3) := by decide +kernel
theorem dL_law_1123 : decode cL_law 1123 = .ok (.if_icmp .eq 19, 3) := by decide +kernel
theorem dL_law_1126 : decode cL_law 1126 = .ok (.iconst 0, 1) := by decide +kernel
theorem dL_law_1127 : decode cL_law 1127 = .ok (.ireturn, 1) := by decide +kernel
theorem dL_law_1128 : decode cL_law 1128 = .ok (.aload_n 1, 1) := by decide +kernel
theorem dL_law_1129 : decode cL_law 1129 = .ok (.invokevirtual 129, 3) := by decide +kernel
theorem dL_law_1132 : decode cL_law 1132 = .ok (.aload_n 2, 1) := by decide +kernel
theorem dL_law_1133 : decode cL_law 1133 = .ok (.invokevirtual 133, 3) := by decide +kernel
theorem dL_law_1136 : decode cL_law 1136 = .ok (.lcmp, 1) := by decide +kernel
theorem dL_law_1137 : decode cL_law 1137 = .ok (.ifCond .eq 5, 3) := by decide +kernel
theorem dL_law_1140 : decode cL_law 1140 = .ok (.iconst 0, 1) := by decide +kernel
theorem dL_law_1141 : decode cL_law 1141 = .ok (.ireturn, 1) := by decide +kernel
theorem dL_law_1142 : decode cL_law 1142 = .ok (.iinc 3 6, 3) := by decide +kernel
theorem dL_law_1145 : decode cL_law 1145 = .ok (.goto (-1127), 3) := by decide +kernel
theorem dL_law_1148 : decode cL_law 1148 = .ok (.iconst 1, 1) := by decide +kernel
theorem dL_law_1149 : decode cL_law 1149 = .ok (.ireturn, 1) := by decide +kernel
