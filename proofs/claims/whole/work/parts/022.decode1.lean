theorem dX4_findMeetings_18 : decode cX4_findMeetings 18 = .ok (.if_icmp .ne 9, 3) := by decide +kernel
theorem dX4_findMeetings_21 : decode cX4_findMeetings 21 = .ok (.iconst 1, 1) := by decide +kernel
theorem dX4_findMeetings_22 : decode cX4_findMeetings 22 = .ok (.iload_n 2, 1) := by decide +kernel
theorem dX4_findMeetings_23 : decode cX4_findMeetings 23 = .ok (.ishl, 1) := by decide +kernel
theorem dX4_findMeetings_24 : decode cX4_findMeetings 24 = .ok (.goto 4, 3) := by decide +kernel
theorem dX4_findMeetings_27 : decode cX4_findMeetings 27 = .ok (.iconst 0, 1) := by decide +kernel
theorem dX4_findMeetings_28 : decode cX4_findMeetings 28 = .ok (.ior, 1) := by decide +kernel
theorem dX4_findMeetings_29 : decode cX4_findMeetings 29 = .ok (.istore_n 1, 1) := by decide +kernel
theorem dX4_findMeetings_30 : decode cX4_findMeetings 30 = .ok (.iinc 2 1, 3) := by decide +kernel
theorem dX4_findMeetings_33 : decode cX4_findMeetings 33 = .ok (.goto (-29), 3) := by decide +kernel
theorem dX4_findMeetings_36 : decode cX4_findMeetings 36 = .ok (.aload_n 0, 1) := by decide +kernel
theorem dX4_findMeetings_37 : decode cX4_findMeetings 37 = .ok (.getfield 18, 3) := by decide +kernel
theorem dX4_findMeetings_40 : decode cX4_findMeetings 40 = .ok (.iload_n 1, 1) := by decide +kernel
theorem dX4_findMeetings_41 : decode cX4_findMeetings 41 = .ok (.invokestatic 54, 3) := by decide +kernel
theorem dX4_findMeetings_44 : decode cX4_findMeetings 44 = .ok (.iconst 1, 1) := by decide +kernel
theorem dX4_findMeetings_45 : decode cX4_findMeetings 45 = .ok (.istore_n 2, 1) := by decide +kernel
theorem dX4_findMeetings_46 : decode cX4_findMeetings 46 = .ok (.iconst 0, 1) := by decide +kernel
theorem dX4_findMeetings_47 : decode cX4_findMeetings 47 = .ok (.istore_n 3, 1) := by decide +kernel
theorem dX4_findMeetings_48 : decode cX4_findMeetings 48 = .ok (.iload_n 3, 1) := by decide +kernel
theorem dX4_findMeetings_49 : decode cX4_findMeetings 49 = .ok (.sipush 160, 3) := by decide +kernel
theorem dX4_findMeetings_52 : decode cX4_findMeetings 52 = .ok (.if_icmp .gt 18, 3) := by decide +kernel
theorem dX4_findMeetings_55 : decode cX4_findMeetings 55 = .ok (.iload_n 2, 1) := by decide +kernel
theorem dX4_findMeetings_56 : decode cX4_findMeetings 56 = .ok (.ifCond .eq 14, 3) := by decide +kernel
theorem dX4_findMeetings_59 : decode cX4_findMeetings 59 = .ok (.aload_n 0, 1) := by decide +kernel
theorem dX4_findMeetings_60 : decode cX4_findMeetings 60 = .ok (.invokevirtual 60, 3) := by decide +kernel
theorem dX4_findMeetings_63 : decode cX4_findMeetings 63 = .ok (.istore_n 2, 1) := by decide +kernel
theorem dX4_findMeetings_64 : decode cX4_findMeetings 64 = .ok (.iinc 3 1, 3) := by decide +kernel
theorem dX4_findMeetings_67 : decode cX4_findMeetings 67 = .ok (.goto (-19), 3) := by decide +kernel
theorem dX4_findMeetings_70 : decode cX4_findMeetings 70 = .ok (.return_, 1) := by decide +kernel
theorem dX4_growMeetings_0 : decode cX4_growMeetings 0 = .ok (.iconst 0, 1) := by decide +kernel
theorem dX4_growMeetings_1 : decode cX4_growMeetings 1 = .ok (.istore_n 1, 1) := by decide +kernel
theorem dX4_growMeetings_2 : decode cX4_growMeetings 2 = .ok (.iconst 4, 1) := by decide +kernel
theorem dX4_growMeetings_3 : decode cX4_growMeetings 3 = .ok (.istore_n 2, 1) := by decide +kernel
theorem dX4_growMeetings_4 : decode cX4_growMeetings 4 = .ok (.iload_n 2, 1) := by decide +kernel
theorem dX4_growMeetings_5 : decode cX4_growMeetings 5 = .ok (.ifCond .lt 110, 3) := by decide +kernel
theorem dX4_growMeetings_8 : decode cX4_growMeetings 8 = .ok (.aload_n 0, 1) := by decide +kernel
theorem dX4_growMeetings_9 : decode cX4_growMeetings 9 = .ok (.getfield 18, 3) := by decide +kernel
theorem dX4_growMeetings_12 : decode cX4_growMeetings 12 = .ok (.iload_n 2, 1) := by decide +kernel
theorem dX4_growMeetings_13 : decode cX4_growMeetings 13 = .ok (.iaload, 1) := by decide +kernel
theorem dX4_growMeetings_14 : decode cX4_growMeetings 14 = .ok (.istore_n 3, 1) := by decide +kernel
theorem dX4_growMeetings_15 : decode cX4_growMeetings 15 = .ok (.aload_n 0, 1) := by decide +kernel
theorem dX4_growMeetings_16 : decode cX4_growMeetings 16 = .ok (.getfield 18, 3) := by decide +kernel
theorem dX4_growMeetings_19 : decode cX4_growMeetings 19 = .ok (.iload_n 2, 1) := by decide +kernel
theorem dX4_growMeetings_20 : decode cX4_growMeetings 20 = .ok (.iconst 1, 1) := by decide +kernel
theorem dX4_growMeetings_21 : decode cX4_growMeetings 21 = .ok (.iadd, 1) := by decide +kernel
theorem dX4_growMeetings_22 : decode cX4_growMeetings 22 = .ok (.invokestatic 44, 3) := by decide +kernel
theorem dX4_growMeetings_25 : decode cX4_growMeetings 25 = .ok (.iaload, 1) := by decide +kernel
theorem dX4_growMeetings_26 : decode cX4_growMeetings 26 = .ok (.istore 4, 2) := by decide +kernel
theorem dX4_growMeetings_28 : decode cX4_growMeetings 28 = .ok (.iconst 1, 1) := by decide +kernel
theorem dX4_growMeetings_29 : decode cX4_growMeetings 29 = .ok (.istore 5, 2) := by decide +kernel
theorem dX4_growMeetings_31 : decode cX4_growMeetings 31 = .ok (.iload 5, 2) := by decide +kernel
theorem dX4_growMeetings_33 : decode cX4_growMeetings 33 = .ok (.aload_n 0, 1) := by decide +kernel
theorem dX4_growMeetings_34 : decode cX4_growMeetings 34 = .ok (.getfield 21, 3) := by decide +kernel
theorem dX4_growMeetings_37 : decode cX4_growMeetings 37 = .ok (.if_icmp .ge 54, 3) := by decide +kernel
theorem dX4_growMeetings_40 : decode cX4_growMeetings 40 = .ok (.iload 4, 2) := by decide +kernel
theorem dX4_growMeetings_42 : decode cX4_growMeetings 42 = .ok (.aload_n 0, 1) := by decide +kernel
theorem dX4_growMeetings_43 : decode cX4_growMeetings 43 = .ok (.iload_n 2, 1) := by decide +kernel
theorem dX4_growMeetings_44 : decode cX4_growMeetings 44 = .ok (.iconst 0, 1) := by decide +kernel
theorem dX4_growMeetings_45 : decode cX4_growMeetings 45 = .ok (.iload 5, 2) := by decide +kernel
theorem dX4_growMeetings_47 : decode cX4_growMeetings 47 = .ok (.invokevirtual 64, 3) := by decide +kernel
theorem dX4_growMeetings_50 : decode cX4_growMeetings 50 = .ok (.invokestatic 68, 3) := by decide +kernel
theorem dX4_growMeetings_53 : decode cX4_growMeetings 53 = .ok (.ifCond .ne 19, 3) := by decide +kernel
theorem dX4_growMeetings_56 : decode cX4_growMeetings 56 = .ok (.iload 4, 2) := by decide +kernel
theorem dX4_growMeetings_58 : decode cX4_growMeetings 58 = .ok (.aload_n 0, 1) := by decide +kernel
theorem dX4_growMeetings_59 : decode cX4_growMeetings 59 = .ok (.iload_n 2, 1) := by decide +kernel
theorem dX4_growMeetings_60 : decode cX4_growMeetings 60 = .ok (.iconst 1, 1) := by decide +kernel
theorem dX4_growMeetings_61 : decode cX4_growMeetings 61 = .ok (.iload 5, 2) := by decide +kernel
theorem dX4_growMeetings_63 : decode cX4_growMeetings 63 = .ok (.invokevirtual 64, 3) := by decide +kernel
theorem dX4_growMeetings_66 : decode cX4_growMeetings 66 = .ok (.invokestatic 68, 3) := by decide +kernel
theorem dX4_growMeetings_69 : decode cX4_growMeetings 69 = .ok (.ifCond .eq 16, 3) := by decide +kernel
theorem dX4_growMeetings_72 : decode cX4_growMeetings 72 = .ok (.aload_n 0, 1) := by decide +kernel
theorem dX4_growMeetings_73 : decode cX4_growMeetings 73 = .ok (.getfield 18, 3) := by decide +kernel
theorem dX4_growMeetings_76 : decode cX4_growMeetings 76 = .ok (.iload_n 2, 1) := by decide +kernel
theorem dX4_growMeetings_77 : decode cX4_growMeetings 77 = .ok (.dup2, 1) := by decide +kernel
theorem dX4_growMeetings_78 : decode cX4_growMeetings 78 = .ok (.iaload, 1) := by decide +kernel
theorem dX4_growMeetings_79 : decode cX4_growMeetings 79 = .ok (.iconst 1, 1) := by decide +kernel
theorem dX4_growMeetings_80 : decode cX4_growMeetings 80 = .ok (.iload 5, 2) := by decide +kernel
theorem dX4_growMeetings_82 : decode cX4_growMeetings 82 = .ok (.ishl, 1) := by decide +kernel
theorem dX4_growMeetings_83 : decode cX4_growMeetings 83 = .ok (.ior, 1) := by decide +kernel
theorem dX4_growMeetings_84 : decode cX4_growMeetings 84 = .ok (.iastore, 1) := by decide +kernel
theorem dX4_growMeetings_85 : decode cX4_growMeetings 85 = .ok (.iinc 5 1, 3) := by decide +kernel
theorem dX4_growMeetings_88 : decode cX4_growMeetings 88 = .ok (.goto (-57), 3) := by decide +kernel
theorem dX4_growMeetings_91 : decode cX4_growMeetings 91 = .ok (.iload_n 1, 1) := by decide +kernel
theorem dX4_growMeetings_92 : decode cX4_growMeetings 92 = .ok (.aload_n 0, 1) := by decide +kernel
theorem dX4_growMeetings_93 : decode cX4_growMeetings 93 = .ok (.getfield 18, 3) := by decide +kernel
theorem dX4_growMeetings_96 : decode cX4_growMeetings 96 = .ok (.iload_n 2, 1) := by decide +kernel
theorem dX4_growMeetings_97 : decode cX4_growMeetings 97 = .ok (.iaload, 1) := by decide +kernel
theorem dX4_growMeetings_98 : decode cX4_growMeetings 98 = .ok (.iload_n 3, 1) := by decide +kernel
theorem dX4_growMeetings_99 : decode cX4_growMeetings 99 = .ok (.if_icmp .eq 7, 3) := by decide +kernel
theorem dX4_growMeetings_102 : decode cX4_growMeetings 102 = .ok (.iconst 1, 1) := by decide +kernel
theorem dX4_growMeetings_103 : decode cX4_growMeetings 103 = .ok (.goto 4, 3) := by decide +kernel
theorem dX4_growMeetings_106 : decode cX4_growMeetings 106 = .ok (.iconst 0, 1) := by decide +kernel
theorem dX4_growMeetings_107 : decode cX4_growMeetings 107 = .ok (.ior, 1) := by decide +kernel
theorem dX4_growMeetings_108 : decode cX4_growMeetings 108 = .ok (.istore_n 1, 1) := by decide +kernel
theorem dX4_growMeetings_109 : decode cX4_growMeetings 109 = .ok (.iinc 2 (-1), 3) := by decide +kernel
theorem dX4_growMeetings_112 : decode cX4_growMeetings 112 = .ok (.goto (-108), 3) := by decide +kernel
theorem dX4_growMeetings_115 : decode cX4_growMeetings 115 = .ok (.iload_n 1, 1) := by decide +kernel
theorem dX4_growMeetings_116 : decode cX4_growMeetings 116 = .ok (.ireturn, 1) := by decide +kernel
theorem dX4_canMeet_0 : decode cX4_canMeet 0 = .ok (.aload_n 0, 1) := by decide +kernel
theorem dX4_canMeet_1 : decode cX4_canMeet 1 = .ok (.getfield 18, 3) := by decide +kernel
theorem dX4_canMeet_4 : decode cX4_canMeet 4 = .ok (.iconst 0, 1) := by decide +kernel
theorem dX4_canMeet_5 : decode cX4_canMeet 5 = .ok (.iaload, 1) := by decide +kernel
theorem dX4_canMeet_6 : decode cX4_canMeet 6 = .ok (.iconst 1, 1) := by decide +kernel
theorem dX4_canMeet_7 : decode cX4_canMeet 7 = .ok (.iload_n 1, 1) := by decide +kernel
theorem dX4_canMeet_8 : decode cX4_canMeet 8 = .ok (.ishl, 1) := by decide +kernel
theorem dX4_canMeet_9 : decode cX4_canMeet 9 = .ok (.iconst 1, 1) := by decide +kernel
theorem dX4_canMeet_10 : decode cX4_canMeet 10 = .ok (.iload_n 2, 1) := by decide +kernel
theorem dX4_canMeet_11 : decode cX4_canMeet 11 = .ok (.ishl, 1) := by decide +kernel
theorem dX4_canMeet_12 : decode cX4_canMeet 12 = .ok (.ior, 1) := by decide +kernel
theorem dX4_canMeet_13 : decode cX4_canMeet 13 = .ok (.invokestatic 68, 3) := by decide +kernel
theorem dX4_canMeet_16 : decode cX4_canMeet 16 = .ok (.ireturn, 1) := by decide +kernel
theorem dX5_init_0 : decode cX5_init 0 = .ok (.aload_n 0, 1) := by decide +kernel
theorem dX5_init_1 : decode cX5_init 1 = .ok (.invokespecial 1, 3) := by decide +kernel
theorem dX5_init_4 : decode cX5_init 4 = .ok (.aload_n 0, 1) := by decide +kernel
theorem dX5_init_5 : decode cX5_init 5 = .ok (.iload_n 1, 1) := by decide +kernel
theorem dX5_init_6 : decode cX5_init 6 = .ok (.putfield 7, 3) := by decide +kernel
theorem dX5_init_9 : decode cX5_init 9 = .ok (.aload_n 0, 1) := by decide +kernel
theorem dX5_init_10 : decode cX5_init 10 = .ok (.iload_n 2, 1) := by decide +kernel
theorem dX5_init_11 : decode cX5_init 11 = .ok (.putfield 13, 3) := by decide +kernel
theorem dX5_init_14 : decode cX5_init 14 = .ok (.aload_n 0, 1) := by decide +kernel
theorem dX5_init_15 : decode cX5_init 15 = .ok (.iload_n 3, 1) := by decide +kernel
theorem dX5_init_16 : decode cX5_init 16 = .ok (.putfield 16, 3) := by decide +kernel
theorem dX5_init_19 : decode cX5_init 19 = .ok (.return_, 1) := by decide +kernel
theorem dX5_next_0 : decode cX5_next 0 = .ok (.aload_n 0, 1) := by decide +kernel
theorem dX5_next_1 : decode cX5_next 1 = .ok (.iload_n 1, 1) := by decide +kernel
theorem dX5_next_2 : decode cX5_next 2 = .ok (.iload_n 2, 1) := by decide +kernel
theorem dX5_next_3 : decode cX5_next 3 = .ok (.iload_n 3, 1) := by decide +kernel
theorem dX5_next_4 : decode cX5_next 4 = .ok (.iload 4, 2) := by decide +kernel
theorem dX5_next_6 : decode cX5_next 6 = .ok (.invokevirtual 19, 3) := by decide +kernel
theorem dX5_next_9 : decode cX5_next 9 = .ok (.ireturn, 1) := by decide +kernel
theorem dX5_byRows_0 : decode cX5_byRows 0 = .ok (.aload_n 0, 1) := by decide +kernel
theorem dX5_byRows_1 : decode cX5_byRows 1 = .ok (.iload_n 2, 1) := by decide +kernel
theorem dX5_byRows_2 : decode cX5_byRows 2 = .ok (.iload_n 3, 1) := by decide +kernel
theorem dX5_byRows_3 : decode cX5_byRows 3 = .ok (.invokevirtual 23, 3) := by decide +kernel
theorem dX5_byRows_6 : decode cX5_byRows 6 = .ok (.iconst 3, 1) := by decide +kernel
theorem dX5_byRows_7 : decode cX5_byRows 7 = .ok (.iload_n 1, 1) := by decide +kernel
theorem dX5_byRows_8 : decode cX5_byRows 8 = .ok (.imul, 1) := by decide +kernel
theorem dX5_byRows_9 : decode cX5_byRows 9 = .ok (.ishr, 1) := by decide +kernel
theorem dX5_byRows_10 : decode cX5_byRows 10 = .ok (.bipush 7, 2) := by decide +kernel
theorem dX5_byRows_12 : decode cX5_byRows 12 = .ok (.iand, 1) := by decide +kernel
theorem dX5_byRows_13 : decode cX5_byRows 13 = .ok (.istore 5, 2) := by decide +kernel
theorem dX5_byRows_15 : decode cX5_byRows 15 = .ok (.iload 4, 2) := by decide +kernel
theorem dX5_byRows_17 : decode cX5_byRows 17 = .ok (.iload 5, 2) := by decide +kernel
theorem dX5_byRows_19 : decode cX5_byRows 19 = .ok (.invokestatic 27, 3) := by decide +kernel
theorem dX5_byRows_22 : decode cX5_byRows 22 = .ok (.ifCond .eq 7, 3) := by decide +kernel
theorem dX5_byRows_25 : decode cX5_byRows 25 = .ok (.iload_n 1, 1) := by decide +kernel
theorem dX5_byRows_26 : decode cX5_byRows 26 = .ok (.goto 5, 3) := by decide +kernel
theorem dX5_byRows_29 : decode cX5_byRows 29 = .ok (.iload 5, 2) := by decide +kernel
theorem dX5_byRows_31 : decode cX5_byRows 31 = .ok (.ireturn, 1) := by decide +kernel
theorem dX5_rowFor_0 : decode cX5_rowFor 0 = .ok (.iload_n 1, 1) := by decide +kernel
theorem dX5_rowFor_1 : decode cX5_rowFor 1 = .ok (.ifCond .ne 10, 3) := by decide +kernel
theorem dX5_rowFor_4 : decode cX5_rowFor 4 = .ok (.aload_n 0, 1) := by decide +kernel
theorem dX5_rowFor_5 : decode cX5_rowFor 5 = .ok (.getfield 13, 3) := by decide +kernel
theorem dX5_rowFor_8 : decode cX5_rowFor 8 = .ok (.goto 7, 3) := by decide +kernel
theorem dX5_rowFor_11 : decode cX5_rowFor 11 = .ok (.aload_n 0, 1) := by decide +kernel
theorem dX5_rowFor_12 : decode cX5_rowFor 12 = .ok (.getfield 16, 3) := by decide +kernel
theorem dX5_rowFor_15 : decode cX5_rowFor 15 = .ok (.ireturn, 1) := by decide +kernel
theorem dX5_heedsOdd_0 : decode cX5_heedsOdd 0 = .ok (.iconst 0, 1) := by decide +kernel
theorem dX5_heedsOdd_1 : decode cX5_heedsOdd 1 = .ok (.ireturn, 1) := by decide +kernel
theorem dX5_behind_0 : decode cX5_behind 0 = .ok (.iload_n 1, 1) := by decide +kernel
theorem dX5_behind_1 : decode cX5_behind 1 = .ok (.istore 5, 2) := by decide +kernel
theorem dX5_behind_3 : decode cX5_behind 3 = .ok (.iconst 0, 1) := by decide +kernel
theorem dX5_behind_4 : decode cX5_behind 4 = .ok (.istore 6, 2) := by decide +kernel
theorem dX5_behind_6 : decode cX5_behind 6 = .ok (.iload 6, 2) := by decide +kernel
theorem dX5_behind_8 : decode cX5_behind 8 = .ok (.iload_n 3, 1) := by decide +kernel
theorem dX5_behind_9 : decode cX5_behind 9 = .ok (.if_icmp .ge 27, 3) := by decide +kernel
theorem dX5_behind_12 : decode cX5_behind 12 = .ok (.aload_n 0, 1) := by decide +kernel
theorem dX5_behind_13 : decode cX5_behind 13 = .ok (.iload 5, 2) := by decide +kernel
theorem dX5_behind_15 : decode cX5_behind 15 = .ok (.iload_n 2, 1) := by decide +kernel
theorem dX5_behind_16 : decode cX5_behind 16 = .ok (.iload 6, 2) := by decide +kernel
theorem dX5_behind_18 : decode cX5_behind 18 = .ok (.ishr, 1) := by decide +kernel
theorem dX5_behind_19 : decode cX5_behind 19 = .ok (.iconst 1, 1) := by decide +kernel
theorem dX5_behind_20 : decode cX5_behind 20 = .ok (.iand, 1) := by decide +kernel
theorem dX5_behind_21 : decode cX5_behind 21 = .ok (.iload 6, 2) := by decide +kernel
theorem dX5_behind_23 : decode cX5_behind 23 = .ok (.iload 4, 2) := by decide +kernel
theorem dX5_behind_25 : decode cX5_behind 25 = .ok (.invokevirtual 33, 3) := by decide +kernel
theorem dX5_behind_28 : decode cX5_behind 28 = .ok (.istore 5, 2) := by decide +kernel
theorem dX5_behind_30 : decode cX5_behind 30 = .ok (.iinc 6 1, 3) := by decide +kernel
theorem dX5_behind_33 : decode cX5_behind 33 = .ok (.goto (-27), 3) := by decide +kernel
theorem dX5_behind_36 : decode cX5_behind 36 = .ok (.iload 5, 2) := by decide +kernel
theorem dX5_behind_38 : decode cX5_behind 38 = .ok (.ireturn, 1) := by decide +kernel
theorem dX5_digested_0 : decode cX5_digested 0 = .ok (.aload_n 0, 1) := by decide +kernel
theorem dX5_digested_1 : decode cX5_digested 1 = .ok (.lload_n 1, 1) := by decide +kernel
theorem dX5_digested_2 : decode cX5_digested 2 = .ok (.invokevirtual 36, 3) := by decide +kernel
theorem dX5_digested_5 : decode cX5_digested 5 = .ok (.iconst 0, 1) := by decide +kernel
theorem dX5_digested_6 : decode cX5_digested 6 = .ok (.iconst 0, 1) := by decide +kernel
theorem dX5_digested_7 : decode cX5_digested 7 = .ok (.iconst 0, 1) := by decide +kernel
theorem dX5_digested_8 : decode cX5_digested 8 = .ok (.invokestatic 40, 3) := by decide +kernel
theorem dX5_digested_11 : decode cX5_digested 11 = .ok (.lreturn, 1) := by decide +kernel
theorem dX5_withRows_0 : decode cX5_withRows 0 = .ok (.ldc2_w 44, 3) := by decide +kernel
theorem dX5_withRows_3 : decode cX5_withRows 3 = .ok (.lload_n 1, 1) := by decide +kernel
theorem dX5_withRows_4 : decode cX5_withRows 4 = .ok (.lmul, 1) := by decide +kernel
theorem dX5_withRows_5 : decode cX5_withRows 5 = .ok (.aload_n 0, 1) := by decide +kernel
theorem dX5_withRows_6 : decode cX5_withRows 6 = .ok (.getfield 7, 3) := by decide +kernel
theorem dX5_withRows_9 : decode cX5_withRows 9 = .ok (.i2l, 1) := by decide +kernel
theorem dX5_withRows_10 : decode cX5_withRows 10 = .ok (.ladd, 1) := by decide +kernel
theorem dX5_withRows_11 : decode cX5_withRows 11 = .ok (.lstore_n 3, 1) := by decide +kernel
theorem dX5_withRows_12 : decode cX5_withRows 12 = .ok (.ldc2_w 44, 3) := by decide +kernel
theorem dX5_withRows_15 : decode cX5_withRows 15 = .ok (.lload_n 3, 1) := by decide +kernel
theorem dX5_withRows_16 : decode cX5_withRows 16 = .ok (.lmul, 1) := by decide +kernel
theorem dX5_withRows_17 : decode cX5_withRows 17 = .ok (.aload_n 0, 1) := by decide +kernel
theorem dX5_withRows_18 : decode cX5_withRows 18 = .ok (.getfield 13, 3) := by decide +kernel
theorem dX5_withRows_21 : decode cX5_withRows 21 = .ok (.i2l, 1) := by decide +kernel
theorem dX5_withRows_22 : decode cX5_withRows 22 = .ok (.ladd, 1) := by decide +kernel
theorem dX5_withRows_23 : decode cX5_withRows 23 = .ok (.lstore_n 3, 1) := by decide +kernel
theorem dX5_withRows_24 : decode cX5_withRows 24 = .ok (.ldc2_w 44, 3) := by decide +kernel
theorem dX5_withRows_27 : decode cX5_withRows 27 = .ok (.lload_n 3, 1) := by decide +kernel
theorem dX5_withRows_28 : decode cX5_withRows 28 = .ok (.lmul, 1) := by decide +kernel
theorem dX5_withRows_29 : decode cX5_withRows 29 = .ok (.aload_n 0, 1) := by decide +kernel
theorem dX5_withRows_30 : decode cX5_withRows 30 = .ok (.getfield 16, 3) := by decide +kernel
theorem dX5_withRows_33 : decode cX5_withRows 33 = .ok (.i2l, 1) := by decide +kernel
theorem dX5_withRows_34 : decode cX5_withRows 34 = .ok (.ladd, 1) := by decide +kernel
theorem dX5_withRows_35 : decode cX5_withRows 35 = .ok (.lreturn, 1) := by decide +kernel
theorem dX5_withLearnt_0 : decode cX5_withLearnt 0 = .ok (.ldc2_w 44, 3) := by decide +kernel
theorem dX5_withLearnt_3 : decode cX5_withLearnt 3 = .ok (.lload_n 0, 1) := by decide +kernel
theorem dX5_withLearnt_4 : decode cX5_withLearnt 4 = .ok (.lmul, 1) := by decide +kernel
theorem dX5_withLearnt_5 : decode cX5_withLearnt 5 = .ok (.iload_n 2, 1) := by decide +kernel
theorem dX5_withLearnt_6 : decode cX5_withLearnt 6 = .ok (.i2l, 1) := by decide +kernel
theorem dX5_withLearnt_7 : decode cX5_withLearnt 7 = .ok (.ladd, 1) := by decide +kernel
theorem dX5_withLearnt_8 : decode cX5_withLearnt 8 = .ok (.lstore 5, 2) := by decide +kernel
theorem dX5_withLearnt_10 : decode cX5_withLearnt 10 = .ok (.ldc2_w 44, 3) := by decide +kernel
theorem dX5_withLearnt_13 : decode cX5_withLearnt 13 = .ok (.lload 5, 2) := by decide +kernel
theorem dX5_withLearnt_15 : decode cX5_withLearnt 15 = .ok (.lmul, 1) := by decide +kernel
theorem dX5_withLearnt_16 : decode cX5_withLearnt 16 = .ok (.iload_n 3, 1) := by decide +kernel
theorem dX5_withLearnt_17 : decode cX5_withLearnt 17 = .ok (.i2l, 1) := by decide +kernel
theorem dX5_withLearnt_18 : decode cX5_withLearnt 18 = .ok (.ladd, 1) := by decide +kernel
theorem dX5_withLearnt_19 : decode cX5_withLearnt 19 = .ok (.lstore 5, 2) := by decide +kernel
theorem dX5_withLearnt_21 : decode cX5_withLearnt 21 = .ok (.ldc2_w 44, 3) := by decide +kernel
theorem dX5_withLearnt_24 : decode cX5_withLearnt 24 = .ok (.lload 5, 2) := by decide +kernel
theorem dX5_withLearnt_26 : decode cX5_withLearnt 26 = .ok (.lmul, 1) := by decide +kernel
theorem dX5_withLearnt_27 : decode cX5_withLearnt 27 = .ok (.iload 4, 2) := by decide +kernel
theorem dX5_withLearnt_29 : decode cX5_withLearnt 29 = .ok (.i2l, 1) := by decide +kernel
theorem dX5_withLearnt_30 : decode cX5_withLearnt 30 = .ok (.ladd, 1) := by decide +kernel
theorem dX5_withLearnt_31 : decode cX5_withLearnt 31 = .ok (.lreturn, 1) := by decide +kernel
theorem dX6_init_0 : decode cX6_init 0 = .ok (.aload_n 0, 1) := by decide +kernel
theorem dX6_init_1 : decode cX6_init 1 = .ok (.iload_n 1, 1) := by decide +kernel
theorem dX6_init_2 : decode cX6_init 2 = .ok (.iload_n 2, 1) := by decide +kernel
theorem dX6_init_3 : decode cX6_init 3 = .ok (.iload_n 3, 1) := by decide +kernel
theorem dX6_init_4 : decode cX6_init 4 = .ok (.invokespecial 1, 3) := by decide +kernel
theorem dX6_init_7 : decode cX6_init 7 = .ok (.aload_n 0, 1) := by decide +kernel
theorem dX6_init_8 : decode cX6_init 8 = .ok (.iload 4, 2) := by decide +kernel
theorem dX6_init_10 : decode cX6_init 10 = .ok (.putfield 7, 3) := by decide +kernel
theorem dX6_init_13 : decode cX6_init 13 = .ok (.aload_n 0, 1) := by decide +kernel
theorem dX6_init_14 : decode cX6_init 14 = .ok (.iload 5, 2) := by decide +kernel
theorem dX6_init_16 : decode cX6_init 16 = .ok (.putfield 13, 3) := by decide +kernel
theorem dX6_init_19 : decode cX6_init 19 = .ok (.aload_n 0, 1) := by decide +kernel
theorem dX6_init_20 : decode cX6_init 20 = .ok (.iload 6, 2) := by decide +kernel
theorem dX6_init_22 : decode cX6_init 22 = .ok (.putfield 16, 3) := by decide +kernel
theorem dX6_init_25 : decode cX6_init 25 = .ok (.return_, 1) := by decide +kernel
theorem dX6_rowFor_0 : decode cX6_rowFor 0 = .ok (.iload_n 2, 1) := by decide +kernel
theorem dX6_rowFor_1 : decode cX6_rowFor 1 = .ok (.aload_n 0, 1) := by decide +kernel
theorem dX6_rowFor_2 : decode cX6_rowFor 2 = .ok (.getfield 16, 3) := by decide +kernel
theorem dX6_rowFor_5 : decode cX6_rowFor 5 = .ok (.if_icmp .ge 19, 3) := by decide +kernel
theorem dX6_rowFor_8 : decode cX6_rowFor 8 = .ok (.iload_n 1, 1) := by decide +kernel
theorem dX6_rowFor_9 : decode cX6_rowFor 9 = .ok (.ifCond .ne 10, 3) := by decide +kernel
theorem dX6_rowFor_12 : decode cX6_rowFor 12 = .ok (.aload_n 0, 1) := by decide +kernel
theorem dX6_rowFor_13 : decode cX6_rowFor 13 = .ok (.getfield 19, 3) := by decide +kernel
theorem dX6_rowFor_16 : decode cX6_rowFor 16 = .ok (.goto 7, 3) := by decide +kernel
theorem dX6_rowFor_19 : decode cX6_rowFor 19 = .ok (.aload_n 0, 1) := by decide +kernel
theorem dX6_rowFor_20 : decode cX6_rowFor 20 = .ok (.getfield 22, 3) := by decide +kernel
theorem dX6_rowFor_23 : decode cX6_rowFor 23 = .ok (.ireturn, 1) := by decide +kernel
theorem dX6_rowFor_24 : decode cX6_rowFor 24 = .ok (.iload_n 1, 1) := by decide +kernel
theorem dX6_rowFor_25 : decode cX6_rowFor 25 = .ok (.ifCond .ne 10, 3) := by decide +kernel
theorem dX6_rowFor_28 : decode cX6_rowFor 28 = .ok (.aload_n 0, 1) := by decide +kernel
theorem dX6_rowFor_29 : decode cX6_rowFor 29 = .ok (.getfield 7, 3) := by decide +kernel
theorem dX6_rowFor_32 : decode cX6_rowFor 32 = .ok (.goto 7, 3) := by decide +kernel
theorem dX6_rowFor_35 : decode cX6_rowFor 35 = .ok (.aload_n 0, 1) := by decide +kernel
theorem dX6_rowFor_36 : decode cX6_rowFor 36 = .ok (.getfield 13, 3) := by decide +kernel
theorem dX6_rowFor_39 : decode cX6_rowFor 39 = .ok (.ireturn, 1) := by decide +kernel
theorem dX6_digested_0 : decode cX6_digested 0 = .ok (.aload_n 0, 1) := by decide +kernel
theorem dX6_digested_1 : decode cX6_digested 1 = .ok (.lload_n 1, 1) := by decide +kernel
theorem dX6_digested_2 : decode cX6_digested 2 = .ok (.invokevirtual 25, 3) := by decide +kernel
theorem dX6_digested_5 : decode cX6_digested 5 = .ok (.aload_n 0, 1) := by decide +kernel
theorem dX6_digested_6 : decode cX6_digested 6 = .ok (.getfield 7, 3) := by decide +kernel
theorem dX6_digested_9 : decode cX6_digested 9 = .ok (.aload_n 0, 1) := by decide +kernel
theorem dX6_digested_10 : decode cX6_digested 10 = .ok (.getfield 13, 3) := by decide +kernel
theorem dX6_digested_13 : decode cX6_digested 13 = .ok (.aload_n 0, 1) := by decide +kernel
theorem dX6_digested_14 : decode cX6_digested 14 = .ok (.getfield 16, 3) := by decide +kernel
theorem dX6_digested_17 : decode cX6_digested 17 = .ok (.invokestatic 29, 3) := by decide +kernel
theorem dX6_digested_20 : decode cX6_digested 20 = .ok (.lreturn, 1) := by decide +kernel
theorem dX7_init_0 : decode cX7_init 0 = .ok (.aload_n 0, 1) := by decide +kernel
theorem dX7_init_1 : decode cX7_init 1 = .ok (.invokespecial 3, 3) := by decide +kernel
theorem dX7_init_4 : decode cX7_init 4 = .ok (.aload_n 0, 1) := by decide +kernel
theorem dX7_init_5 : decode cX7_init 5 = .ok (.new 9, 3) := by decide +kernel
theorem dX7_init_8 : decode cX7_init 8 = .ok (.dup, 1) := by decide +kernel
theorem dX7_init_9 : decode cX7_init 9 = .ok (.invokespecial 11, 3) := by decide +kernel
theorem dX7_init_12 : decode cX7_init 12 = .ok (.putfield 12, 3) := by decide +kernel
theorem dX7_init_15 : decode cX7_init 15 = .ok (.aload_n 0, 1) := by decide +kernel
theorem dX7_init_16 : decode cX7_init 16 = .ok (.iconst (-1), 1) := by decide +kernel
theorem dX7_init_17 : decode cX7_init 17 = .ok (.putfield 18, 3) := by decide +kernel
theorem dX7_init_20 : decode cX7_init 20 = .ok (.aload_n 0, 1) := by decide +kernel
theorem dX7_init_21 : decode cX7_init 21 = .ok (.iconst 0, 1) := by decide +kernel
theorem dX7_init_22 : decode cX7_init 22 = .ok (.putfield 22, 3) := by decide +kernel
theorem dX7_init_25 : decode cX7_init 25 = .ok (.aload_n 0, 1) := by decide +kernel
theorem dX7_init_26 : decode cX7_init 26 = .ok (.iconst 0, 1) := by decide +kernel
theorem dX7_init_27 : decode cX7_init 27 = .ok (.putfield 25, 3) := by decide +kernel
theorem dX7_init_30 : decode cX7_init 30 = .ok (.aload_n 0, 1) := by decide +kernel
theorem dX7_init_31 : decode cX7_init 31 = .ok (.iconst 0, 1) := by decide +kernel
theorem dX7_init_32 : decode cX7_init 32 = .ok (.putfield 28, 3) := by decide +kernel
theorem dX7_init_35 : decode cX7_init 35 = .ok (.aload_n 0, 1) := by decide +kernel
theorem dX7_init_36 : decode cX7_init 36 = .ok (.aload_n 1, 1) := by decide +kernel
theorem dX7_init_37 : decode cX7_init 37 = .ok (.putfield 31, 3) := by decide +kernel
theorem dX7_init_40 : decode cX7_init 40 = .ok (.aload_n 0, 1) := by decide +kernel
theorem dX7_init_41 : decode cX7_init 41 = .ok (.iload_n 2, 1) := by decide +kernel
theorem dX7_init_42 : decode cX7_init 42 = .ok (.putfield 35, 3) := by decide +kernel
theorem dX7_init_45 : decode cX7_init 45 = .ok (.return_, 1) := by decide +kernel
theorem dX7_readHill_0 : decode cX7_readHill 0 = .ok (.aload_n 0, 1) := by decide +kernel
theorem dX7_readHill_1 : decode cX7_readHill 1 = .ok (.invokevirtual 38, 3) := by decide +kernel
theorem dX7_readHill_4 : decode cX7_readHill 4 = .ok (.aload_n 0, 1) := by decide +kernel
theorem dX7_readHill_5 : decode cX7_readHill 5 = .ok (.ldc 41, 2) := by decide +kernel
theorem dX7_readHill_7 : decode cX7_readHill 7 = .ok (.invokevirtual 43, 3) := by decide +kernel
theorem dX7_readHill_10 : decode cX7_readHill 10 = .ok (.ifCond .ne 8, 3) := by decide +kernel
theorem dX7_readHill_13 : decode cX7_readHill 13 = .ok (.aload_n 0, 1) := by decide +kernel
theorem dX7_readHill_14 : decode cX7_readHill 14 = .ok (.invokevirtual 47, 3) := by decide +kernel
theorem dX7_readHill_17 : decode cX7_readHill 17 = .ok (.return_, 1) := by decide +kernel
theorem dX7_readHill_18 : decode cX7_readHill 18 = .ok (.aload_n 0, 1) := by decide +kernel
theorem dX7_readHill_19 : decode cX7_readHill 19 = .ok (.invokevirtual 38, 3) := by decide +kernel
theorem dX7_readHill_22 : decode cX7_readHill 22 = .ok (.aload_n 0, 1) := by decide +kernel
theorem dX7_readHill_23 : decode cX7_readHill 23 = .ok (.iconst 2, 1) := by decide +kernel
theorem dX7_readHill_24 : decode cX7_readHill 24 = .ok (.iconst 5, 1) := by decide +kernel
theorem dX7_readHill_25 : decode cX7_readHill 25 = .ok (.invokevirtual 50, 3) := by decide +kernel
theorem dX7_readHill_28 : decode cX7_readHill 28 = .ok (.istore_n 1, 1) := by decide +kernel
theorem dX7_readHill_29 : decode cX7_readHill 29 = .ok (.aload_n 0, 1) := by decide +kernel
theorem dX7_readHill_30 : decode cX7_readHill 30 = .ok (.invokevirtual 54, 3) := by decide +kernel
theorem dX7_readHill_33 : decode cX7_readHill 33 = .ok (.aload_n 0, 1) := by decide +kernel
theorem dX7_readHill_34 : decode cX7_readHill 34 = .ok (.getfield 18, 3) := by decide +kernel
theorem dX7_readHill_37 : decode cX7_readHill 37 = .ok (.iconst (-1), 1) := by decide +kernel
theorem dX7_readHill_38 : decode cX7_readHill 38 = .ok (.if_icmp .eq 4, 3) := by decide +kernel
theorem dX7_readHill_41 : decode cX7_readHill 41 = .ok (.return_, 1) := by decide +kernel
theorem dX7_readHill_42 : decode cX7_readHill 42 = .ok (.aload_n 0, 1) := by decide +kernel
theorem dX7_readHill_43 : decode cX7_readHill 43 = .ok (.getfield 12, 3) := by decide +kernel
theorem dX7_readHill_46 : decode cX7_readHill 46 = .ok (.iload_n 1, 1) := by decide +kernel
theorem dX7_readHill_47 : decode cX7_readHill 47 = .ok (.invokevirtual 57, 3) := by decide +kernel
theorem dX7_readHill_50 : decode cX7_readHill 50 = .ok (.iconst 0, 1) := by decide +kernel
theorem dX7_readHill_51 : decode cX7_readHill 51 = .ok (.istore_n 2, 1) := by decide +kernel
theorem dX7_readHill_52 : decode cX7_readHill 52 = .ok (.iload_n 2, 1) := by decide +kernel
theorem dX7_readHill_53 : decode cX7_readHill 53 = .ok (.sipush 200, 3) := by decide +kernel
theorem dX7_readHill_56 : decode cX7_readHill 56 = .ok (.if_icmp .ge 28, 3) := by decide +kernel
theorem dX7_readHill_59 : decode cX7_readHill 59 = .ok (.aload_n 0, 1) := by decide +kernel
theorem dX7_readHill_60 : decode cX7_readHill 60 = .ok (.getfield 22, 3) := by decide +kernel
theorem dX7_readHill_63 : decode cX7_readHill 63 = .ok (.ifCond .eq 21, 3) := by decide +kernel
theorem dX7_readHill_66 : decode cX7_readHill 66 = .ok (.aload_n 0, 1) := by decide +kernel
theorem dX7_readHill_67 : decode cX7_readHill 67 = .ok (.getfield 18, 3) := by decide +kernel
theorem dX7_readHill_70 : decode cX7_readHill 70 = .ok (.iconst (-1), 1) := by decide +kernel
theorem dX7_readHill_71 : decode cX7_readHill 71 = .ok (.if_icmp .ne 13, 3) := by decide +kernel
theorem dX7_readHill_74 : decode cX7_readHill 74 = .ok (.aload_n 0, 1) := by decide +kernel
theorem dX7_readHill_75 : decode cX7_readHill 75 = .ok (.invokevirtual 61, 3) := by decide +kernel
theorem dX7_readHill_78 : decode cX7_readHill 78 = .ok (.iinc 2 1, 3) := by decide +kernel
theorem dX7_readHill_81 : decode cX7_readHill 81 = .ok (.goto (-29), 3) := by decide +kernel
theorem dX7_readHill_84 : decode cX7_readHill 84 = .ok (.return_, 1) := by decide +kernel
theorem dX7_readItem_0 : decode cX7_readItem 0 = .ok (.aload_n 0, 1) := by decide +kernel
theorem dX7_readItem_1 : decode cX7_readItem 1 = .ok (.ldc 64, 2) := by decide +kernel
theorem dX7_readItem_3 : decode cX7_readItem 3 = .ok (.invokevirtual 43, 3) := by decide +kernel
theorem dX7_readItem_6 : decode cX7_readItem 6 = .ok (.ifCond .eq 26, 3) := by decide +kernel
theorem dX7_readItem_9 : decode cX7_readItem 9 = .ok (.aload_n 0, 1) := by decide +kernel
theorem dX7_readItem_10 : decode cX7_readItem 10 = .ok (.invokevirtual 38, 3) := by decide +kernel
theorem dX7_readItem_13 : decode cX7_readItem 13 = .ok (.aload_n 0, 1) := by decide +kernel
theorem dX7_readItem_14 : decode cX7_readItem 14 = .ok (.getfield 12, 3) := by decide +kernel
theorem dX7_readItem_17 : decode cX7_readItem 17 = .ok (.dup, 1) := by decide +kernel
theorem dX7_readItem_18 : decode cX7_readItem 18 = .ok (.getfield 66, 3) := by decide +kernel
theorem dX7_readItem_21 : decode cX7_readItem 21 = .ok (.aload_n 0, 1) := by decide +kernel
theorem dX7_readItem_22 : decode cX7_readItem 22 = .ok (.invokevirtual 69, 3) := by decide +kernel
theorem dX7_readItem_25 : decode cX7_readItem 25 = .ok (.ior, 1) := by decide +kernel
theorem dX7_readItem_26 : decode cX7_readItem 26 = .ok (.putfield 66, 3) := by decide +kernel
theorem dX7_readItem_29 : decode cX7_readItem 29 = .ok (.goto 126, 3) := by decide +kernel
theorem dX7_readItem_32 : decode cX7_readItem 32 = .ok (.aload_n 0, 1) := by decide +kernel
theorem dX7_readItem_33 : decode cX7_readItem 33 = .ok (.ldc 73, 2) := by decide +kernel
theorem dX7_readItem_35 : decode cX7_readItem 35 = .ok (.invokevirtual 43, 3) := by decide +kernel
theorem dX7_readItem_38 : decode cX7_readItem 38 = .ok (.ifCond .eq 31, 3) := by decide +kernel
theorem dX7_readItem_41 : decode cX7_readItem 41 = .ok (.aload_n 0, 1) := by decide +kernel
theorem dX7_readItem_42 : decode cX7_readItem 42 = .ok (.invokevirtual 38, 3) := by decide +kernel
theorem dX7_readItem_45 : decode cX7_readItem 45 = .ok (.aload_n 0, 1) := by decide +kernel
theorem dX7_readItem_46 : decode cX7_readItem 46 = .ok (.getfield 12, 3) := by decide +kernel
theorem dX7_readItem_49 : decode cX7_readItem 49 = .ok (.aload_n 0, 1) := by decide +kernel
theorem dX7_readItem_50 : decode cX7_readItem 50 = .ok (.iconst 0, 1) := by decide +kernel
theorem dX7_readItem_51 : decode cX7_readItem 51 = .ok (.aload_n 0, 1) := by decide +kernel
theorem dX7_readItem_52 : decode cX7_readItem 52 = .ok (.getfield 12, 3) := by decide +kernel
theorem dX7_readItem_55 : decode cX7_readItem 55 = .ok (.getfield 75, 3) := by decide +kernel
theorem dX7_readItem_58 : decode cX7_readItem 58 = .ok (.iconst 1, 1) := by decide +kernel
theorem dX7_readItem_59 : decode cX7_readItem 59 = .ok (.isub, 1) := by decide +kernel
theorem dX7_readItem_60 : decode cX7_readItem 60 = .ok (.invokevirtual 50, 3) := by decide +kernel
theorem dX7_readItem_63 : decode cX7_readItem 63 = .ok (.putfield 78, 3) := by decide +kernel
theorem dX7_readItem_66 : decode cX7_readItem 66 = .ok (.goto 89, 3) := by decide +kernel
theorem dX7_readItem_69 : decode cX7_readItem 69 = .ok (.aload_n 0, 1) := by decide +kernel
theorem dX7_readItem_70 : decode cX7_readItem 70 = .ok (.ldc 80, 2) := by decide +kernel
theorem dX7_readItem_72 : decode cX7_readItem 72 = .ok (.invokevirtual 43, 3) := by decide +kernel
theorem dX7_readItem_75 : decode cX7_readItem 75 = .ok (.ifCond .eq 26, 3) := by decide +kernel
theorem dX7_readItem_78 : decode cX7_readItem 78 = .ok (.aload_n 0, 1) := by decide +kernel
theorem dX7_readItem_79 : decode cX7_readItem 79 = .ok (.invokevirtual 38, 3) := by decide +kernel
theorem dX7_readItem_82 : decode cX7_readItem 82 = .ok (.aload_n 0, 1) := by decide +kernel
theorem dX7_readItem_83 : decode cX7_readItem 83 = .ok (.getfield 12, 3) := by decide +kernel
theorem dX7_readItem_86 : decode cX7_readItem 86 = .ok (.dup, 1) := by decide +kernel
theorem dX7_readItem_87 : decode cX7_readItem 87 = .ok (.getfield 82, 3) := by decide +kernel
theorem dX7_readItem_90 : decode cX7_readItem 90 = .ok (.aload_n 0, 1) := by decide +kernel
theorem dX7_readItem_91 : decode cX7_readItem 91 = .ok (.invokevirtual 69, 3) := by decide +kernel
theorem dX7_readItem_94 : decode cX7_readItem 94 = .ok (.ior, 1) := by decide +kernel
theorem dX7_readItem_95 : decode cX7_readItem 95 = .ok (.putfield 82, 3) := by decide +kernel
theorem dX7_readItem_98 : decode cX7_readItem 98 = .ok (.goto 57, 3) := by decide +kernel
theorem dX7_readItem_101 : decode cX7_readItem 101 = .ok (.aload_n 0, 1) := by decide +kernel
theorem dX7_readItem_102 : decode cX7_readItem 102 = .ok (.ldc 85, 2) := by decide +kernel
theorem dX7_readItem_104 : decode cX7_readItem 104 = .ok (.invokevirtual 43, 3) := by decide +kernel
theorem dX7_readItem_107 : decode cX7_readItem 107 = .ok (.ifCond .eq 14, 3) := by decide +kernel
theorem dX7_readItem_110 : decode cX7_readItem 110 = .ok (.aload_n 0, 1) := by decide +kernel
theorem dX7_readItem_111 : decode cX7_readItem 111 = .ok (.invokevirtual 38, 3) := by decide +kernel
theorem dX7_readItem_114 : decode cX7_readItem 114 = .ok (.aload_n 0, 1) := by decide +kernel
theorem dX7_readItem_115 : decode cX7_readItem 115 = .ok (.invokevirtual 87, 3) := by decide +kernel
theorem dX7_readItem_118 : decode cX7_readItem 118 = .ok (.goto 37, 3) := by decide +kernel
theorem dX7_readItem_121 : decode cX7_readItem 121 = .ok (.aload_n 0, 1) := by decide +kernel
theorem dX7_readItem_122 : decode cX7_readItem 122 = .ok (.ldc 90, 2) := by decide +kernel
theorem dX7_readItem_124 : decode cX7_readItem 124 = .ok (.invokevirtual 43, 3) := by decide +kernel
theorem dX7_readItem_127 : decode cX7_readItem 127 = .ok (.ifCond .eq 24, 3) := by decide +kernel
theorem dX7_readItem_130 : decode cX7_readItem 130 = .ok (.aload_n 0, 1) := by decide +kernel
theorem dX7_readItem_131 : decode cX7_readItem 131 = .ok (.getfield 12, 3) := by decide +kernel
theorem dX7_readItem_134 : decode cX7_readItem 134 = .ok (.invokevirtual 92, 3) := by decide +kernel
theorem dX7_readItem_137 : decode cX7_readItem 137 = .ok (.ifCond .ne 14, 3) := by decide +kernel
theorem dX7_readItem_140 : decode cX7_readItem 140 = .ok (.aload_n 0, 1) := by decide +kernel
theorem dX7_readItem_141 : decode cX7_readItem 141 = .ok (.invokevirtual 38, 3) := by decide +kernel
theorem dX7_readItem_144 : decode cX7_readItem 144 = .ok (.aload_n 0, 1) := by decide +kernel
theorem dX7_readItem_145 : decode cX7_readItem 145 = .ok (.invokevirtual 96, 3) := by decide +kernel
theorem dX7_readItem_148 : decode cX7_readItem 148 = .ok (.goto 7, 3) := by decide +kernel
theorem dX7_readItem_151 : decode cX7_readItem 151 = .ok (.aload_n 0, 1) := by decide +kernel
theorem dX7_readItem_152 : decode cX7_readItem 152 = .ok (.invokevirtual 47, 3) := by decide +kernel
theorem dX7_readItem_155 : decode cX7_readItem 155 = .ok (.aload_n 0, 1) := by decide +kernel
theorem dX7_readItem_156 : decode cX7_readItem 156 = .ok (.invokevirtual 54, 3) := by decide +kernel
theorem dX7_readItem_159 : decode cX7_readItem 159 = .ok (.return_, 1) := by decide +kernel
theorem dX7_readBreath_0 : decode cX7_readBreath 0 = .ok (.aload_n 0, 1) := by decide +kernel
theorem dX7_readBreath_1 : decode cX7_readBreath 1 = .ok (.iconst 0, 1) := by decide +kernel
theorem dX7_readBreath_2 : decode cX7_readBreath 2 = .ok (.iconst 1, 1) := by decide +kernel
theorem dX7_readBreath_3 : decode cX7_readBreath 3 = .ok (.invokevirtual 50, 3) := by decide +kernel
theorem dX7_readBreath_6 : decode cX7_readBreath 6 = .ok (.istore_n 1, 1) := by decide +kernel
theorem dX7_readBreath_7 : decode cX7_readBreath 7 = .ok (.aload_n 0, 1) := by decide +kernel
theorem dX7_readBreath_8 : decode cX7_readBreath 8 = .ok (.iconst 1, 1) := by decide +kernel
theorem dX7_readBreath_9 : decode cX7_readBreath 9 = .ok (.bipush 9, 2) := by decide +kernel
theorem dX7_readBreath_11 : decode cX7_readBreath 11 = .ok (.invokevirtual 50, 3) := by decide +kernel
theorem dX7_readBreath_14 : decode cX7_readBreath 14 = .ok (.istore_n 2, 1) := by decide +kernel
theorem dX7_readBreath_15 : decode cX7_readBreath 15 = .ok (.iload_n 1, 1) := by decide +kernel
theorem dX7_readBreath_16 : decode cX7_readBreath 16 = .ok (.ifCond .ne 14, 3) := by decide +kernel
theorem dX7_readBreath_19 : decode cX7_readBreath 19 = .ok (.aload_n 0, 1) := by decide +kernel
theorem dX7_readBreath_20 : decode cX7_readBreath 20 = .ok (.getfield 12, 3) := by decide +kernel
theorem dX7_readBreath_23 : decode cX7_readBreath 23 = .ok (.iload_n 2, 1) := by decide +kernel
theorem dX7_readBreath_24 : decode cX7_readBreath 24 = .ok (.putfield 99, 3) := by decide +kernel
theorem dX7_readBreath_27 : decode cX7_readBreath 27 = .ok (.goto 11, 3) := by decide +kernel
theorem dX7_readBreath_30 : decode cX7_readBreath 30 = .ok (.aload_n 0, 1) := by decide +kernel
theorem dX7_readBreath_31 : decode cX7_readBreath 31 = .ok (.getfield 12, 3) := by decide +kernel
theorem dX7_readBreath_34 : decode cX7_readBreath 34 = .ok (.iload_n 2, 1) := by decide +kernel
theorem dX7_readBreath_35 : decode cX7_readBreath 35 = .ok (.putfield 102, 3) := by decide +kernel
theorem dX7_readBreath_38 : decode cX7_readBreath 38 = .ok (.return_, 1) := by decide +kernel
theorem dX7_readDog_0 : decode cX7_readDog 0 = .ok (.aload_n 0, 1) := by decide +kernel
theorem dX7_readDog_1 : decode cX7_readDog 1 = .ok (.iconst 0, 1) := by decide +kernel
theorem dX7_readDog_2 : decode cX7_readDog 2 = .ok (.iconst 4, 1) := by decide +kernel
theorem dX7_readDog_3 : decode cX7_readDog 3 = .ok (.invokevirtual 50, 3) := by decide +kernel
theorem dX7_readDog_6 : decode cX7_readDog 6 = .ok (.istore_n 1, 1) := by decide +kernel
theorem dX7_readDog_7 : decode cX7_readDog 7 = .ok (.aload_n 0, 1) := by decide +kernel
theorem dX7_readDog_8 : decode cX7_readDog 8 = .ok (.invokevirtual 105, 3) := by decide +kernel
theorem dX7_readDog_11 : decode cX7_readDog 11 = .ok (.istore_n 2, 1) := by decide +kernel
theorem dX7_readDog_12 : decode cX7_readDog 12 = .ok (.aload_n 0, 1) := by decide +kernel
theorem dX7_readDog_13 : decode cX7_readDog 13 = .ok (.invokevirtual 105, 3) := by decide +kernel
theorem dX7_readDog_16 : decode cX7_readDog 16 = .ok (.istore_n 3, 1) := by decide +kernel
theorem dX7_readDog_17 : decode cX7_readDog 17 = .ok (.iload_n 1, 1) := by decide +kernel
theorem dX7_readDog_18 : decode cX7_readDog 18 = .ok (.invokestatic 108, 3) := by decide +kernel
theorem dX7_readDog_21 : decode cX7_readDog 21 = .ok (.ifCond .eq 18, 3) := by decide +kernel
theorem dX7_readDog_24 : decode cX7_readDog 24 = .ok (.aload_n 0, 1) := by decide +kernel
theorem dX7_readDog_25 : decode cX7_readDog 25 = .ok (.getfield 12, 3) := by decide +kernel
theorem dX7_readDog_28 : decode cX7_readDog 28 = .ok (.iload_n 1, 1) := by decide +kernel
theorem dX7_readDog_29 : decode cX7_readDog 29 = .ok (.iload_n 2, 1) := by decide +kernel
theorem dX7_readDog_30 : decode cX7_readDog 30 = .ok (.iload_n 3, 1) := by decide +kernel
theorem dX7_readDog_31 : decode cX7_readDog 31 = .ok (.invokestatic 112, 3) := by decide +kernel
theorem dX7_readDog_34 : decode cX7_readDog 34 = .ok (.invokevirtual 116, 3) := by decide +kernel
theorem dX7_readDog_37 : decode cX7_readDog 37 = .ok (.pop, 1) := by decide +kernel
theorem dX7_readDog_38 : decode cX7_readDog 38 = .ok (.return_, 1) := by decide +kernel
theorem dX7_readDog_39 : decode cX7_readDog 39 = .ok (.aload_n 0, 1) := by decide +kernel
theorem dX7_readDog_40 : decode cX7_readDog 40 = .ok (.invokevirtual 105, 3) := by decide +kernel
theorem dX7_readDog_43 : decode cX7_readDog 43 = .ok (.istore 4, 2) := by decide +kernel
theorem dX7_readDog_45 : decode cX7_readDog 45 = .ok (.aload_n 0, 1) := by decide +kernel
theorem dX7_readDog_46 : decode cX7_readDog 46 = .ok (.invokevirtual 105, 3) := by decide +kernel
theorem dX7_readDog_49 : decode cX7_readDog 49 = .ok (.istore 5, 2) := by decide +kernel
theorem dX7_readDog_51 : decode cX7_readDog 51 = .ok (.aload_n 0, 1) := by decide +kernel
theorem dX7_readDog_52 : decode cX7_readDog 52 = .ok (.iconst 1, 1) := by decide +kernel
theorem dX7_readDog_53 : decode cX7_readDog 53 = .ok (.iconst 3, 1) := by decide +kernel
theorem dX7_readDog_54 : decode cX7_readDog 54 = .ok (.invokevirtual 50, 3) := by decide +kernel
theorem dX7_readDog_57 : decode cX7_readDog 57 = .ok (.istore 6, 2) := by decide +kernel
theorem dX7_readDog_59 : decode cX7_readDog 59 = .ok (.aload_n 0, 1) := by decide +kernel
theorem dX7_readDog_60 : decode cX7_readDog 60 = .ok (.getfield 12, 3) := by decide +kernel
theorem dX7_readDog_63 : decode cX7_readDog 63 = .ok (.iload_n 1, 1) := by decide +kernel
theorem dX7_readDog_64 : decode cX7_readDog 64 = .ok (.iload_n 2, 1) := by decide +kernel
theorem dX7_readDog_65 : decode cX7_readDog 65 = .ok (.iload_n 3, 1) := by decide +kernel
theorem dX7_readDog_66 : decode cX7_readDog 66 = .ok (.iload 4, 2) := by decide +kernel
theorem dX7_readDog_68 : decode cX7_readDog 68 = .ok (.iload 5, 2) := by decide +kernel
theorem dX7_readDog_70 : decode cX7_readDog 70 = .ok (.iload 6, 2) := by decide +kernel
theorem dX7_readDog_72 : decode cX7_readDog 72 = .ok (.invokestatic 120, 3) := by decide +kernel
theorem dX7_readDog_75 : decode cX7_readDog 75 = .ok (.invokevirtual 116, 3) := by decide +kernel
theorem dX7_readDog_78 : decode cX7_readDog 78 = .ok (.pop, 1) := by decide +kernel
theorem dX7_readDog_79 : decode cX7_readDog 79 = .ok (.return_, 1) := by decide +kernel
theorem dX7_takeNumber_0 : decode cX7_takeNumber 0 = .ok (.aload_n 0, 1) := by decide +kernel
theorem dX7_takeNumber_1 : decode cX7_takeNumber 1 = .ok (.getfield 22, 3) := by decide +kernel
theorem dX7_takeNumber_4 : decode cX7_takeNumber 4 = .ok (.iconst 2, 1) := by decide +kernel
theorem dX7_takeNumber_5 : decode cX7_takeNumber 5 = .ok (.if_icmp .ne 16, 3) := by decide +kernel
theorem dX7_takeNumber_8 : decode cX7_takeNumber 8 = .ok (.aload_n 0, 1) := by decide +kernel
theorem dX7_takeNumber_9 : decode cX7_takeNumber 9 = .ok (.getfield 28, 3) := by decide +kernel
theorem dX7_takeNumber_12 : decode cX7_takeNumber 12 = .ok (.aload_n 0, 1) := by decide +kernel
theorem dX7_takeNumber_13 : decode cX7_takeNumber 13 = .ok (.getfield 25, 3) := by decide +kernel
theorem dX7_takeNumber_16 : decode cX7_takeNumber 16 = .ok (.isub, 1) := by decide +kernel
theorem dX7_takeNumber_17 : decode cX7_takeNumber 17 = .ok (.iconst 1, 1) := by decide +kernel
theorem dX7_takeNumber_18 : decode cX7_takeNumber 18 = .ok (.if_icmp .eq 9, 3) := by decide +kernel
theorem dX7_takeNumber_21 : decode cX7_takeNumber 21 = .ok (.aload_n 0, 1) := by decide +kernel
theorem dX7_takeNumber_22 : decode cX7_takeNumber 22 = .ok (.invokevirtual 47, 3) := by decide +kernel
theorem dX7_takeNumber_25 : decode cX7_takeNumber 25 = .ok (.iload_n 1, 1) := by decide +kernel
theorem dX7_takeNumber_26 : decode cX7_takeNumber 26 = .ok (.ireturn, 1) := by decide +kernel
theorem dX7_takeNumber_27 : decode cX7_takeNumber 27 = .ok (.aload_n 0, 1) := by decide +kernel
theorem dX7_takeNumber_28 : decode cX7_takeNumber 28 = .ok (.aload_n 0, 1) := by decide +kernel
theorem dX7_takeNumber_29 : decode cX7_takeNumber 29 = .ok (.getfield 25, 3) := by decide +kernel
theorem dX7_takeNumber_32 : decode cX7_takeNumber 32 = .ok (.invokevirtual 124, 3) := by decide +kernel
theorem dX7_takeNumber_35 : decode cX7_takeNumber 35 = .ok (.bipush 48, 2) := by decide +kernel
theorem dX7_takeNumber_37 : decode cX7_takeNumber 37 = .ok (.isub, 1) := by decide +kernel
theorem dX7_takeNumber_38 : decode cX7_takeNumber 38 = .ok (.istore_n 3, 1) := by decide +kernel
theorem dX7_takeNumber_39 : decode cX7_takeNumber 39 = .ok (.iload_n 3, 1) := by decide +kernel
theorem dX7_takeNumber_40 : decode cX7_takeNumber 40 = .ok (.iload_n 1, 1) := by decide +kernel
theorem dX7_takeNumber_41 : decode cX7_takeNumber 41 = .ok (.if_icmp .lt 8, 3) := by decide +kernel
theorem dX7_takeNumber_44 : decode cX7_takeNumber 44 = .ok (.iload_n 3, 1) := by decide +kernel
theorem dX7_takeNumber_45 : decode cX7_takeNumber 45 = .ok (.iload_n 2, 1) := by decide +kernel
theorem dX7_takeNumber_46 : decode cX7_takeNumber 46 = .ok (.if_icmp .le 9, 3) := by decide +kernel
theorem dX7_takeNumber_49 : decode cX7_takeNumber 49 = .ok (.aload_n 0, 1) := by decide +kernel
theorem dX7_takeNumber_50 : decode cX7_takeNumber 50 = .ok (.invokevirtual 47, 3) := by decide +kernel
theorem dX7_takeNumber_53 : decode cX7_takeNumber 53 = .ok (.iload_n 1, 1) := by decide +kernel
theorem dX7_takeNumber_54 : decode cX7_takeNumber 54 = .ok (.ireturn, 1) := by decide +kernel
theorem dX7_takeNumber_55 : decode cX7_takeNumber 55 = .ok (.aload_n 0, 1) := by decide +kernel
theorem dX7_takeNumber_56 : decode cX7_takeNumber 56 = .ok (.invokevirtual 38, 3) := by decide +kernel
theorem dX7_takeNumber_59 : decode cX7_takeNumber 59 = .ok (.iload_n 3, 1) := by decide +kernel
theorem dX7_takeNumber_60 : decode cX7_takeNumber 60 = .ok (.ireturn, 1) := by decide +kernel
theorem dX7_takePlaceBit_0 : decode cX7_takePlaceBit 0 = .ok (.iconst 1, 1) := by decide +kernel
theorem dX7_takePlaceBit_1 : decode cX7_takePlaceBit 1 = .ok (.aload_n 0, 1) := by decide +kernel
theorem dX7_takePlaceBit_2 : decode cX7_takePlaceBit 2 = .ok (.iconst 0, 1) := by decide +kernel
theorem dX7_takePlaceBit_3 : decode cX7_takePlaceBit 3 = .ok (.aload_n 0, 1) := by decide +kernel
theorem dX7_takePlaceBit_4 : decode cX7_takePlaceBit 4 = .ok (.getfield 12, 3) := by decide +kernel
theorem dX7_takePlaceBit_7 : decode cX7_takePlaceBit 7 = .ok (.getfield 75, 3) := by decide +kernel
theorem dX7_takePlaceBit_10 : decode cX7_takePlaceBit 10 = .ok (.iconst 1, 1) := by decide +kernel
theorem dX7_takePlaceBit_11 : decode cX7_takePlaceBit 11 = .ok (.isub, 1) := by decide +kernel
theorem dX7_takePlaceBit_12 : decode cX7_takePlaceBit 12 = .ok (.invokevirtual 50, 3) := by decide +kernel
theorem dX7_takePlaceBit_15 : decode cX7_takePlaceBit 15 = .ok (.ishl, 1) := by decide +kernel
theorem dX7_takePlaceBit_16 : decode cX7_takePlaceBit 16 = .ok (.ireturn, 1) := by decide +kernel
theorem dX7_takeRow_0 : decode cX7_takeRow 0 = .ok (.aload_n 0, 1) := by decide +kernel
theorem dX7_takeRow_1 : decode cX7_takeRow 1 = .ok (.getfield 22, 3) := by decide +kernel
theorem dX7_takeRow_4 : decode cX7_takeRow 4 = .ok (.iconst 1, 1) := by decide +kernel
theorem dX7_takeRow_5 : decode cX7_takeRow 5 = .ok (.if_icmp .ne 22, 3) := by decide +kernel
theorem dX7_takeRow_8 : decode cX7_takeRow 8 = .ok (.aload_n 0, 1) := by decide +kernel
theorem dX7_takeRow_9 : decode cX7_takeRow 9 = .ok (.getfield 28, 3) := by decide +kernel
theorem dX7_takeRow_12 : decode cX7_takeRow 12 = .ok (.aload_n 0, 1) := by decide +kernel
theorem dX7_takeRow_13 : decode cX7_takeRow 13 = .ok (.getfield 25, 3) := by decide +kernel
theorem dX7_takeRow_16 : decode cX7_takeRow 16 = .ok (.isub, 1) := by decide +kernel
theorem dX7_takeRow_17 : decode cX7_takeRow 17 = .ok (.aload_n 0, 1) := by decide +kernel
theorem dX7_takeRow_18 : decode cX7_takeRow 18 = .ok (.getfield 12, 3) := by decide +kernel
theorem dX7_takeRow_21 : decode cX7_takeRow 21 = .ok (.getfield 75, 3) := by decide +kernel
theorem dX7_takeRow_24 : decode cX7_takeRow 24 = .ok (.if_icmp .eq 9, 3) := by decide +kernel
theorem dX7_takeRow_27 : decode cX7_takeRow 27 = .ok (.aload_n 0, 1) := by decide +kernel
theorem dX7_takeRow_28 : decode cX7_takeRow 28 = .ok (.invokevirtual 47, 3) := by decide +kernel
theorem dX7_takeRow_31 : decode cX7_takeRow 31 = .ok (.iconst 0, 1) := by decide +kernel
theorem dX7_takeRow_32 : decode cX7_takeRow 32 = .ok (.ireturn, 1) := by decide +kernel
theorem dX7_takeRow_33 : decode cX7_takeRow 33 = .ok (.iconst 0, 1) := by decide +kernel
theorem dX7_takeRow_34 : decode cX7_takeRow 34 = .ok (.istore_n 1, 1) := by decide +kernel
theorem dX7_takeRow_35 : decode cX7_takeRow 35 = .ok (.iconst 0, 1) := by decide +kernel
theorem dX7_takeRow_36 : decode cX7_takeRow 36 = .ok (.istore_n 2, 1) := by decide +kernel
theorem dX7_takeRow_37 : decode cX7_takeRow 37 = .ok (.iload_n 2, 1) := by decide +kernel
theorem dX7_takeRow_38 : decode cX7_takeRow 38 = .ok (.aload_n 0, 1) := by decide +kernel
theorem dX7_takeRow_39 : decode cX7_takeRow 39 = .ok (.getfield 12, 3) := by decide +kernel
theorem dX7_takeRow_42 : decode cX7_takeRow 42 = .ok (.getfield 75, 3) := by decide +kernel
theorem dX7_takeRow_45 : decode cX7_takeRow 45 = .ok (.if_icmp .ge 48, 3) := by decide +kernel
theorem dX7_takeRow_48 : decode cX7_takeRow 48 = .ok (.aload_n 0, 1) := by decide +kernel
theorem dX7_takeRow_49 : decode cX7_takeRow 49 = .ok (.aload_n 0, 1) := by decide +kernel
theorem dX7_takeRow_50 : decode cX7_takeRow 50 = .ok (.getfield 25, 3) := by decide +kernel
theorem dX7_takeRow_53 : decode cX7_takeRow 53 = .ok (.iload_n 2, 1) := by decide +kernel
theorem dX7_takeRow_54 : decode cX7_takeRow 54 = .ok (.iadd, 1) := by decide +kernel
theorem dX7_takeRow_55 : decode cX7_takeRow 55 = .ok (.invokevirtual 124, 3) := by decide +kernel
theorem dX7_takeRow_58 : decode cX7_takeRow 58 = .ok (.bipush 97, 2) := by decide +kernel
theorem dX7_takeRow_60 : decode cX7_takeRow 60 = .ok (.isub, 1) := by decide +kernel
theorem dX7_takeRow_61 : decode cX7_takeRow 61 = .ok (.istore_n 3, 1) := by decide +kernel
theorem dX7_takeRow_62 : decode cX7_takeRow 62 = .ok (.aload_n 0, 1) := by decide +kernel
theorem dX7_takeRow_63 : decode cX7_takeRow 63 = .ok (.getfield 12, 3) := by decide +kernel
theorem dX7_takeRow_66 : decode cX7_takeRow 66 = .ok (.iload_n 3, 1) := by decide +kernel
theorem dX7_takeRow_67 : decode cX7_takeRow 67 = .ok (.invokevirtual 128, 3) := by decide +kernel
theorem dX7_takeRow_70 : decode cX7_takeRow 70 = .ok (.ifCond .ne 9, 3) := by decide +kernel
theorem dX7_takeRow_73 : decode cX7_takeRow 73 = .ok (.aload_n 0, 1) := by decide +kernel
theorem dX7_takeRow_74 : decode cX7_takeRow 74 = .ok (.invokevirtual 47, 3) := by decide +kernel
theorem dX7_takeRow_77 : decode cX7_takeRow 77 = .ok (.iconst 0, 1) := by decide +kernel
theorem dX7_takeRow_78 : decode cX7_takeRow 78 = .ok (.ireturn, 1) := by decide +kernel
theorem dX7_takeRow_79 : decode cX7_takeRow 79 = .ok (.iload_n 1, 1) := by decide +kernel
theorem dX7_takeRow_80 : decode cX7_takeRow 80 = .ok (.iload_n 3, 1) := by decide +kernel
theorem dX7_takeRow_81 : decode cX7_takeRow 81 = .ok (.iconst 3, 1) := by decide +kernel
theorem dX7_takeRow_82 : decode cX7_takeRow 82 = .ok (.iload_n 2, 1) := by decide +kernel
theorem dX7_takeRow_83 : decode cX7_takeRow 83 = .ok (.imul, 1) := by decide +kernel
theorem dX7_takeRow_84 : decode cX7_takeRow 84 = .ok (.ishl, 1) := by decide +kernel
theorem dX7_takeRow_85 : decode cX7_takeRow 85 = .ok (.ior, 1) := by decide +kernel
theorem dX7_takeRow_86 : decode cX7_takeRow 86 = .ok (.istore_n 1, 1) := by decide +kernel
theorem dX7_takeRow_87 : decode cX7_takeRow 87 = .ok (.iinc 2 1, 3) := by decide +kernel
theorem dX7_takeRow_90 : decode cX7_takeRow 90 = .ok (.goto (-53), 3) := by decide +kernel
theorem dX7_takeRow_93 : decode cX7_takeRow 93 = .ok (.aload_n 0, 1) := by decide +kernel
theorem dX7_takeRow_94 : decode cX7_takeRow 94 = .ok (.invokevirtual 38, 3) := by decide +kernel
theorem dX7_takeRow_97 : decode cX7_takeRow 97 = .ok (.iload_n 1, 1) := by decide +kernel
theorem dX7_takeRow_98 : decode cX7_takeRow 98 = .ok (.ireturn, 1) := by decide +kernel
theorem dX7_takeMark_0 : decode cX7_takeMark 0 = .ok (.aload_n 0, 1) := by decide +kernel
theorem dX7_takeMark_1 : decode cX7_takeMark 1 = .ok (.getfield 22, 3) := by decide +kernel
theorem dX7_takeMark_4 : decode cX7_takeMark 4 = .ok (.iconst 3, 1) := by decide +kernel
theorem dX7_takeMark_5 : decode cX7_takeMark 5 = .ok (.if_icmp .ne 10, 3) := by decide +kernel
theorem dX7_takeMark_8 : decode cX7_takeMark 8 = .ok (.aload_n 0, 1) := by decide +kernel
theorem dX7_takeMark_9 : decode cX7_takeMark 9 = .ok (.invokevirtual 38, 3) := by decide +kernel
theorem dX7_takeMark_12 : decode cX7_takeMark 12 = .ok (.goto 7, 3) := by decide +kernel
theorem dX7_takeMark_15 : decode cX7_takeMark 15 = .ok (.aload_n 0, 1) := by decide +kernel
theorem dX7_takeMark_16 : decode cX7_takeMark 16 = .ok (.invokevirtual 47, 3) := by decide +kernel
theorem dX7_takeMark_19 : decode cX7_takeMark 19 = .ok (.return_, 1) := by decide +kernel
theorem dX7_fail_0 : decode cX7_fail 0 = .ok (.aload_n 0, 1) := by decide +kernel
theorem dX7_fail_1 : decode cX7_fail 1 = .ok (.getfield 18, 3) := by decide +kernel
theorem dX7_fail_4 : decode cX7_fail 4 = .ok (.iconst (-1), 1) := by decide +kernel
theorem dX7_fail_5 : decode cX7_fail 5 = .ok (.if_icmp .ne 11, 3) := by decide +kernel
theorem dX7_fail_8 : decode cX7_fail 8 = .ok (.aload_n 0, 1) := by decide +kernel
theorem dX7_fail_9 : decode cX7_fail 9 = .ok (.aload_n 0, 1) := by decide +kernel
theorem dX7_fail_10 : decode cX7_fail 10 = .ok (.getfield 25, 3) := by decide +kernel
theorem dX7_fail_13 : decode cX7_fail 13 = .ok (.putfield 18, 3) := by decide +kernel
theorem dX7_fail_16 : decode cX7_fail 16 = .ok (.return_, 1) := by decide +kernel
theorem dX7_isWord_0 : decode cX7_isWord 0 = .ok (.aload_n 0, 1) := by decide +kernel
theorem dX7_isWord_1 : decode cX7_isWord 1 = .ok (.getfield 22, 3) := by decide +kernel
theorem dX7_isWord_4 : decode cX7_isWord 4 = .ok (.iconst 1, 1) := by decide +kernel
theorem dX7_isWord_5 : decode cX7_isWord 5 = .ok (.if_icmp .ne 19, 3) := by decide +kernel
theorem dX7_isWord_8 : decode cX7_isWord 8 = .ok (.aload_n 0, 1) := by decide +kernel
theorem dX7_isWord_9 : decode cX7_isWord 9 = .ok (.getfield 28, 3) := by decide +kernel
theorem dX7_isWord_12 : decode cX7_isWord 12 = .ok (.aload_n 0, 1) := by decide +kernel
theorem dX7_isWord_13 : decode cX7_isWord 13 = .ok (.getfield 25, 3) := by decide +kernel
theorem dX7_isWord_16 : decode cX7_isWord 16 = .ok (.isub, 1) := by decide +kernel
theorem dX7_isWord_17 : decode cX7_isWord 17 = .ok (.aload_n 1, 1) := by decide +kernel
theorem dX7_isWord_18 : decode cX7_isWord 18 = .ok (.invokevirtual 131, 3) := by decide +kernel
theorem dX7_isWord_21 : decode cX7_isWord 21 = .ok (.if_icmp .eq 5, 3) := by decide +kernel
theorem dX7_isWord_24 : decode cX7_isWord 24 = .ok (.iconst 0, 1) := by decide +kernel
theorem dX7_isWord_25 : decode cX7_isWord 25 = .ok (.ireturn, 1) := by decide +kernel
theorem dX7_isWord_26 : decode cX7_isWord 26 = .ok (.iconst 0, 1) := by decide +kernel
theorem dX7_isWord_27 : decode cX7_isWord 27 = .ok (.istore_n 2, 1) := by decide +kernel
theorem dX7_isWord_28 : decode cX7_isWord 28 = .ok (.iload_n 2, 1) := by decide +kernel
theorem dX7_isWord_29 : decode cX7_isWord 29 = .ok (.aload_n 1, 1) := by decide +kernel
theorem dX7_isWord_30 : decode cX7_isWord 30 = .ok (.invokevirtual 131, 3) := by decide +kernel
theorem dX7_isWord_33 : decode cX7_isWord 33 = .ok (.if_icmp .ge 29, 3) := by decide +kernel
theorem dX7_isWord_36 : decode cX7_isWord 36 = .ok (.aload_n 0, 1) := by decide +kernel
theorem dX7_isWord_37 : decode cX7_isWord 37 = .ok (.aload_n 0, 1) := by decide +kernel
theorem dX7_isWord_38 : decode cX7_isWord 38 = .ok (.getfield 25, 3) := by decide +kernel
theorem dX7_isWord_41 : decode cX7_isWord 41 = .ok (.iload_n 2, 1) := by decide +kernel
theorem dX7_isWord_42 : decode cX7_isWord 42 = .ok (.iadd, 1) := by decide +kernel
theorem dX7_isWord_43 : decode cX7_isWord 43 = .ok (.invokevirtual 124, 3) := by decide +kernel
theorem dX7_isWord_46 : decode cX7_isWord 46 = .ok (.aload_n 1, 1) := by decide +kernel
theorem dX7_isWord_47 : decode cX7_isWord 47 = .ok (.iload_n 2, 1) := by decide +kernel
theorem dX7_isWord_48 : decode cX7_isWord 48 = .ok (.invokevirtual 135, 3) := by decide +kernel
theorem dX7_isWord_51 : decode cX7_isWord 51 = .ok (.if_icmp .eq 5, 3) := by decide +kernel
theorem dX7_isWord_54 : decode cX7_isWord 54 = .ok (.iconst 0, 1) := by decide +kernel
theorem dX7_isWord_55 : decode cX7_isWord 55 = .ok (.ireturn, 1) := by decide +kernel
theorem dX7_isWord_56 : decode cX7_isWord 56 = .ok (.iinc 2 1, 3) := by decide +kernel
theorem dX7_isWord_59 : decode cX7_isWord 59 = .ok (.goto (-31), 3) := by decide +kernel
theorem dX7_isWord_62 : decode cX7_isWord 62 = .ok (.iconst 1, 1) := by decide +kernel
theorem dX7_isWord_63 : decode cX7_isWord 63 = .ok (.ireturn, 1) := by decide +kernel
theorem dX7_advance_0 : decode cX7_advance 0 = .ok (.aload_n 0, 1) := by decide +kernel
theorem dX7_advance_1 : decode cX7_advance 1 = .ok (.getfield 18, 3) := by decide +kernel
theorem dX7_advance_4 : decode cX7_advance 4 = .ok (.iconst (-1), 1) := by decide +kernel
theorem dX7_advance_5 : decode cX7_advance 5 = .ok (.if_icmp .eq 4, 3) := by decide +kernel
theorem dX7_advance_8 : decode cX7_advance 8 = .ok (.return_, 1) := by decide +kernel
theorem dX7_advance_9 : decode cX7_advance 9 = .ok (.aload_n 0, 1) := by decide +kernel
theorem dX7_advance_10 : decode cX7_advance 10 = .ok (.aload_n 0, 1) := by decide +kernel
theorem dX7_advance_11 : decode cX7_advance 11 = .ok (.getfield 28, 3) := by decide +kernel
theorem dX7_advance_14 : decode cX7_advance 14 = .ok (.putfield 25, 3) := by decide +kernel
theorem dX7_advance_17 : decode cX7_advance 17 = .ok (.aload_n 0, 1) := by decide +kernel
theorem dX7_advance_18 : decode cX7_advance 18 = .ok (.getfield 25, 3) := by decide +kernel
theorem dX7_advance_21 : decode cX7_advance 21 = .ok (.aload_n 0, 1) := by decide +kernel
theorem dX7_advance_22 : decode cX7_advance 22 = .ok (.getfield 35, 3) := by decide +kernel
theorem dX7_advance_25 : decode cX7_advance 25 = .ok (.if_icmp .ge 29, 3) := by decide +kernel
theorem dX7_advance_28 : decode cX7_advance 28 = .ok (.aload_n 0, 1) := by decide +kernel
theorem dX7_advance_29 : decode cX7_advance 29 = .ok (.aload_n 0, 1) := by decide +kernel
theorem dX7_advance_30 : decode cX7_advance 30 = .ok (.getfield 25, 3) := by decide +kernel
theorem dX7_advance_33 : decode cX7_advance 33 = .ok (.invokevirtual 124, 3) := by decide +kernel
theorem dX7_advance_36 : decode cX7_advance 36 = .ok (.bipush 32, 2) := by decide +kernel
theorem dX7_advance_38 : decode cX7_advance 38 = .ok (.if_icmp .ne 16, 3) := by decide +kernel
theorem dX7_advance_41 : decode cX7_advance 41 = .ok (.aload_n 0, 1) := by decide +kernel
theorem dX7_advance_42 : decode cX7_advance 42 = .ok (.dup, 1) := by decide +kernel
theorem dX7_advance_43 : decode cX7_advance 43 = .ok (.getfield 25, 3) := by decide +kernel
theorem dX7_advance_46 : decode cX7_advance 46 = .ok (.iconst 1, 1) := by decide +kernel
theorem dX7_advance_47 : decode cX7_advance 47 = .ok (.iadd, 1) := by decide +kernel
theorem dX7_advance_48 : decode cX7_advance 48 = .ok (.putfield 25, 3) := by decide +kernel
theorem dX7_advance_51 : decode cX7_advance 51 = .ok (.goto (-34), 3) := by decide +kernel
theorem dX7_advance_54 : decode cX7_advance 54 = .ok (.aload_n 0, 1) := by decide +kernel
theorem dX7_advance_55 : decode cX7_advance 55 = .ok (.aload_n 0, 1) := by decide +kernel
theorem dX7_advance_56 : decode cX7_advance 56 = .ok (.getfield 25, 3) := by decide +kernel
theorem dX7_advance_59 : decode cX7_advance 59 = .ok (.putfield 28, 3) := by decide +kernel
theorem dX7_advance_62 : decode cX7_advance 62 = .ok (.aload_n 0, 1) := by decide +kernel
theorem dX7_advance_63 : decode cX7_advance 63 = .ok (.aload_n 0, 1) := by decide +kernel
theorem dX7_advance_64 : decode cX7_advance 64 = .ok (.aload_n 0, 1) := by decide +kernel
theorem dX7_advance_65 : decode cX7_advance 65 = .ok (.getfield 25, 3) := by decide +kernel
theorem dX7_advance_68 : decode cX7_advance 68 = .ok (.invokevirtual 124, 3) := by decide +kernel
theorem dX7_advance_71 : decode cX7_advance 71 = .ok (.invokestatic 139, 3) := by decide +kernel
theorem dX7_advance_74 : decode cX7_advance 74 = .ok (.putfield 22, 3) := by decide +kernel
theorem dX7_advance_77 : decode cX7_advance 77 = .ok (.aload_n 0, 1) := by decide +kernel
theorem dX7_advance_78 : decode cX7_advance 78 = .ok (.getfield 22, 3) := by decide +kernel
theorem dX7_advance_81 : decode cX7_advance 81 = .ok (.ifCond .ne 4, 3) := by decide +kernel
theorem dX7_advance_84 : decode cX7_advance 84 = .ok (.return_, 1) := by decide +kernel
theorem dX7_advance_85 : decode cX7_advance 85 = .ok (.aload_n 0, 1) := by decide +kernel
theorem dX7_advance_86 : decode cX7_advance 86 = .ok (.dup, 1) := by decide +kernel
theorem dX7_advance_87 : decode cX7_advance 87 = .ok (.getfield 28, 3) := by decide +kernel
theorem dX7_advance_90 : decode cX7_advance 90 = .ok (.iconst 1, 1) := by decide +kernel
theorem dX7_advance_91 : decode cX7_advance 91 = .ok (.iadd, 1) := by decide +kernel
theorem dX7_advance_92 : decode cX7_advance 92 = .ok (.putfield 28, 3) := by decide +kernel
theorem dX7_advance_95 : decode cX7_advance 95 = .ok (.aload_n 0, 1) := by decide +kernel
theorem dX7_advance_96 : decode cX7_advance 96 = .ok (.getfield 22, 3) := by decide +kernel
theorem dX7_advance_99 : decode cX7_advance 99 = .ok (.iconst 1, 1) := by decide +kernel
theorem dX7_advance_100 : decode cX7_advance 100 = .ok (.if_icmp .eq 11, 3) := by decide +kernel
theorem dX7_advance_103 : decode cX7_advance 103 = .ok (.aload_n 0, 1) := by decide +kernel
theorem dX7_advance_104 : decode cX7_advance 104 = .ok (.getfield 22, 3) := by decide +kernel
theorem dX7_advance_107 : decode cX7_advance 107 = .ok (.iconst 2, 1) := by decide +kernel
theorem dX7_advance_108 : decode cX7_advance 108 = .ok (.if_icmp .ne 45, 3) := by decide +kernel
theorem dX7_advance_111 : decode cX7_advance 111 = .ok (.aload_n 0, 1) := by decide +kernel
theorem dX7_advance_112 : decode cX7_advance 112 = .ok (.getfield 28, 3) := by decide +kernel
theorem dX7_advance_115 : decode cX7_advance 115 = .ok (.aload_n 0, 1) := by decide +kernel
theorem dX7_advance_116 : decode cX7_advance 116 = .ok (.getfield 35, 3) := by decide +kernel
theorem dX7_advance_119 : decode cX7_advance 119 = .ok (.if_icmp .ge 34, 3) := by decide +kernel
theorem dX7_advance_122 : decode cX7_advance 122 = .ok (.aload_n 0, 1) := by decide +kernel
theorem dX7_advance_123 : decode cX7_advance 123 = .ok (.aload_n 0, 1) := by decide +kernel
theorem dX7_advance_124 : decode cX7_advance 124 = .ok (.getfield 28, 3) := by decide +kernel
theorem dX7_advance_127 : decode cX7_advance 127 = .ok (.invokevirtual 124, 3) := by decide +kernel
theorem dX7_advance_130 : decode cX7_advance 130 = .ok (.invokestatic 139, 3) := by decide +kernel
theorem dX7_advance_133 : decode cX7_advance 133 = .ok (.aload_n 0, 1) := by decide +kernel
theorem dX7_advance_134 : decode cX7_advance 134 = .ok (.getfield 22, 3) := by decide +kernel
theorem dX7_advance_137 : decode cX7_advance 137 = .ok (.if_icmp .ne 16, 3) := by decide +kernel
theorem dX7_advance_140 : decode cX7_advance 140 = .ok (.aload_n 0, 1) := by decide +kernel
theorem dX7_advance_141 : decode cX7_advance 141 = .ok (.dup, 1) := by decide +kernel
theorem dX7_advance_142 : decode cX7_advance 142 = .ok (.getfield 28, 3) := by decide +kernel
theorem dX7_advance_145 : decode cX7_advance 145 = .ok (.iconst 1, 1) := by decide +kernel
theorem dX7_advance_146 : decode cX7_advance 146 = .ok (.iadd, 1) := by decide +kernel
theorem dX7_advance_147 : decode cX7_advance 147 = .ok (.putfield 28, 3) := by decide +kernel
theorem dX7_advance_150 : decode cX7_advance 150 = .ok (.goto (-39), 3) := by decide +kernel
theorem dX7_advance_153 : decode cX7_advance 153 = .ok (.return_, 1) := by decide +kernel
theorem dX7_kindOf_0 : decode cX7_kindOf 0 = .ok (.iload_n 0, 1) := by decide +kernel
theorem dX7_kindOf_1 : decode cX7_kindOf 1 = .ok (.ifCond .ge 5, 3) := by decide +kernel
theorem dX7_kindOf_4 : decode cX7_kindOf 4 = .ok (.iconst 0, 1) := by decide +kernel
theorem dX7_kindOf_5 : decode cX7_kindOf 5 = .ok (.ireturn, 1) := by decide +kernel
theorem dX7_kindOf_6 : decode cX7_kindOf 6 = .ok (.iload_n 0, 1) := by decide +kernel
theorem dX7_kindOf_7 : decode cX7_kindOf 7 = .ok (.bipush 97, 2) := by decide +kernel
theorem dX7_kindOf_9 : decode cX7_kindOf 9 = .ok (.if_icmp .lt 11, 3) := by decide +kernel
theorem dX7_kindOf_12 : decode cX7_kindOf 12 = .ok (.iload_n 0, 1) := by decide +kernel
theorem dX7_kindOf_13 : decode cX7_kindOf 13 = .ok (.bipush 122, 2) := by decide +kernel
theorem dX7_kindOf_15 : decode cX7_kindOf 15 = .ok (.if_icmp .gt 5, 3) := by decide +kernel
theorem dX7_kindOf_18 : decode cX7_kindOf 18 = .ok (.iconst 1, 1) := by decide +kernel
theorem dX7_kindOf_19 : decode cX7_kindOf 19 = .ok (.ireturn, 1) := by decide +kernel
theorem dX7_kindOf_20 : decode cX7_kindOf 20 = .ok (.iload_n 0, 1) := by decide +kernel
theorem dX7_kindOf_21 : decode cX7_kindOf 21 = .ok (.bipush 48, 2) := by decide +kernel
theorem dX7_kindOf_23 : decode cX7_kindOf 23 = .ok (.if_icmp .lt 11, 3) := by decide +kernel
theorem dX7_kindOf_26 : decode cX7_kindOf 26 = .ok (.iload_n 0, 1) := by decide +kernel
theorem dX7_kindOf_27 : decode cX7_kindOf 27 = .ok (.bipush 57, 2) := by decide +kernel
theorem dX7_kindOf_29 : decode cX7_kindOf 29 = .ok (.if_icmp .gt 5, 3) := by decide +kernel
theorem dX7_kindOf_32 : decode cX7_kindOf 32 = .ok (.iconst 2, 1) := by decide +kernel
theorem dX7_kindOf_33 : decode cX7_kindOf 33 = .ok (.ireturn, 1) := by decide +kernel
theorem dX7_kindOf_34 : decode cX7_kindOf 34 = .ok (.iload_n 0, 1) := by decide +kernel
theorem dX7_kindOf_35 : decode cX7_kindOf 35 = .ok (.bipush 59, 2) := by decide +kernel
theorem dX7_kindOf_37 : decode cX7_kindOf 37 = .ok (.if_icmp .ne 7, 3) := by decide +kernel
theorem dX7_kindOf_40 : decode cX7_kindOf 40 = .ok (.iconst 3, 1) := by decide +kernel
theorem dX7_kindOf_41 : decode cX7_kindOf 41 = .ok (.goto 4, 3) := by decide +kernel
theorem dX7_kindOf_44 : decode cX7_kindOf 44 = .ok (.iconst 4, 1) := by decide +kernel
theorem dX7_kindOf_45 : decode cX7_kindOf 45 = .ok (.ireturn, 1) := by decide +kernel
theorem dX7_byteAt_0 : decode cX7_byteAt 0 = .ok (.iload_n 1, 1) := by decide +kernel
theorem dX7_byteAt_1 : decode cX7_byteAt 1 = .ok (.ifCond .lt 33, 3) := by decide +kernel
theorem dX7_byteAt_4 : decode cX7_byteAt 4 = .ok (.iload_n 1, 1) := by decide +kernel
theorem dX7_byteAt_5 : decode cX7_byteAt 5 = .ok (.aload_n 0, 1) := by decide +kernel
theorem dX7_byteAt_6 : decode cX7_byteAt 6 = .ok (.getfield 35, 3) := by decide +kernel
theorem dX7_byteAt_9 : decode cX7_byteAt 9 = .ok (.if_icmp .ge 25, 3) := by decide +kernel
theorem dX7_byteAt_12 : decode cX7_byteAt 12 = .ok (.iload_n 1, 1) := by decide +kernel
theorem dX7_byteAt_13 : decode cX7_byteAt 13 = .ok (.aload_n 0, 1) := by decide +kernel
theorem dX7_byteAt_14 : decode cX7_byteAt 14 = .ok (.getfield 31, 3) := by decide +kernel
theorem dX7_byteAt_17 : decode cX7_byteAt 17 = .ok (.arraylength, 1) := by decide +kernel
theorem dX7_byteAt_18 : decode cX7_byteAt 18 = .ok (.if_icmp .ge 16, 3) := by decide +kernel
theorem dX7_byteAt_21 : decode cX7_byteAt 21 = .ok (.aload_n 0, 1) := by decide +kernel
theorem dX7_byteAt_22 : decode cX7_byteAt 22 = .ok (.getfield 31, 3) := by decide +kernel
theorem dX7_byteAt_25 : decode cX7_byteAt 25 = .ok (.iload_n 1, 1) := by decide +kernel
theorem dX7_byteAt_26 : decode cX7_byteAt 26 = .ok (.baload, 1) := by decide +kernel
theorem dX7_byteAt_27 : decode cX7_byteAt 27 = .ok (.sipush 255, 3) := by decide +kernel
theorem dX7_byteAt_30 : decode cX7_byteAt 30 = .ok (.iand, 1) := by decide +kernel
theorem dX7_byteAt_31 : decode cX7_byteAt 31 = .ok (.goto 4, 3) := by decide +kernel
theorem dX7_byteAt_34 : decode cX7_byteAt 34 = .ok (.iconst (-1), 1) := by decide +kernel
theorem dX7_byteAt_35 : decode cX7_byteAt 35 = .ok (.ireturn, 1) := by decide +kernel
theorem dX8_init_0 : decode cX8_init 0 = .ok (.aload_n 0, 1) := by decide +kernel
theorem dX8_init_1 : decode cX8_init 1 = .ok (.invokespecial 3, 3) := by decide +kernel
theorem dX8_init_4 : decode cX8_init 4 = .ok (.aload_n 0, 1) := by decide +kernel
theorem dX8_init_5 : decode cX8_init 5 = .ok (.bipush 64, 2) := by decide +kernel
theorem dX8_init_7 : decode cX8_init 7 = .ok (.newarray .long, 2) := by decide +kernel
theorem dX8_init_9 : decode cX8_init 9 = .ok (.putfield 9, 3) := by decide +kernel
theorem dX8_init_12 : decode cX8_init 12 = .ok (.aload_n 0, 1) := by decide +kernel
theorem dX8_init_13 : decode cX8_init 13 = .ok (.iconst 0, 1) := by decide +kernel
theorem dX8_init_14 : decode cX8_init 14 = .ok (.putfield 13, 3) := by decide +kernel
theorem dX8_init_17 : decode cX8_init 17 = .ok (.aload_n 0, 1) := by decide +kernel
theorem dX8_init_18 : decode cX8_init 18 = .ok (.lconst 0, 1) := by decide +kernel
theorem dX8_init_19 : decode cX8_init 19 = .ok (.putfield 17, 3) := by decide +kernel
theorem dX8_init_22 : decode cX8_init 22 = .ok (.return_, 1) := by decide +kernel
theorem dX8_forget_0 : decode cX8_forget 0 = .ok (.aload_n 0, 1) := by decide +kernel
theorem dX8_forget_1 : decode cX8_forget 1 = .ok (.dup, 1) := by decide +kernel
theorem dX8_forget_2 : decode cX8_forget 2 = .ok (.getfield 17, 3) := by decide +kernel
theorem dX8_forget_5 : decode cX8_forget 5 = .ok (.lconst 1, 1) := by decide +kernel
theorem dX8_forget_6 : decode cX8_forget 6 = .ok (.ladd, 1) := by decide +kernel
theorem dX8_forget_7 : decode cX8_forget 7 = .ok (.putfield 17, 3) := by decide +kernel
theorem dX8_forget_10 : decode cX8_forget 10 = .ok (.aload_n 0, 1) := by decide +kernel
theorem dX8_forget_11 : decode cX8_forget 11 = .ok (.iconst 0, 1) := by decide +kernel
theorem dX8_forget_12 : decode cX8_forget 12 = .ok (.putfield 13, 3) := by decide +kernel
theorem dX8_forget_15 : decode cX8_forget 15 = .ok (.return_, 1) := by decide +kernel
theorem dX8_leastFor_0 : decode cX8_leastFor 0 = .ok (.aload_n 0, 1) := by decide +kernel
theorem dX8_leastFor_1 : decode cX8_leastFor 1 = .ok (.getfield 9, 3) := by decide +kernel
theorem dX8_leastFor_4 : decode cX8_leastFor 4 = .ok (.aload_n 0, 1) := by decide +kernel
theorem dX8_leastFor_5 : decode cX8_leastFor 5 = .ok (.iload_n 1, 1) := by decide +kernel
theorem dX8_leastFor_6 : decode cX8_leastFor 6 = .ok (.invokevirtual 21, 3) := by decide +kernel
theorem dX8_leastFor_9 : decode cX8_leastFor 9 = .ok (.laload, 1) := by decide +kernel
theorem dX8_leastFor_10 : decode cX8_leastFor 10 = .ok (.lstore_n 2, 1) := by decide +kernel
theorem dX8_leastFor_11 : decode cX8_leastFor 11 = .ok (.aload_n 0, 1) := by decide +kernel
theorem dX8_leastFor_12 : decode cX8_leastFor 12 = .ok (.lload_n 2, 1) := by decide +kernel
theorem dX8_leastFor_13 : decode cX8_leastFor 13 = .ok (.invokevirtual 25, 3) := by decide +kernel
theorem dX8_leastFor_16 : decode cX8_leastFor 16 = .ok (.ifCond .eq 10, 3) := by decide +kernel
theorem dX8_leastFor_19 : decode cX8_leastFor 19 = .ok (.lload_n 2, 1) := by decide +kernel
theorem dX8_leastFor_20 : decode cX8_leastFor 20 = .ok (.invokestatic 29, 3) := by decide +kernel
theorem dX8_leastFor_23 : decode cX8_leastFor 23 = .ok (.goto 5, 3) := by decide +kernel
theorem dX8_leastFor_26 : decode cX8_leastFor 26 = .ok (.ldc 33, 2) := by decide +kernel
theorem dX8_leastFor_28 : decode cX8_leastFor 28 = .ok (.ireturn, 1) := by decide +kernel
theorem dX8_isLess_0 : decode cX8_isLess 0 = .ok (.aload_n 0, 1) := by decide +kernel
theorem dX8_isLess_1 : decode cX8_isLess 1 = .ok (.iload_n 1, 1) := by decide +kernel
theorem dX8_isLess_2 : decode cX8_isLess 2 = .ok (.invokevirtual 21, 3) := by decide +kernel
theorem dX8_isLess_5 : decode cX8_isLess 5 = .ok (.istore_n 3, 1) := by decide +kernel
theorem dX8_isLess_6 : decode cX8_isLess 6 = .ok (.aload_n 0, 1) := by decide +kernel
theorem dX8_isLess_7 : decode cX8_isLess 7 = .ok (.aload_n 0, 1) := by decide +kernel
theorem dX8_isLess_8 : decode cX8_isLess 8 = .ok (.getfield 9, 3) := by decide +kernel
theorem dX8_isLess_11 : decode cX8_isLess 11 = .ok (.iload_n 3, 1) := by decide +kernel
theorem dX8_isLess_12 : decode cX8_isLess 12 = .ok (.laload, 1) := by decide +kernel
theorem dX8_isLess_13 : decode cX8_isLess 13 = .ok (.invokevirtual 25, 3) := by decide +kernel
theorem dX8_isLess_16 : decode cX8_isLess 16 = .ok (.ifCond .ne 7, 3) := by decide +kernel
theorem dX8_isLess_19 : decode cX8_isLess 19 = .ok (.iconst 1, 1) := by decide +kernel
theorem dX8_isLess_20 : decode cX8_isLess 20 = .ok (.goto 4, 3) := by decide +kernel
theorem dX8_isLess_23 : decode cX8_isLess 23 = .ok (.iconst 0, 1) := by decide +kernel
theorem dX8_isLess_24 : decode cX8_isLess 24 = .ok (.istore 4, 2) := by decide +kernel
theorem dX8_isLess_26 : decode cX8_isLess 26 = .ok (.iload 4, 2) := by decide +kernel
theorem dX8_isLess_28 : decode cX8_isLess 28 = .ok (.ifCond .ne 18, 3) := by decide +kernel
theorem dX8_isLess_31 : decode cX8_isLess 31 = .ok (.iload_n 2, 1) := by decide +kernel
theorem dX8_isLess_32 : decode cX8_isLess 32 = .ok (.aload_n 0, 1) := by decide +kernel
theorem dX8_isLess_33 : decode cX8_isLess 33 = .ok (.getfield 9, 3) := by decide +kernel
theorem dX8_isLess_36 : decode cX8_isLess 36 = .ok (.iload_n 3, 1) := by decide +kernel
theorem dX8_isLess_37 : decode cX8_isLess 37 = .ok (.laload, 1) := by decide +kernel
theorem dX8_isLess_38 : decode cX8_isLess 38 = .ok (.invokestatic 29, 3) := by decide +kernel
theorem dX8_isLess_41 : decode cX8_isLess 41 = .ok (.if_icmp .lt 5, 3) := by decide +kernel
theorem dX8_isLess_44 : decode cX8_isLess 44 = .ok (.iconst 0, 1) := by decide +kernel
theorem dX8_isLess_45 : decode cX8_isLess 45 = .ok (.ireturn, 1) := by decide +kernel
theorem dX8_isLess_46 : decode cX8_isLess 46 = .ok (.aload_n 0, 1) := by decide +kernel
theorem dX8_isLess_47 : decode cX8_isLess 47 = .ok (.getfield 9, 3) := by decide +kernel
theorem dX8_isLess_50 : decode cX8_isLess 50 = .ok (.iload_n 3, 1) := by decide +kernel
theorem dX8_isLess_51 : decode cX8_isLess 51 = .ok (.aload_n 0, 1) := by decide +kernel
theorem dX8_isLess_52 : decode cX8_isLess 52 = .ok (.getfield 17, 3) := by decide +kernel
theorem dX8_isLess_55 : decode cX8_isLess 55 = .ok (.bipush 16, 2) := by decide +kernel
theorem dX8_isLess_57 : decode cX8_isLess 57 = .ok (.lshl, 1) := by decide +kernel
theorem dX8_isLess_58 : decode cX8_isLess 58 = .ok (.iload_n 1, 1) := by decide +kernel
theorem dX8_isLess_59 : decode cX8_isLess 59 = .ok (.i2l, 1) := by decide +kernel
theorem dX8_isLess_60 : decode cX8_isLess 60 = .ok (.lor, 1) := by decide +kernel
theorem dX8_isLess_61 : decode cX8_isLess 61 = .ok (.bipush 8, 2) := by decide +kernel
theorem dX8_isLess_63 : decode cX8_isLess 63 = .ok (.lshl, 1) := by decide +kernel
theorem dX8_isLess_64 : decode cX8_isLess 64 = .ok (.iload_n 2, 1) := by decide +kernel
theorem dX8_isLess_65 : decode cX8_isLess 65 = .ok (.i2l, 1) := by decide +kernel
theorem dX8_isLess_66 : decode cX8_isLess 66 = .ok (.lor, 1) := by decide +kernel
theorem dX8_isLess_67 : decode cX8_isLess 67 = .ok (.lastore, 1) := by decide +kernel
theorem dX8_isLess_68 : decode cX8_isLess 68 = .ok (.iload 4, 2) := by decide +kernel
theorem dX8_isLess_70 : decode cX8_isLess 70 = .ok (.ifCond .eq 17, 3) := by decide +kernel
theorem dX8_isLess_73 : decode cX8_isLess 73 = .ok (.aload_n 0, 1) := by decide +kernel
theorem dX8_isLess_74 : decode cX8_isLess 74 = .ok (.dup, 1) := by decide +kernel
theorem dX8_isLess_75 : decode cX8_isLess 75 = .ok (.getfield 13, 3) := by decide +kernel
theorem dX8_isLess_78 : decode cX8_isLess 78 = .ok (.iconst 1, 1) := by decide +kernel
theorem dX8_isLess_79 : decode cX8_isLess 79 = .ok (.iadd, 1) := by decide +kernel
theorem dX8_isLess_80 : decode cX8_isLess 80 = .ok (.putfield 13, 3) := by decide +kernel
theorem dX8_isLess_83 : decode cX8_isLess 83 = .ok (.aload_n 0, 1) := by decide +kernel
theorem dX8_isLess_84 : decode cX8_isLess 84 = .ok (.invokevirtual 34, 3) := by decide +kernel
theorem dX8_isLess_87 : decode cX8_isLess 87 = .ok (.iconst 1, 1) := by decide +kernel
theorem dX8_isLess_88 : decode cX8_isLess 88 = .ok (.ireturn, 1) := by decide +kernel
theorem dX8_isOurs_0 : decode cX8_isOurs 0 = .ok (.lload_n 1, 1) := by decide +kernel
theorem dX8_isOurs_1 : decode cX8_isOurs 1 = .ok (.bipush 24, 2) := by decide +kernel
theorem dX8_isOurs_3 : decode cX8_isOurs 3 = .ok (.lshr, 1) := by decide +kernel
theorem dX8_isOurs_4 : decode cX8_isOurs 4 = .ok (.aload_n 0, 1) := by decide +kernel
theorem dX8_isOurs_5 : decode cX8_isOurs 5 = .ok (.getfield 17, 3) := by decide +kernel
theorem dX8_isOurs_8 : decode cX8_isOurs 8 = .ok (.lcmp, 1) := by decide +kernel
theorem dX8_isOurs_9 : decode cX8_isOurs 9 = .ok (.ifCond .ne 7, 3) := by decide +kernel
theorem dX8_isOurs_12 : decode cX8_isOurs 12 = .ok (.iconst 1, 1) := by decide +kernel
theorem dX8_isOurs_13 : decode cX8_isOurs 13 = .ok (.goto 4, 3) := by decide +kernel
theorem dX8_isOurs_16 : decode cX8_isOurs 16 = .ok (.iconst 0, 1) := by decide +kernel
theorem dX8_isOurs_17 : decode cX8_isOurs 17 = .ok (.ireturn, 1) := by decide +kernel
theorem dX8_breathOf_0 : decode cX8_breathOf 0 = .ok (.lload_n 0, 1) := by decide +kernel
theorem dX8_breathOf_1 : decode cX8_breathOf 1 = .ok (.l2i, 1) := by decide +kernel
theorem dX8_breathOf_2 : decode cX8_breathOf 2 = .ok (.sipush 255, 3) := by decide +kernel
theorem dX8_breathOf_5 : decode cX8_breathOf 5 = .ok (.iand, 1) := by decide +kernel
theorem dX8_breathOf_6 : decode cX8_breathOf 6 = .ok (.ireturn, 1) := by decide +kernel
theorem dX8_keyOf_0 : decode cX8_keyOf 0 = .ok (.lload_n 0, 1) := by decide +kernel
theorem dX8_keyOf_1 : decode cX8_keyOf 1 = .ok (.bipush 8, 2) := by decide +kernel
theorem dX8_keyOf_3 : decode cX8_keyOf 3 = .ok (.lshr, 1) := by decide +kernel
theorem dX8_keyOf_4 : decode cX8_keyOf 4 = .ok (.l2i, 1) := by decide +kernel
theorem dX8_keyOf_5 : decode cX8_keyOf 5 = .ok (.ldc 37, 2) := by decide +kernel
theorem dX8_keyOf_7 : decode cX8_keyOf 7 = .ok (.iand, 1) := by decide +kernel
theorem dX8_keyOf_8 : decode cX8_keyOf 8 = .ok (.ireturn, 1) := by decide +kernel
theorem dX8_slotFor_0 : decode cX8_slotFor 0 = .ok (.aload_n 0, 1) := by decide +kernel
theorem dX8_slotFor_1 : decode cX8_slotFor 1 = .ok (.getfield 9, 3) := by decide +kernel
theorem dX8_slotFor_4 : decode cX8_slotFor 4 = .ok (.arraylength, 1) := by decide +kernel
theorem dX8_slotFor_5 : decode cX8_slotFor 5 = .ok (.iconst 1, 1) := by decide +kernel
theorem dX8_slotFor_6 : decode cX8_slotFor 6 = .ok (.isub, 1) := by decide +kernel
theorem dX8_slotFor_7 : decode cX8_slotFor 7 = .ok (.istore_n 2, 1) := by decide +kernel
theorem dX8_slotFor_8 : decode cX8_slotFor 8 = .ok (.iload_n 1, 1) := by decide +kernel
theorem dX8_slotFor_9 : decode cX8_slotFor 9 = .ok (.ldc 38, 2) := by decide +kernel
theorem dX8_slotFor_11 : decode cX8_slotFor 11 = .ok (.imul, 1) := by decide +kernel
theorem dX8_slotFor_12 : decode cX8_slotFor 12 = .ok (.iconst 4, 1) := by decide +kernel
theorem dX8_slotFor_13 : decode cX8_slotFor 13 = .ok (.iushr, 1) := by decide +kernel
theorem dX8_slotFor_14 : decode cX8_slotFor 14 = .ok (.iload_n 2, 1) := by decide +kernel
theorem dX8_slotFor_15 : decode cX8_slotFor 15 = .ok (.iand, 1) := by decide +kernel
theorem dX8_slotFor_16 : decode cX8_slotFor 16 = .ok (.istore_n 3, 1) := by decide +kernel
theorem dX8_slotFor_17 : decode cX8_slotFor 17 = .ok (.iconst 0, 1) := by decide +kernel
theorem dX8_slotFor_18 : decode cX8_slotFor 18 = .ok (.istore 4, 2) := by decide +kernel
theorem dX8_slotFor_20 : decode cX8_slotFor 20 = .ok (.iload 4, 2) := by decide +kernel
theorem dX8_slotFor_22 : decode cX8_slotFor 22 = .ok (.iload_n 2, 1) := by decide +kernel
theorem dX8_slotFor_23 : decode cX8_slotFor 23 = .ok (.if_icmp .ge 41, 3) := by decide +kernel
theorem dX8_slotFor_26 : decode cX8_slotFor 26 = .ok (.aload_n 0, 1) := by decide +kernel
theorem dX8_slotFor_27 : decode cX8_slotFor 27 = .ok (.aload_n 0, 1) := by decide +kernel
theorem dX8_slotFor_28 : decode cX8_slotFor 28 = .ok (.getfield 9, 3) := by decide +kernel
theorem dX8_slotFor_31 : decode cX8_slotFor 31 = .ok (.iload_n 3, 1) := by decide +kernel
theorem dX8_slotFor_32 : decode cX8_slotFor 32 = .ok (.laload, 1) := by decide +kernel
theorem dX8_slotFor_33 : decode cX8_slotFor 33 = .ok (.invokevirtual 25, 3) := by decide +kernel
theorem dX8_slotFor_36 : decode cX8_slotFor 36 = .ok (.ifCond .eq 28, 3) := by decide +kernel
theorem dX8_slotFor_39 : decode cX8_slotFor 39 = .ok (.aload_n 0, 1) := by decide +kernel
theorem dX8_slotFor_40 : decode cX8_slotFor 40 = .ok (.getfield 9, 3) := by decide +kernel
theorem dX8_slotFor_43 : decode cX8_slotFor 43 = .ok (.iload_n 3, 1) := by decide +kernel
theorem dX8_slotFor_44 : decode cX8_slotFor 44 = .ok (.laload, 1) := by decide +kernel
theorem dX8_slotFor_45 : decode cX8_slotFor 45 = .ok (.invokestatic 39, 3) := by decide +kernel
theorem dX8_slotFor_48 : decode cX8_slotFor 48 = .ok (.iload_n 1, 1) := by decide +kernel
theorem dX8_slotFor_49 : decode cX8_slotFor 49 = .ok (.if_icmp .eq 15, 3) := by decide +kernel
theorem dX8_slotFor_52 : decode cX8_slotFor 52 = .ok (.iload_n 3, 1) := by decide +kernel
theorem dX8_slotFor_53 : decode cX8_slotFor 53 = .ok (.iconst 1, 1) := by decide +kernel
theorem dX8_slotFor_54 : decode cX8_slotFor 54 = .ok (.iadd, 1) := by decide +kernel
theorem dX8_slotFor_55 : decode cX8_slotFor 55 = .ok (.iload_n 2, 1) := by decide +kernel
theorem dX8_slotFor_56 : decode cX8_slotFor 56 = .ok (.iand, 1) := by decide +kernel
theorem dX8_slotFor_57 : decode cX8_slotFor 57 = .ok (.istore_n 3, 1) := by decide +kernel
theorem dX8_slotFor_58 : decode cX8_slotFor 58 = .ok (.iinc 4 1, 3) := by decide +kernel
theorem dX8_slotFor_61 : decode cX8_slotFor 61 = .ok (.goto (-41), 3) := by decide +kernel
theorem dX8_slotFor_64 : decode cX8_slotFor 64 = .ok (.iload_n 3, 1) := by decide +kernel
theorem dX8_slotFor_65 : decode cX8_slotFor 65 = .ok (.ireturn, 1) := by decide +kernel
theorem dX8_grow_0 : decode cX8_grow 0 = .ok (.iconst 2, 1) := by decide +kernel
theorem dX8_grow_1 : decode cX8_grow 1 = .ok (.aload_n 0, 1) := by decide +kernel
theorem dX8_grow_2 : decode cX8_grow 2 = .ok (.getfield 13, 3) := by decide +kernel
theorem dX8_grow_5 : decode cX8_grow 5 = .ok (.imul, 1) := by decide +kernel
theorem dX8_grow_6 : decode cX8_grow 6 = .ok (.aload_n 0, 1) := by decide +kernel
theorem dX8_grow_7 : decode cX8_grow 7 = .ok (.getfield 9, 3) := by decide +kernel
theorem dX8_grow_10 : decode cX8_grow 10 = .ok (.arraylength, 1) := by decide +kernel
theorem dX8_grow_11 : decode cX8_grow 11 = .ok (.if_icmp .le 13, 3) := by decide +kernel
theorem dX8_grow_14 : decode cX8_grow 14 = .ok (.aload_n 0, 1) := by decide +kernel
theorem dX8_grow_15 : decode cX8_grow 15 = .ok (.getfield 9, 3) := by decide +kernel
theorem dX8_grow_18 : decode cX8_grow 18 = .ok (.arraylength, 1) := by decide +kernel
theorem dX8_grow_19 : decode cX8_grow 19 = .ok (.ldc 42, 2) := by decide +kernel
theorem dX8_grow_21 : decode cX8_grow 21 = .ok (.if_icmp .lt 4, 3) := by decide +kernel
theorem dX8_grow_24 : decode cX8_grow 24 = .ok (.return_, 1) := by decide +kernel
theorem dX8_grow_25 : decode cX8_grow 25 = .ok (.aload_n 0, 1) := by decide +kernel
theorem dX8_grow_26 : decode cX8_grow 26 = .ok (.getfield 9, 3) := by decide +kernel
theorem dX8_grow_29 : decode cX8_grow 29 = .ok (.astore_n 1, 1) := by decide +kernel
theorem dX8_grow_30 : decode cX8_grow 30 = .ok (.aload_n 0, 1) := by decide +kernel
theorem dX8_grow_31 : decode cX8_grow 31 = .ok (.iconst 2, 1) := by decide +kernel
theorem dX8_grow_32 : decode cX8_grow 32 = .ok (.aload_n 1, 1) := by decide +kernel
theorem dX8_grow_33 : decode cX8_grow 33 = .ok (.arraylength, 1) := by decide +kernel
theorem dX8_grow_34 : decode cX8_grow 34 = .ok (.imul, 1) := by decide +kernel
theorem dX8_grow_35 : decode cX8_grow 35 = .ok (.newarray .long, 2) := by decide +kernel
theorem dX8_grow_37 : decode cX8_grow 37 = .ok (.putfield 9, 3) := by decide +kernel
theorem dX8_grow_40 : decode cX8_grow 40 = .ok (.iconst 0, 1) := by decide +kernel
theorem dX8_grow_41 : decode cX8_grow 41 = .ok (.istore_n 2, 1) := by decide +kernel
theorem dX8_grow_42 : decode cX8_grow 42 = .ok (.iload_n 2, 1) := by decide +kernel
theorem dX8_grow_43 : decode cX8_grow 43 = .ok (.aload_n 1, 1) := by decide +kernel
theorem dX8_grow_44 : decode cX8_grow 44 = .ok (.arraylength, 1) := by decide +kernel
theorem dX8_grow_45 : decode cX8_grow 45 = .ok (.if_icmp .ge 37, 3) := by decide +kernel
theorem dX8_grow_48 : decode cX8_grow 48 = .ok (.aload_n 0, 1) := by decide +kernel
theorem dX8_grow_49 : decode cX8_grow 49 = .ok (.aload_n 1, 1) := by decide +kernel
theorem dX8_grow_50 : decode cX8_grow 50 = .ok (.iload_n 2, 1) := by decide +kernel
theorem dX8_grow_51 : decode cX8_grow 51 = .ok (.laload, 1) := by decide +kernel
theorem dX8_grow_52 : decode cX8_grow 52 = .ok (.invokevirtual 25, 3) := by decide +kernel
theorem dX8_grow_55 : decode cX8_grow 55 = .ok (.ifCond .eq 21, 3) := by decide +kernel
theorem dX8_grow_58 : decode cX8_grow 58 = .ok (.aload_n 0, 1) := by decide +kernel
theorem dX8_grow_59 : decode cX8_grow 59 = .ok (.getfield 9, 3) := by decide +kernel
theorem dX8_grow_62 : decode cX8_grow 62 = .ok (.aload_n 0, 1) := by decide +kernel
theorem dX8_grow_63 : decode cX8_grow 63 = .ok (.aload_n 1, 1) := by decide +kernel
theorem dX8_grow_64 : decode cX8_grow 64 = .ok (.iload_n 2, 1) := by decide +kernel
theorem dX8_grow_65 : decode cX8_grow 65 = .ok (.laload, 1) := by decide +kernel
theorem dX8_grow_66 : decode cX8_grow 66 = .ok (.invokestatic 39, 3) := by decide +kernel
theorem dX8_grow_69 : decode cX8_grow 69 = .ok (.invokevirtual 21, 3) := by decide +kernel
theorem dX8_grow_72 : decode cX8_grow 72 = .ok (.aload_n 1, 1) := by decide +kernel
theorem dX8_grow_73 : decode cX8_grow 73 = .ok (.iload_n 2, 1) := by decide +kernel
theorem dX8_grow_74 : decode cX8_grow 74 = .ok (.laload, 1) := by decide +kernel
theorem dX8_grow_75 : decode cX8_grow 75 = .ok (.lastore, 1) := by decide +kernel
theorem dX8_grow_76 : decode cX8_grow 76 = .ok (.iinc 2 1, 3) := by decide +kernel
theorem dX8_grow_79 : decode cX8_grow 79 = .ok (.goto (-37), 3) := by decide +kernel
theorem dX8_grow_82 : decode cX8_grow 82 = .ok (.return_, 1) := by decide +kernel
theorem dX9_init_0 : decode cX9_init 0 = .ok (.aload_n 0, 1) := by decide +kernel
theorem dX9_init_1 : decode cX9_init 1 = .ok (.iload_n 1, 1) := by decide +kernel
theorem dX9_init_2 : decode cX9_init 2 = .ok (.iload_n 2, 1) := by decide +kernel
theorem dX9_init_3 : decode cX9_init 3 = .ok (.iload_n 3, 1) := by decide +kernel
theorem dX9_init_4 : decode cX9_init 4 = .ok (.invokespecial 1, 3) := by decide +kernel
theorem dX9_init_7 : decode cX9_init 7 = .ok (.return_, 1) := by decide +kernel
theorem dX9_next_0 : decode cX9_next 0 = .ok (.iload_n 3, 1) := by decide +kernel
theorem dX9_next_1 : decode cX9_next 1 = .ok (.iconst 1, 1) := by decide +kernel
theorem dX9_next_2 : decode cX9_next 2 = .ok (.iand, 1) := by decide +kernel
theorem dX9_next_3 : decode cX9_next 3 = .ok (.ifCond .ne 7, 3) := by decide +kernel
theorem dX9_next_6 : decode cX9_next 6 = .ok (.iload_n 1, 1) := by decide +kernel
theorem dX9_next_7 : decode cX9_next 7 = .ok (.goto 12, 3) := by decide +kernel
theorem dX9_next_10 : decode cX9_next 10 = .ok (.aload_n 0, 1) := by decide +kernel
