theorem dX0_init_0 : decode cX0_init 0 = .ok (.aload_n 0, 1) := by decide +kernel
theorem dX0_init_1 : decode cX0_init 1 = .ok (.invokespecial 3, 3) := by decide +kernel
theorem dX0_init_4 : decode cX0_init 4 = .ok (.aload_n 0, 1) := by decide +kernel
theorem dX0_init_5 : decode cX0_init 5 = .ok (.iconst 3, 1) := by decide +kernel
theorem dX0_init_6 : decode cX0_init 6 = .ok (.anewarray 9, 3) := by decide +kernel
theorem dX0_init_9 : decode cX0_init 9 = .ok (.dup, 1) := by decide +kernel
theorem dX0_init_10 : decode cX0_init 10 = .ok (.iconst 0, 1) := by decide +kernel
theorem dX0_init_11 : decode cX0_init 11 = .ok (.new 9, 3) := by decide +kernel
theorem dX0_init_14 : decode cX0_init 14 = .ok (.dup, 1) := by decide +kernel
theorem dX0_init_15 : decode cX0_init 15 = .ok (.invokespecial 11, 3) := by decide +kernel
theorem dX0_init_18 : decode cX0_init 18 = .ok (.aastore, 1) := by decide +kernel
theorem dX0_init_19 : decode cX0_init 19 = .ok (.dup, 1) := by decide +kernel
theorem dX0_init_20 : decode cX0_init 20 = .ok (.iconst 1, 1) := by decide +kernel
theorem dX0_init_21 : decode cX0_init 21 = .ok (.new 9, 3) := by decide +kernel
theorem dX0_init_24 : decode cX0_init 24 = .ok (.dup, 1) := by decide +kernel
theorem dX0_init_25 : decode cX0_init 25 = .ok (.invokespecial 11, 3) := by decide +kernel
theorem dX0_init_28 : decode cX0_init 28 = .ok (.aastore, 1) := by decide +kernel
theorem dX0_init_29 : decode cX0_init 29 = .ok (.dup, 1) := by decide +kernel
theorem dX0_init_30 : decode cX0_init 30 = .ok (.iconst 2, 1) := by decide +kernel
theorem dX0_init_31 : decode cX0_init 31 = .ok (.new 9, 3) := by decide +kernel
theorem dX0_init_34 : decode cX0_init 34 = .ok (.dup, 1) := by decide +kernel
theorem dX0_init_35 : decode cX0_init 35 = .ok (.invokespecial 11, 3) := by decide +kernel
theorem dX0_init_38 : decode cX0_init 38 = .ok (.aastore, 1) := by decide +kernel
theorem dX0_init_39 : decode cX0_init 39 = .ok (.putfield 12, 3) := by decide +kernel
theorem dX0_init_42 : decode cX0_init 42 = .ok (.aload_n 0, 1) := by decide +kernel
theorem dX0_init_43 : decode cX0_init 43 = .ok (.new 18, 3) := by decide +kernel
theorem dX0_init_46 : decode cX0_init 46 = .ok (.dup, 1) := by decide +kernel
theorem dX0_init_47 : decode cX0_init 47 = .ok (.invokespecial 20, 3) := by decide +kernel
theorem dX0_init_50 : decode cX0_init 50 = .ok (.putfield 21, 3) := by decide +kernel
theorem dX0_init_53 : decode cX0_init 53 = .ok (.aload_n 0, 1) := by decide +kernel
theorem dX0_init_54 : decode cX0_init 54 = .ok (.iconst 0, 1) := by decide +kernel
theorem dX0_init_55 : decode cX0_init 55 = .ok (.putfield 25, 3) := by decide +kernel
theorem dX0_init_58 : decode cX0_init 58 = .ok (.aload_n 0, 1) := by decide +kernel
theorem dX0_init_59 : decode cX0_init 59 = .ok (.iconst 0, 1) := by decide +kernel
theorem dX0_init_60 : decode cX0_init 60 = .ok (.putfield 29, 3) := by decide +kernel
theorem dX0_init_63 : decode cX0_init 63 = .ok (.aload_n 0, 1) := by decide +kernel
theorem dX0_init_64 : decode cX0_init 64 = .ok (.iconst 0, 1) := by decide +kernel
theorem dX0_init_65 : decode cX0_init 65 = .ok (.putfield 32, 3) := by decide +kernel
theorem dX0_init_68 : decode cX0_init 68 = .ok (.aload_n 0, 1) := by decide +kernel
theorem dX0_init_69 : decode cX0_init 69 = .ok (.bipush 32, 2) := by decide +kernel
theorem dX0_init_71 : decode cX0_init 71 = .ok (.newarray .long, 2) := by decide +kernel
theorem dX0_init_73 : decode cX0_init 73 = .ok (.putfield 36, 3) := by decide +kernel
theorem dX0_init_76 : decode cX0_init 76 = .ok (.aload_n 0, 1) := by decide +kernel
theorem dX0_init_77 : decode cX0_init 77 = .ok (.bipush 32, 2) := by decide +kernel
theorem dX0_init_79 : decode cX0_init 79 = .ok (.newarray .long, 2) := by decide +kernel
theorem dX0_init_81 : decode cX0_init 81 = .ok (.putfield 40, 3) := by decide +kernel
theorem dX0_init_84 : decode cX0_init 84 = .ok (.aload_n 0, 1) := by decide +kernel
theorem dX0_init_85 : decode cX0_init 85 = .ok (.iconst 0, 1) := by decide +kernel
theorem dX0_init_86 : decode cX0_init 86 = .ok (.putfield 43, 3) := by decide +kernel
theorem dX0_init_89 : decode cX0_init 89 = .ok (.aload_n 0, 1) := by decide +kernel
theorem dX0_init_90 : decode cX0_init 90 = .ok (.iconst 1, 1) := by decide +kernel
theorem dX0_init_91 : decode cX0_init 91 = .ok (.putfield 46, 3) := by decide +kernel
theorem dX0_init_94 : decode cX0_init 94 = .ok (.aload_n 0, 1) := by decide +kernel
theorem dX0_init_95 : decode cX0_init 95 = .ok (.ldc 49, 2) := by decide +kernel
theorem dX0_init_97 : decode cX0_init 97 = .ok (.putfield 50, 3) := by decide +kernel
theorem dX0_init_100 : decode cX0_init 100 = .ok (.aload_n 0, 1) := by decide +kernel
theorem dX0_init_101 : decode cX0_init 101 = .ok (.iconst 0, 1) := by decide +kernel
theorem dX0_init_102 : decode cX0_init 102 = .ok (.putfield 53, 3) := by decide +kernel
theorem dX0_init_105 : decode cX0_init 105 = .ok (.return_, 1) := by decide +kernel
theorem dX0_follow_0 : decode cX0_follow 0 = .ok (.aload_n 0, 1) := by decide +kernel
theorem dX0_follow_1 : decode cX0_follow 1 = .ok (.iconst 0, 1) := by decide +kernel
theorem dX0_follow_2 : decode cX0_follow 2 = .ok (.putfield 25, 3) := by decide +kernel
theorem dX0_follow_5 : decode cX0_follow 5 = .ok (.aload_n 0, 1) := by decide +kernel
theorem dX0_follow_6 : decode cX0_follow 6 = .ok (.iconst 0, 1) := by decide +kernel
theorem dX0_follow_7 : decode cX0_follow 7 = .ok (.putfield 29, 3) := by decide +kernel
theorem dX0_follow_10 : decode cX0_follow 10 = .ok (.aload_n 0, 1) := by decide +kernel
theorem dX0_follow_11 : decode cX0_follow 11 = .ok (.iconst 0, 1) := by decide +kernel
theorem dX0_follow_12 : decode cX0_follow 12 = .ok (.putfield 32, 3) := by decide +kernel
theorem dX0_follow_15 : decode cX0_follow 15 = .ok (.iconst 0, 1) := by decide +kernel
theorem dX0_follow_16 : decode cX0_follow 16 = .ok (.istore 4, 2) := by decide +kernel
theorem dX0_follow_18 : decode cX0_follow 18 = .ok (.iload 4, 2) := by decide +kernel
theorem dX0_follow_20 : decode cX0_follow 20 = .ok (.iconst 3, 1) := by decide +kernel
theorem dX0_follow_21 : decode cX0_follow 21 = .ok (.if_icmp .ge 49, 3) := by decide +kernel
theorem dX0_follow_24 : decode cX0_follow 24 = .ok (.aload_n 1, 1) := by decide +kernel
theorem dX0_follow_25 : decode cX0_follow 25 = .ok (.iload 4, 2) := by decide +kernel
theorem dX0_follow_27 : decode cX0_follow 27 = .ok (.invokevirtual 56, 3) := by decide +kernel
theorem dX0_follow_30 : decode cX0_follow 30 = .ok (.astore 5, 2) := by decide +kernel
theorem dX0_follow_32 : decode cX0_follow 32 = .ok (.aload 5, 2) := by decide +kernel
theorem dX0_follow_34 : decode cX0_follow 34 = .ok (.ifnull 30, 3) := by decide +kernel
theorem dX0_follow_37 : decode cX0_follow 37 = .ok (.iload_n 2, 1) := by decide +kernel
theorem dX0_follow_38 : decode cX0_follow 38 = .ok (.iload 4, 2) := by decide +kernel
theorem dX0_follow_40 : decode cX0_follow 40 = .ok (.invokestatic 62, 3) := by decide +kernel
theorem dX0_follow_43 : decode cX0_follow 43 = .ok (.ifCond .eq 21, 3) := by decide +kernel
theorem dX0_follow_46 : decode cX0_follow 46 = .ok (.aload_n 0, 1) := by decide +kernel
theorem dX0_follow_47 : decode cX0_follow 47 = .ok (.aload 5, 2) := by decide +kernel
theorem dX0_follow_49 : decode cX0_follow 49 = .ok (.aload_n 1, 1) := by decide +kernel
theorem dX0_follow_50 : decode cX0_follow 50 = .ok (.iload_n 3, 1) := by decide +kernel
theorem dX0_follow_51 : decode cX0_follow 51 = .ok (.aload_n 1, 1) := by decide +kernel
theorem dX0_follow_52 : decode cX0_follow 52 = .ok (.invokevirtual 66, 3) := by decide +kernel
theorem dX0_follow_55 : decode cX0_follow 55 = .ok (.iconst 1, 1) := by decide +kernel
theorem dX0_follow_56 : decode cX0_follow 56 = .ok (.aload_n 1, 1) := by decide +kernel
theorem dX0_follow_57 : decode cX0_follow 57 = .ok (.getfield 70, 3) := by decide +kernel
theorem dX0_follow_60 : decode cX0_follow 60 = .ok (.ishl, 1) := by decide +kernel
theorem dX0_follow_61 : decode cX0_follow 61 = .ok (.invokevirtual 73, 3) := by decide +kernel
theorem dX0_follow_64 : decode cX0_follow 64 = .ok (.iinc 4 1, 3) := by decide +kernel
theorem dX0_follow_67 : decode cX0_follow 67 = .ok (.goto (-49), 3) := by decide +kernel
theorem dX0_follow_70 : decode cX0_follow 70 = .ok (.return_, 1) := by decide +kernel
theorem dX0_addLane_0 : decode cX0_addLane 0 = .ok (.aload_n 0, 1) := by decide +kernel
theorem dX0_addLane_1 : decode cX0_addLane 1 = .ok (.getfield 25, 3) := by decide +kernel
theorem dX0_addLane_4 : decode cX0_addLane 4 = .ok (.iconst 3, 1) := by decide +kernel
theorem dX0_addLane_5 : decode cX0_addLane 5 = .ok (.if_icmp .lt 4, 3) := by decide +kernel
theorem dX0_addLane_8 : decode cX0_addLane 8 = .ok (.return_, 1) := by decide +kernel
theorem dX0_addLane_9 : decode cX0_addLane 9 = .ok (.aload_n 0, 1) := by decide +kernel
theorem dX0_addLane_10 : decode cX0_addLane 10 = .ok (.getfield 12, 3) := by decide +kernel
theorem dX0_addLane_13 : decode cX0_addLane 13 = .ok (.aload_n 0, 1) := by decide +kernel
theorem dX0_addLane_14 : decode cX0_addLane 14 = .ok (.getfield 25, 3) := by decide +kernel
theorem dX0_addLane_17 : decode cX0_addLane 17 = .ok (.aaload, 1) := by decide +kernel
theorem dX0_addLane_18 : decode cX0_addLane 18 = .ok (.astore 6, 2) := by decide +kernel
theorem dX0_addLane_20 : decode cX0_addLane 20 = .ok (.aload 6, 2) := by decide +kernel
theorem dX0_addLane_22 : decode cX0_addLane 22 = .ok (.aload_n 1, 1) := by decide +kernel
theorem dX0_addLane_23 : decode cX0_addLane 23 = .ok (.aload_n 2, 1) := by decide +kernel
theorem dX0_addLane_24 : decode cX0_addLane 24 = .ok (.getfield 77, 3) := by decide +kernel
theorem dX0_addLane_27 : decode cX0_addLane 27 = .ok (.iload_n 3, 1) := by decide +kernel
theorem dX0_addLane_28 : decode cX0_addLane 28 = .ok (.invokevirtual 80, 3) := by decide +kernel
theorem dX0_addLane_31 : decode cX0_addLane 31 = .ok (.aload 6, 2) := by decide +kernel
theorem dX0_addLane_33 : decode cX0_addLane 33 = .ok (.iload 5, 2) := by decide +kernel
theorem dX0_addLane_35 : decode cX0_addLane 35 = .ok (.invokevirtual 84, 3) := by decide +kernel
theorem dX0_addLane_38 : decode cX0_addLane 38 = .ok (.aload_n 0, 1) := by decide +kernel
theorem dX0_addLane_39 : decode cX0_addLane 39 = .ok (.dup, 1) := by decide +kernel
theorem dX0_addLane_40 : decode cX0_addLane 40 = .ok (.getfield 29, 3) := by decide +kernel
theorem dX0_addLane_43 : decode cX0_addLane 43 = .ok (.iload 4, 2) := by decide +kernel
theorem dX0_addLane_45 : decode cX0_addLane 45 = .ok (.iconst 5, 1) := by decide +kernel
theorem dX0_addLane_46 : decode cX0_addLane 46 = .ok (.aload_n 0, 1) := by decide +kernel
theorem dX0_addLane_47 : decode cX0_addLane 47 = .ok (.getfield 25, 3) := by decide +kernel
theorem dX0_addLane_50 : decode cX0_addLane 50 = .ok (.imul, 1) := by decide +kernel
theorem dX0_addLane_51 : decode cX0_addLane 51 = .ok (.ishl, 1) := by decide +kernel
theorem dX0_addLane_52 : decode cX0_addLane 52 = .ok (.ior, 1) := by decide +kernel
theorem dX0_addLane_53 : decode cX0_addLane 53 = .ok (.putfield 29, 3) := by decide +kernel
theorem dX0_addLane_56 : decode cX0_addLane 56 = .ok (.aload_n 0, 1) := by decide +kernel
theorem dX0_addLane_57 : decode cX0_addLane 57 = .ok (.dup, 1) := by decide +kernel
theorem dX0_addLane_58 : decode cX0_addLane 58 = .ok (.getfield 32, 3) := by decide +kernel
theorem dX0_addLane_61 : decode cX0_addLane 61 = .ok (.aload_n 1, 1) := by decide +kernel
theorem dX0_addLane_62 : decode cX0_addLane 62 = .ok (.invokevirtual 88, 3) := by decide +kernel
theorem dX0_addLane_65 : decode cX0_addLane 65 = .ok (.ior, 1) := by decide +kernel
theorem dX0_addLane_66 : decode cX0_addLane 66 = .ok (.putfield 32, 3) := by decide +kernel
theorem dX0_addLane_69 : decode cX0_addLane 69 = .ok (.aload_n 0, 1) := by decide +kernel
theorem dX0_addLane_70 : decode cX0_addLane 70 = .ok (.dup, 1) := by decide +kernel
theorem dX0_addLane_71 : decode cX0_addLane 71 = .ok (.getfield 25, 3) := by decide +kernel
theorem dX0_addLane_74 : decode cX0_addLane 74 = .ok (.iconst 1, 1) := by decide +kernel
theorem dX0_addLane_75 : decode cX0_addLane 75 = .ok (.iadd, 1) := by decide +kernel
theorem dX0_addLane_76 : decode cX0_addLane 76 = .ok (.putfield 25, 3) := by decide +kernel
theorem dX0_addLane_79 : decode cX0_addLane 79 = .ok (.return_, 1) := by decide +kernel
theorem dX0_seek_0 : decode cX0_seek 0 = .ok (.aload_n 0, 1) := by decide +kernel
theorem dX0_seek_1 : decode cX0_seek 1 = .ok (.getfield 21, 3) := by decide +kernel
theorem dX0_seek_4 : decode cX0_seek 4 = .ok (.invokevirtual 93, 3) := by decide +kernel
theorem dX0_seek_7 : decode cX0_seek 7 = .ok (.aload_n 0, 1) := by decide +kernel
theorem dX0_seek_8 : decode cX0_seek 8 = .ok (.iload_n 1, 1) := by decide +kernel
theorem dX0_seek_9 : decode cX0_seek 9 = .ok (.iload_n 2, 1) := by decide +kernel
theorem dX0_seek_10 : decode cX0_seek 10 = .ok (.invokestatic 96, 3) := by decide +kernel
theorem dX0_seek_13 : decode cX0_seek 13 = .ok (.putfield 46, 3) := by decide +kernel
theorem dX0_seek_16 : decode cX0_seek 16 = .ok (.aload_n 0, 1) := by decide +kernel
theorem dX0_seek_17 : decode cX0_seek 17 = .ok (.ldc 49, 2) := by decide +kernel
theorem dX0_seek_19 : decode cX0_seek 19 = .ok (.putfield 50, 3) := by decide +kernel
theorem dX0_seek_22 : decode cX0_seek 22 = .ok (.aload_n 0, 1) := by decide +kernel
theorem dX0_seek_23 : decode cX0_seek 23 = .ok (.iconst 0, 1) := by decide +kernel
theorem dX0_seek_24 : decode cX0_seek 24 = .ok (.putfield 53, 3) := by decide +kernel
theorem dX0_seek_27 : decode cX0_seek 27 = .ok (.aload_n 0, 1) := by decide +kernel
theorem dX0_seek_28 : decode cX0_seek 28 = .ok (.iconst 0, 1) := by decide +kernel
theorem dX0_seek_29 : decode cX0_seek 29 = .ok (.putfield 43, 3) := by decide +kernel
theorem dX0_seek_32 : decode cX0_seek 32 = .ok (.aload_n 0, 1) := by decide +kernel
theorem dX0_seek_33 : decode cX0_seek 33 = .ok (.iconst 0, 1) := by decide +kernel
theorem dX0_seek_34 : decode cX0_seek 34 = .ok (.aload_n 0, 1) := by decide +kernel
theorem dX0_seek_35 : decode cX0_seek 35 = .ok (.getfield 29, 3) := by decide +kernel
theorem dX0_seek_38 : decode cX0_seek 38 = .ok (.iconst 0, 1) := by decide +kernel
theorem dX0_seek_39 : decode cX0_seek 39 = .ok (.iconst 0, 1) := by decide +kernel
theorem dX0_seek_40 : decode cX0_seek 40 = .ok (.invokevirtual 102, 3) := by decide +kernel
theorem dX0_seek_43 : decode cX0_seek 43 = .ok (.iconst 0, 1) := by decide +kernel
theorem dX0_seek_44 : decode cX0_seek 44 = .ok (.istore_n 3, 1) := by decide +kernel
theorem dX0_seek_45 : decode cX0_seek 45 = .ok (.iload_n 3, 1) := by decide +kernel
theorem dX0_seek_46 : decode cX0_seek 46 = .ok (.bipush 20, 2) := by decide +kernel
theorem dX0_seek_48 : decode cX0_seek 48 = .ok (.if_icmp .ge 63, 3) := by decide +kernel
theorem dX0_seek_51 : decode cX0_seek 51 = .ok (.aload_n 0, 1) := by decide +kernel
theorem dX0_seek_52 : decode cX0_seek 52 = .ok (.getfield 43, 3) := by decide +kernel
theorem dX0_seek_55 : decode cX0_seek 55 = .ok (.ifCond .le 56, 3) := by decide +kernel
theorem dX0_seek_58 : decode cX0_seek 58 = .ok (.aload_n 0, 1) := by decide +kernel
theorem dX0_seek_59 : decode cX0_seek 59 = .ok (.iload_n 3, 1) := by decide +kernel
theorem dX0_seek_60 : decode cX0_seek 60 = .ok (.invokevirtual 106, 3) := by decide +kernel
theorem dX0_seek_63 : decode cX0_seek 63 = .ok (.istore 4, 2) := by decide +kernel
theorem dX0_seek_65 : decode cX0_seek 65 = .ok (.iconst 0, 1) := by decide +kernel
theorem dX0_seek_66 : decode cX0_seek 66 = .ok (.istore 5, 2) := by decide +kernel
theorem dX0_seek_68 : decode cX0_seek 68 = .ok (.iload 5, 2) := by decide +kernel
theorem dX0_seek_70 : decode cX0_seek 70 = .ok (.iload 4, 2) := by decide +kernel
theorem dX0_seek_72 : decode cX0_seek 72 = .ok (.if_icmp .ge 33, 3) := by decide +kernel
theorem dX0_seek_75 : decode cX0_seek 75 = .ok (.iload 5, 2) := by decide +kernel
theorem dX0_seek_77 : decode cX0_seek 77 = .ok (.aload_n 0, 1) := by decide +kernel
theorem dX0_seek_78 : decode cX0_seek 78 = .ok (.getfield 36, 3) := by decide +kernel
theorem dX0_seek_81 : decode cX0_seek 81 = .ok (.arraylength, 1) := by decide +kernel
theorem dX0_seek_82 : decode cX0_seek 82 = .ok (.if_icmp .ge 23, 3) := by decide +kernel
theorem dX0_seek_85 : decode cX0_seek 85 = .ok (.aload_n 0, 1) := by decide +kernel
theorem dX0_seek_86 : decode cX0_seek 86 = .ok (.iload_n 3, 1) := by decide +kernel
theorem dX0_seek_87 : decode cX0_seek 87 = .ok (.aload_n 0, 1) := by decide +kernel
theorem dX0_seek_88 : decode cX0_seek 88 = .ok (.getfield 36, 3) := by decide +kernel
theorem dX0_seek_91 : decode cX0_seek 91 = .ok (.iload 5, 2) := by decide +kernel
theorem dX0_seek_93 : decode cX0_seek 93 = .ok (.laload, 1) := by decide +kernel
theorem dX0_seek_94 : decode cX0_seek 94 = .ok (.iload_n 1, 1) := by decide +kernel
theorem dX0_seek_95 : decode cX0_seek 95 = .ok (.iload_n 2, 1) := by decide +kernel
theorem dX0_seek_96 : decode cX0_seek 96 = .ok (.invokevirtual 110, 3) := by decide +kernel
theorem dX0_seek_99 : decode cX0_seek 99 = .ok (.iinc 5 1, 3) := by decide +kernel
theorem dX0_seek_102 : decode cX0_seek 102 = .ok (.goto (-34), 3) := by decide +kernel
theorem dX0_seek_105 : decode cX0_seek 105 = .ok (.iinc 3 1, 3) := by decide +kernel
theorem dX0_seek_108 : decode cX0_seek 108 = .ok (.goto (-63), 3) := by decide +kernel
theorem dX0_seek_111 : decode cX0_seek 111 = .ok (.aload_n 0, 1) := by decide +kernel
theorem dX0_seek_112 : decode cX0_seek 112 = .ok (.getfield 50, 3) := by decide +kernel
theorem dX0_seek_115 : decode cX0_seek 115 = .ok (.ldc 49, 2) := by decide +kernel
theorem dX0_seek_117 : decode cX0_seek 117 = .ok (.if_icmp .eq 7, 3) := by decide +kernel
theorem dX0_seek_120 : decode cX0_seek 120 = .ok (.iconst 1, 1) := by decide +kernel
theorem dX0_seek_121 : decode cX0_seek 121 = .ok (.goto 4, 3) := by decide +kernel
theorem dX0_seek_124 : decode cX0_seek 124 = .ok (.iconst 0, 1) := by decide +kernel
theorem dX0_seek_125 : decode cX0_seek 125 = .ok (.ireturn, 1) := by decide +kernel
theorem dX0_leastBreathFound_0 : decode cX0_leastBreathFound 0 = .ok (.aload_n 0, 1) := by decide +kernel
theorem dX0_leastBreathFound_1 : decode cX0_leastBreathFound 1 = .ok (.getfield 50, 3) := by decide +kernel
theorem dX0_leastBreathFound_4 : decode cX0_leastBreathFound 4 = .ok (.ireturn, 1) := by decide +kernel
theorem dX0_shortest_0 : decode cX0_shortest 0 = .ok (.iload_n 1, 1) := by decide +kernel
theorem dX0_shortest_1 : decode cX0_shortest 1 = .ok (.ifCond .ne 10, 3) := by decide +kernel
theorem dX0_shortest_4 : decode cX0_shortest 4 = .ok (.aload_n 0, 1) := by decide +kernel
theorem dX0_shortest_5 : decode cX0_shortest 5 = .ok (.getfield 50, 3) := by decide +kernel
theorem dX0_shortest_8 : decode cX0_shortest 8 = .ok (.goto 7, 3) := by decide +kernel
theorem dX0_shortest_11 : decode cX0_shortest 11 = .ok (.aload_n 0, 1) := by decide +kernel
theorem dX0_shortest_12 : decode cX0_shortest 12 = .ok (.getfield 53, 3) := by decide +kernel
theorem dX0_shortest_15 : decode cX0_shortest 15 = .ok (.ireturn, 1) := by decide +kernel
theorem dX0_takeLater_0 : decode cX0_takeLater 0 = .ok (.aload_n 0, 1) := by decide +kernel
theorem dX0_takeLater_1 : decode cX0_takeLater 1 = .ok (.getfield 36, 3) := by decide +kernel
theorem dX0_takeLater_4 : decode cX0_takeLater 4 = .ok (.astore_n 2, 1) := by decide +kernel
theorem dX0_takeLater_5 : decode cX0_takeLater 5 = .ok (.aload_n 0, 1) := by decide +kernel
theorem dX0_takeLater_6 : decode cX0_takeLater 6 = .ok (.aload_n 0, 1) := by decide +kernel
theorem dX0_takeLater_7 : decode cX0_takeLater 7 = .ok (.getfield 40, 3) := by decide +kernel
theorem dX0_takeLater_10 : decode cX0_takeLater 10 = .ok (.putfield 36, 3) := by decide +kernel
theorem dX0_takeLater_13 : decode cX0_takeLater 13 = .ok (.aload_n 0, 1) := by decide +kernel
theorem dX0_takeLater_14 : decode cX0_takeLater 14 = .ok (.aload_n 2, 1) := by decide +kernel
theorem dX0_takeLater_15 : decode cX0_takeLater 15 = .ok (.putfield 40, 3) := by decide +kernel
theorem dX0_takeLater_18 : decode cX0_takeLater 18 = .ok (.iconst 0, 1) := by decide +kernel
theorem dX0_takeLater_19 : decode cX0_takeLater 19 = .ok (.istore_n 3, 1) := by decide +kernel
theorem dX0_takeLater_20 : decode cX0_takeLater 20 = .ok (.iconst 0, 1) := by decide +kernel
theorem dX0_takeLater_21 : decode cX0_takeLater 21 = .ok (.istore 4, 2) := by decide +kernel
theorem dX0_takeLater_23 : decode cX0_takeLater 23 = .ok (.iload 4, 2) := by decide +kernel
theorem dX0_takeLater_25 : decode cX0_takeLater 25 = .ok (.aload_n 0, 1) := by decide +kernel
theorem dX0_takeLater_26 : decode cX0_takeLater 26 = .ok (.getfield 43, 3) := by decide +kernel
theorem dX0_takeLater_29 : decode cX0_takeLater 29 = .ok (.if_icmp .ge 69, 3) := by decide +kernel
theorem dX0_takeLater_32 : decode cX0_takeLater 32 = .ok (.iload 4, 2) := by decide +kernel
theorem dX0_takeLater_34 : decode cX0_takeLater 34 = .ok (.aload_n 0, 1) := by decide +kernel
theorem dX0_takeLater_35 : decode cX0_takeLater 35 = .ok (.getfield 36, 3) := by decide +kernel
theorem dX0_takeLater_38 : decode cX0_takeLater 38 = .ok (.arraylength, 1) := by decide +kernel
theorem dX0_takeLater_39 : decode cX0_takeLater 39 = .ok (.if_icmp .ge 59, 3) := by decide +kernel
theorem dX0_takeLater_42 : decode cX0_takeLater 42 = .ok (.aload_n 0, 1) := by decide +kernel
theorem dX0_takeLater_43 : decode cX0_takeLater 43 = .ok (.getfield 36, 3) := by decide +kernel
theorem dX0_takeLater_46 : decode cX0_takeLater 46 = .ok (.iload 4, 2) := by decide +kernel
theorem dX0_takeLater_48 : decode cX0_takeLater 48 = .ok (.laload, 1) := by decide +kernel
theorem dX0_takeLater_49 : decode cX0_takeLater 49 = .ok (.lstore 5, 2) := by decide +kernel
theorem dX0_takeLater_51 : decode cX0_takeLater 51 = .ok (.iload_n 1, 1) := by decide +kernel
theorem dX0_takeLater_52 : decode cX0_takeLater 52 = .ok (.iconst 3, 1) := by decide +kernel
theorem dX0_takeLater_53 : decode cX0_takeLater 53 = .ok (.if_icmp .lt 28, 3) := by decide +kernel
theorem dX0_takeLater_56 : decode cX0_takeLater 56 = .ok (.lload 5, 2) := by decide +kernel
theorem dX0_takeLater_58 : decode cX0_takeLater 58 = .ok (.invokestatic 114, 3) := by decide +kernel
theorem dX0_takeLater_61 : decode cX0_takeLater 61 = .ok (.aload_n 0, 1) := by decide +kernel
theorem dX0_takeLater_62 : decode cX0_takeLater 62 = .ok (.getfield 21, 3) := by decide +kernel
theorem dX0_takeLater_65 : decode cX0_takeLater 65 = .ok (.aload_n 0, 1) := by decide +kernel
theorem dX0_takeLater_66 : decode cX0_takeLater 66 = .ok (.iload_n 1, 1) := by decide +kernel
theorem dX0_takeLater_67 : decode cX0_takeLater 67 = .ok (.lload 5, 2) := by decide +kernel
theorem dX0_takeLater_69 : decode cX0_takeLater 69 = .ok (.invokestatic 118, 3) := by decide +kernel
theorem dX0_takeLater_72 : decode cX0_takeLater 72 = .ok (.invokevirtual 121, 3) := by decide +kernel
theorem dX0_takeLater_75 : decode cX0_takeLater 75 = .ok (.invokevirtual 124, 3) := by decide +kernel
theorem dX0_takeLater_78 : decode cX0_takeLater 78 = .ok (.if_icmp .gt 14, 3) := by decide +kernel
theorem dX0_takeLater_81 : decode cX0_takeLater 81 = .ok (.aload_n 0, 1) := by decide +kernel
theorem dX0_takeLater_82 : decode cX0_takeLater 82 = .ok (.getfield 36, 3) := by decide +kernel
theorem dX0_takeLater_85 : decode cX0_takeLater 85 = .ok (.iload_n 3, 1) := by decide +kernel
theorem dX0_takeLater_86 : decode cX0_takeLater 86 = .ok (.lload 5, 2) := by decide +kernel
theorem dX0_takeLater_88 : decode cX0_takeLater 88 = .ok (.lastore, 1) := by decide +kernel
theorem dX0_takeLater_89 : decode cX0_takeLater 89 = .ok (.iinc 3 1, 3) := by decide +kernel
theorem dX0_takeLater_92 : decode cX0_takeLater 92 = .ok (.iinc 4 1, 3) := by decide +kernel
theorem dX0_takeLater_95 : decode cX0_takeLater 95 = .ok (.goto (-72), 3) := by decide +kernel
theorem dX0_takeLater_98 : decode cX0_takeLater 98 = .ok (.aload_n 0, 1) := by decide +kernel
theorem dX0_takeLater_99 : decode cX0_takeLater 99 = .ok (.iconst 0, 1) := by decide +kernel
theorem dX0_takeLater_100 : decode cX0_takeLater 100 = .ok (.putfield 43, 3) := by decide +kernel
theorem dX0_takeLater_103 : decode cX0_takeLater 103 = .ok (.iload_n 3, 1) := by decide +kernel
theorem dX0_takeLater_104 : decode cX0_takeLater 104 = .ok (.ireturn, 1) := by decide +kernel
theorem dX0_whistleOn_0 : decode cX0_whistleOn 0 = .ok (.lload_n 2, 1) := by decide +kernel
theorem dX0_whistleOn_1 : decode cX0_whistleOn 1 = .ok (.invokestatic 118, 3) := by decide +kernel
theorem dX0_whistleOn_4 : decode cX0_whistleOn 4 = .ok (.istore 6, 2) := by decide +kernel
theorem dX0_whistleOn_6 : decode cX0_whistleOn 6 = .ok (.lload_n 2, 1) := by decide +kernel
theorem dX0_whistleOn_7 : decode cX0_whistleOn 7 = .ok (.invokestatic 127, 3) := by decide +kernel
theorem dX0_whistleOn_10 : decode cX0_whistleOn 10 = .ok (.istore 7, 2) := by decide +kernel
theorem dX0_whistleOn_12 : decode cX0_whistleOn 12 = .ok (.lload_n 2, 1) := by decide +kernel
theorem dX0_whistleOn_13 : decode cX0_whistleOn 13 = .ok (.invokestatic 114, 3) := by decide +kernel
theorem dX0_whistleOn_16 : decode cX0_whistleOn 16 = .ok (.istore 8, 2) := by decide +kernel
theorem dX0_whistleOn_18 : decode cX0_whistleOn 18 = .ok (.aload_n 0, 1) := by decide +kernel
theorem dX0_whistleOn_19 : decode cX0_whistleOn 19 = .ok (.iload_n 1, 1) := by decide +kernel
theorem dX0_whistleOn_20 : decode cX0_whistleOn 20 = .ok (.iconst 1, 1) := by decide +kernel
theorem dX0_whistleOn_21 : decode cX0_whistleOn 21 = .ok (.iadd, 1) := by decide +kernel
theorem dX0_whistleOn_22 : decode cX0_whistleOn 22 = .ok (.aload_n 0, 1) := by decide +kernel
theorem dX0_whistleOn_23 : decode cX0_whistleOn 23 = .ok (.iload_n 1, 1) := by decide +kernel
theorem dX0_whistleOn_24 : decode cX0_whistleOn 24 = .ok (.iconst 0, 1) := by decide +kernel
theorem dX0_whistleOn_25 : decode cX0_whistleOn 25 = .ok (.iload 6, 2) := by decide +kernel
theorem dX0_whistleOn_27 : decode cX0_whistleOn 27 = .ok (.invokevirtual 130, 3) := by decide +kernel
theorem dX0_whistleOn_30 : decode cX0_whistleOn 30 = .ok (.iload 7, 2) := by decide +kernel
theorem dX0_whistleOn_32 : decode cX0_whistleOn 32 = .ok (.iload 8, 2) := by decide +kernel
theorem dX0_whistleOn_34 : decode cX0_whistleOn 34 = .ok (.iload 4, 2) := by decide +kernel
theorem dX0_whistleOn_36 : decode cX0_whistleOn 36 = .ok (.iadd, 1) := by decide +kernel
theorem dX0_whistleOn_37 : decode cX0_whistleOn 37 = .ok (.invokevirtual 102, 3) := by decide +kernel
theorem dX0_whistleOn_40 : decode cX0_whistleOn 40 = .ok (.aload_n 0, 1) := by decide +kernel
theorem dX0_whistleOn_41 : decode cX0_whistleOn 41 = .ok (.iload_n 1, 1) := by decide +kernel
theorem dX0_whistleOn_42 : decode cX0_whistleOn 42 = .ok (.iconst 1, 1) := by decide +kernel
theorem dX0_whistleOn_43 : decode cX0_whistleOn 43 = .ok (.iadd, 1) := by decide +kernel
theorem dX0_whistleOn_44 : decode cX0_whistleOn 44 = .ok (.aload_n 0, 1) := by decide +kernel
theorem dX0_whistleOn_45 : decode cX0_whistleOn 45 = .ok (.iload_n 1, 1) := by decide +kernel
theorem dX0_whistleOn_46 : decode cX0_whistleOn 46 = .ok (.iconst 1, 1) := by decide +kernel
theorem dX0_whistleOn_47 : decode cX0_whistleOn 47 = .ok (.iload 6, 2) := by decide +kernel
theorem dX0_whistleOn_49 : decode cX0_whistleOn 49 = .ok (.invokevirtual 130, 3) := by decide +kernel
theorem dX0_whistleOn_52 : decode cX0_whistleOn 52 = .ok (.iload 7, 2) := by decide +kernel
theorem dX0_whistleOn_54 : decode cX0_whistleOn 54 = .ok (.iconst 1, 1) := by decide +kernel
theorem dX0_whistleOn_55 : decode cX0_whistleOn 55 = .ok (.iload_n 1, 1) := by decide +kernel
theorem dX0_whistleOn_56 : decode cX0_whistleOn 56 = .ok (.ishl, 1) := by decide +kernel
theorem dX0_whistleOn_57 : decode cX0_whistleOn 57 = .ok (.ior, 1) := by decide +kernel
theorem dX0_whistleOn_58 : decode cX0_whistleOn 58 = .ok (.iload 8, 2) := by decide +kernel
theorem dX0_whistleOn_60 : decode cX0_whistleOn 60 = .ok (.iload 5, 2) := by decide +kernel
theorem dX0_whistleOn_62 : decode cX0_whistleOn 62 = .ok (.iadd, 1) := by decide +kernel
theorem dX0_whistleOn_63 : decode cX0_whistleOn 63 = .ok (.invokevirtual 102, 3) := by decide +kernel
theorem dX0_whistleOn_66 : decode cX0_whistleOn 66 = .ok (.return_, 1) := by decide +kernel
theorem dX0_packOf_0 : decode cX0_packOf 0 = .ok (.lload_n 0, 1) := by decide +kernel
theorem dX0_packOf_1 : decode cX0_packOf 1 = .ok (.l2i, 1) := by decide +kernel
theorem dX0_packOf_2 : decode cX0_packOf 2 = .ok (.sipush 32767, 3) := by decide +kernel
theorem dX0_packOf_5 : decode cX0_packOf 5 = .ok (.iand, 1) := by decide +kernel
theorem dX0_packOf_6 : decode cX0_packOf 6 = .ok (.ireturn, 1) := by decide +kernel
theorem dX0_tuneOf_0 : decode cX0_tuneOf 0 = .ok (.lload_n 0, 1) := by decide +kernel
theorem dX0_tuneOf_1 : decode cX0_tuneOf 1 = .ok (.bipush 15, 2) := by decide +kernel
theorem dX0_tuneOf_3 : decode cX0_tuneOf 3 = .ok (.lshr, 1) := by decide +kernel
theorem dX0_tuneOf_4 : decode cX0_tuneOf 4 = .ok (.l2i, 1) := by decide +kernel
theorem dX0_tuneOf_5 : decode cX0_tuneOf 5 = .ok (.ldc 134, 2) := by decide +kernel
theorem dX0_tuneOf_7 : decode cX0_tuneOf 7 = .ok (.iand, 1) := by decide +kernel
theorem dX0_tuneOf_8 : decode cX0_tuneOf 8 = .ok (.ireturn, 1) := by decide +kernel
theorem dX0_breathOf_0 : decode cX0_breathOf 0 = .ok (.lload_n 0, 1) := by decide +kernel
theorem dX0_breathOf_1 : decode cX0_breathOf 1 = .ok (.bipush 35, 2) := by decide +kernel
theorem dX0_breathOf_3 : decode cX0_breathOf 3 = .ok (.lshr, 1) := by decide +kernel
theorem dX0_breathOf_4 : decode cX0_breathOf 4 = .ok (.l2i, 1) := by decide +kernel
theorem dX0_breathOf_5 : decode cX0_breathOf 5 = .ok (.ireturn, 1) := by decide +kernel
theorem dX0_packBehind_0 : decode cX0_packBehind 0 = .ok (.iconst 0, 1) := by decide +kernel
theorem dX0_packBehind_1 : decode cX0_packBehind 1 = .ok (.istore 4, 2) := by decide +kernel
theorem dX0_packBehind_3 : decode cX0_packBehind 3 = .ok (.iconst 0, 1) := by decide +kernel
theorem dX0_packBehind_4 : decode cX0_packBehind 4 = .ok (.istore 5, 2) := by decide +kernel
theorem dX0_packBehind_6 : decode cX0_packBehind 6 = .ok (.iload 5, 2) := by decide +kernel
theorem dX0_packBehind_8 : decode cX0_packBehind 8 = .ok (.aload_n 0, 1) := by decide +kernel
theorem dX0_packBehind_9 : decode cX0_packBehind 9 = .ok (.getfield 25, 3) := by decide +kernel
theorem dX0_packBehind_12 : decode cX0_packBehind 12 = .ok (.if_icmp .ge 42, 3) := by decide +kernel
theorem dX0_packBehind_15 : decode cX0_packBehind 15 = .ok (.iconst 5, 1) := by decide +kernel
theorem dX0_packBehind_16 : decode cX0_packBehind 16 = .ok (.iload 5, 2) := by decide +kernel
theorem dX0_packBehind_18 : decode cX0_packBehind 18 = .ok (.imul, 1) := by decide +kernel
theorem dX0_packBehind_19 : decode cX0_packBehind 19 = .ok (.istore 6, 2) := by decide +kernel
theorem dX0_packBehind_21 : decode cX0_packBehind 21 = .ok (.iload 4, 2) := by decide +kernel
theorem dX0_packBehind_23 : decode cX0_packBehind 23 = .ok (.aload_n 0, 1) := by decide +kernel
theorem dX0_packBehind_24 : decode cX0_packBehind 24 = .ok (.getfield 12, 3) := by decide +kernel
theorem dX0_packBehind_27 : decode cX0_packBehind 27 = .ok (.iload 5, 2) := by decide +kernel
theorem dX0_packBehind_29 : decode cX0_packBehind 29 = .ok (.aaload, 1) := by decide +kernel
theorem dX0_packBehind_30 : decode cX0_packBehind 30 = .ok (.iload_n 1, 1) := by decide +kernel
theorem dX0_packBehind_31 : decode cX0_packBehind 31 = .ok (.iload_n 2, 1) := by decide +kernel
theorem dX0_packBehind_32 : decode cX0_packBehind 32 = .ok (.iload_n 3, 1) := by decide +kernel
theorem dX0_packBehind_33 : decode cX0_packBehind 33 = .ok (.iload 6, 2) := by decide +kernel
theorem dX0_packBehind_35 : decode cX0_packBehind 35 = .ok (.ishr, 1) := by decide +kernel
theorem dX0_packBehind_36 : decode cX0_packBehind 36 = .ok (.bipush 31, 2) := by decide +kernel
theorem dX0_packBehind_38 : decode cX0_packBehind 38 = .ok (.iand, 1) := by decide +kernel
theorem dX0_packBehind_39 : decode cX0_packBehind 39 = .ok (.invokevirtual 135, 3) := by decide +kernel
theorem dX0_packBehind_42 : decode cX0_packBehind 42 = .ok (.iload 6, 2) := by decide +kernel
theorem dX0_packBehind_44 : decode cX0_packBehind 44 = .ok (.ishl, 1) := by decide +kernel
theorem dX0_packBehind_45 : decode cX0_packBehind 45 = .ok (.ior, 1) := by decide +kernel
theorem dX0_packBehind_46 : decode cX0_packBehind 46 = .ok (.istore 4, 2) := by decide +kernel
theorem dX0_packBehind_48 : decode cX0_packBehind 48 = .ok (.iinc 5 1, 3) := by decide +kernel
theorem dX0_packBehind_51 : decode cX0_packBehind 51 = .ok (.goto (-45), 3) := by decide +kernel
theorem dX0_packBehind_54 : decode cX0_packBehind 54 = .ok (.iload 4, 2) := by decide +kernel
theorem dX0_packBehind_56 : decode cX0_packBehind 56 = .ok (.ireturn, 1) := by decide +kernel
theorem dX0_offer_0 : decode cX0_offer 0 = .ok (.iconst (-1), 1) := by decide +kernel
theorem dX0_offer_1 : decode cX0_offer 1 = .ok (.istore 5, 2) := by decide +kernel
theorem dX0_offer_3 : decode cX0_offer 3 = .ok (.iconst 0, 1) := by decide +kernel
theorem dX0_offer_4 : decode cX0_offer 4 = .ok (.istore 6, 2) := by decide +kernel
theorem dX0_offer_6 : decode cX0_offer 6 = .ok (.iload 6, 2) := by decide +kernel
theorem dX0_offer_8 : decode cX0_offer 8 = .ok (.aload_n 0, 1) := by decide +kernel
theorem dX0_offer_9 : decode cX0_offer 9 = .ok (.getfield 25, 3) := by decide +kernel
theorem dX0_offer_12 : decode cX0_offer 12 = .ok (.if_icmp .ge 34, 3) := by decide +kernel
theorem dX0_offer_15 : decode cX0_offer 15 = .ok (.iload 5, 2) := by decide +kernel
theorem dX0_offer_17 : decode cX0_offer 17 = .ok (.aload_n 0, 1) := by decide +kernel
theorem dX0_offer_18 : decode cX0_offer 18 = .ok (.getfield 12, 3) := by decide +kernel
theorem dX0_offer_21 : decode cX0_offer 21 = .ok (.iload 6, 2) := by decide +kernel
theorem dX0_offer_23 : decode cX0_offer 23 = .ok (.aaload, 1) := by decide +kernel
theorem dX0_offer_24 : decode cX0_offer 24 = .ok (.iload_n 1, 1) := by decide +kernel
theorem dX0_offer_25 : decode cX0_offer 25 = .ok (.iload_n 2, 1) := by decide +kernel
theorem dX0_offer_26 : decode cX0_offer 26 = .ok (.iconst 5, 1) := by decide +kernel
theorem dX0_offer_27 : decode cX0_offer 27 = .ok (.iload 6, 2) := by decide +kernel
theorem dX0_offer_29 : decode cX0_offer 29 = .ok (.imul, 1) := by decide +kernel
theorem dX0_offer_30 : decode cX0_offer 30 = .ok (.ishr, 1) := by decide +kernel
theorem dX0_offer_31 : decode cX0_offer 31 = .ok (.bipush 31, 2) := by decide +kernel
theorem dX0_offer_33 : decode cX0_offer 33 = .ok (.iand, 1) := by decide +kernel
theorem dX0_offer_34 : decode cX0_offer 34 = .ok (.invokevirtual 138, 3) := by decide +kernel
theorem dX0_offer_37 : decode cX0_offer 37 = .ok (.iand, 1) := by decide +kernel
theorem dX0_offer_38 : decode cX0_offer 38 = .ok (.istore 5, 2) := by decide +kernel
theorem dX0_offer_40 : decode cX0_offer 40 = .ok (.iinc 6 1, 3) := by decide +kernel
theorem dX0_offer_43 : decode cX0_offer 43 = .ok (.goto (-37), 3) := by decide +kernel
theorem dX0_offer_46 : decode cX0_offer 46 = .ok (.iload 5, 2) := by decide +kernel
theorem dX0_offer_48 : decode cX0_offer 48 = .ok (.ifCond .ne 4, 3) := by decide +kernel
theorem dX0_offer_51 : decode cX0_offer 51 = .ok (.return_, 1) := by decide +kernel
theorem dX0_offer_52 : decode cX0_offer 52 = .ok (.iload 5, 2) := by decide +kernel
theorem dX0_offer_54 : decode cX0_offer 54 = .ok (.invokestatic 141, 3) := by decide +kernel
theorem dX0_offer_57 : decode cX0_offer 57 = .ok (.iload_n 1, 1) := by decide +kernel
theorem dX0_offer_58 : decode cX0_offer 58 = .ok (.isub, 1) := by decide +kernel
theorem dX0_offer_59 : decode cX0_offer 59 = .ok (.istore 6, 2) := by decide +kernel
theorem dX0_offer_61 : decode cX0_offer 61 = .ok (.iload 4, 2) := by decide +kernel
theorem dX0_offer_63 : decode cX0_offer 63 = .ok (.iload 6, 2) := by decide +kernel
theorem dX0_offer_65 : decode cX0_offer 65 = .ok (.aload_n 0, 1) := by decide +kernel
theorem dX0_offer_66 : decode cX0_offer 66 = .ok (.getfield 46, 3) := by decide +kernel
theorem dX0_offer_69 : decode cX0_offer 69 = .ok (.imul, 1) := by decide +kernel
theorem dX0_offer_70 : decode cX0_offer 70 = .ok (.iadd, 1) := by decide +kernel
theorem dX0_offer_71 : decode cX0_offer 71 = .ok (.aload_n 0, 1) := by decide +kernel
theorem dX0_offer_72 : decode cX0_offer 72 = .ok (.getfield 50, 3) := by decide +kernel
theorem dX0_offer_75 : decode cX0_offer 75 = .ok (.if_icmp .lt 4, 3) := by decide +kernel
theorem dX0_offer_78 : decode cX0_offer 78 = .ok (.return_, 1) := by decide +kernel
theorem dX0_offer_79 : decode cX0_offer 79 = .ok (.iload 6, 2) := by decide +kernel
theorem dX0_offer_81 : decode cX0_offer 81 = .ok (.ifCond .ne 17, 3) := by decide +kernel
theorem dX0_offer_84 : decode cX0_offer 84 = .ok (.aload_n 0, 1) := by decide +kernel
theorem dX0_offer_85 : decode cX0_offer 85 = .ok (.iload 4, 2) := by decide +kernel
theorem dX0_offer_87 : decode cX0_offer 87 = .ok (.putfield 50, 3) := by decide +kernel
theorem dX0_offer_90 : decode cX0_offer 90 = .ok (.aload_n 0, 1) := by decide +kernel
theorem dX0_offer_91 : decode cX0_offer 91 = .ok (.iload_n 3, 1) := by decide +kernel
theorem dX0_offer_92 : decode cX0_offer 92 = .ok (.putfield 53, 3) := by decide +kernel
theorem dX0_offer_95 : decode cX0_offer 95 = .ok (.goto 34, 3) := by decide +kernel
theorem dX0_offer_98 : decode cX0_offer 98 = .ok (.iload_n 1, 1) := by decide +kernel
theorem dX0_offer_99 : decode cX0_offer 99 = .ok (.iconst 3, 1) := by decide +kernel
theorem dX0_offer_100 : decode cX0_offer 100 = .ok (.if_icmp .lt 21, 3) := by decide +kernel
theorem dX0_offer_103 : decode cX0_offer 103 = .ok (.aload_n 0, 1) := by decide +kernel
theorem dX0_offer_104 : decode cX0_offer 104 = .ok (.getfield 21, 3) := by decide +kernel
theorem dX0_offer_107 : decode cX0_offer 107 = .ok (.aload_n 0, 1) := by decide +kernel
theorem dX0_offer_108 : decode cX0_offer 108 = .ok (.iload_n 1, 1) := by decide +kernel
theorem dX0_offer_109 : decode cX0_offer 109 = .ok (.iload_n 2, 1) := by decide +kernel
theorem dX0_offer_110 : decode cX0_offer 110 = .ok (.invokevirtual 121, 3) := by decide +kernel
theorem dX0_offer_113 : decode cX0_offer 113 = .ok (.iload 4, 2) := by decide +kernel
theorem dX0_offer_115 : decode cX0_offer 115 = .ok (.invokevirtual 144, 3) := by decide +kernel
theorem dX0_offer_118 : decode cX0_offer 118 = .ok (.ifCond .eq 11, 3) := by decide +kernel
theorem dX0_offer_121 : decode cX0_offer 121 = .ok (.aload_n 0, 1) := by decide +kernel
theorem dX0_offer_122 : decode cX0_offer 122 = .ok (.iload_n 2, 1) := by decide +kernel
theorem dX0_offer_123 : decode cX0_offer 123 = .ok (.iload_n 3, 1) := by decide +kernel
theorem dX0_offer_124 : decode cX0_offer 124 = .ok (.iload 4, 2) := by decide +kernel
theorem dX0_offer_126 : decode cX0_offer 126 = .ok (.invokevirtual 147, 3) := by decide +kernel
theorem dX0_offer_129 : decode cX0_offer 129 = .ok (.return_, 1) := by decide +kernel
theorem dX0_keyOf_0 : decode cX0_keyOf 0 = .ok (.iconst 2, 1) := by decide +kernel
theorem dX0_keyOf_1 : decode cX0_keyOf 1 = .ok (.iload_n 2, 1) := by decide +kernel
theorem dX0_keyOf_2 : decode cX0_keyOf 2 = .ok (.imul, 1) := by decide +kernel
theorem dX0_keyOf_3 : decode cX0_keyOf 3 = .ok (.aload_n 0, 1) := by decide +kernel
theorem dX0_keyOf_4 : decode cX0_keyOf 4 = .ok (.getfield 32, 3) := by decide +kernel
theorem dX0_keyOf_7 : decode cX0_keyOf 7 = .ok (.ifCond .eq 9, 3) := by decide +kernel
theorem dX0_keyOf_10 : decode cX0_keyOf 10 = .ok (.iload_n 1, 1) := by decide +kernel
theorem dX0_keyOf_11 : decode cX0_keyOf 11 = .ok (.iconst 1, 1) := by decide +kernel
theorem dX0_keyOf_12 : decode cX0_keyOf 12 = .ok (.iand, 1) := by decide +kernel
theorem dX0_keyOf_13 : decode cX0_keyOf 13 = .ok (.goto 4, 3) := by decide +kernel
theorem dX0_keyOf_16 : decode cX0_keyOf 16 = .ok (.iconst 0, 1) := by decide +kernel
theorem dX0_keyOf_17 : decode cX0_keyOf 17 = .ok (.iadd, 1) := by decide +kernel
theorem dX0_keyOf_18 : decode cX0_keyOf 18 = .ok (.ireturn, 1) := by decide +kernel
theorem dX0_keep_0 : decode cX0_keep 0 = .ok (.aload_n 0, 1) := by decide +kernel
theorem dX0_keep_1 : decode cX0_keep 1 = .ok (.getfield 43, 3) := by decide +kernel
theorem dX0_keep_4 : decode cX0_keep 4 = .ok (.ldc 151, 2) := by decide +kernel
theorem dX0_keep_6 : decode cX0_keep 6 = .ok (.if_icmp .lt 4, 3) := by decide +kernel
theorem dX0_keep_9 : decode cX0_keep 9 = .ok (.return_, 1) := by decide +kernel
theorem dX0_keep_10 : decode cX0_keep 10 = .ok (.aload_n 0, 1) := by decide +kernel
theorem dX0_keep_11 : decode cX0_keep 11 = .ok (.getfield 43, 3) := by decide +kernel
theorem dX0_keep_14 : decode cX0_keep 14 = .ok (.aload_n 0, 1) := by decide +kernel
theorem dX0_keep_15 : decode cX0_keep 15 = .ok (.getfield 40, 3) := by decide +kernel
theorem dX0_keep_18 : decode cX0_keep 18 = .ok (.arraylength, 1) := by decide +kernel
theorem dX0_keep_19 : decode cX0_keep 19 = .ok (.if_icmp .lt 21, 3) := by decide +kernel
theorem dX0_keep_22 : decode cX0_keep 22 = .ok (.aload_n 0, 1) := by decide +kernel
theorem dX0_keep_23 : decode cX0_keep 23 = .ok (.aload_n 0, 1) := by decide +kernel
theorem dX0_keep_24 : decode cX0_keep 24 = .ok (.getfield 40, 3) := by decide +kernel
theorem dX0_keep_27 : decode cX0_keep 27 = .ok (.iconst 2, 1) := by decide +kernel
theorem dX0_keep_28 : decode cX0_keep 28 = .ok (.aload_n 0, 1) := by decide +kernel
theorem dX0_keep_29 : decode cX0_keep 29 = .ok (.getfield 40, 3) := by decide +kernel
theorem dX0_keep_32 : decode cX0_keep 32 = .ok (.arraylength, 1) := by decide +kernel
theorem dX0_keep_33 : decode cX0_keep 33 = .ok (.imul, 1) := by decide +kernel
theorem dX0_keep_34 : decode cX0_keep 34 = .ok (.invokestatic 152, 3) := by decide +kernel
theorem dX0_keep_37 : decode cX0_keep 37 = .ok (.putfield 40, 3) := by decide +kernel
theorem dX0_keep_40 : decode cX0_keep 40 = .ok (.aload_n 0, 1) := by decide +kernel
theorem dX0_keep_41 : decode cX0_keep 41 = .ok (.getfield 40, 3) := by decide +kernel
theorem dX0_keep_44 : decode cX0_keep 44 = .ok (.aload_n 0, 1) := by decide +kernel
theorem dX0_keep_45 : decode cX0_keep 45 = .ok (.getfield 43, 3) := by decide +kernel
theorem dX0_keep_48 : decode cX0_keep 48 = .ok (.iload_n 3, 1) := by decide +kernel
theorem dX0_keep_49 : decode cX0_keep 49 = .ok (.i2l, 1) := by decide +kernel
theorem dX0_keep_50 : decode cX0_keep 50 = .ok (.bipush 20, 2) := by decide +kernel
theorem dX0_keep_52 : decode cX0_keep 52 = .ok (.lshl, 1) := by decide +kernel
theorem dX0_keep_53 : decode cX0_keep 53 = .ok (.iload_n 2, 1) := by decide +kernel
theorem dX0_keep_54 : decode cX0_keep 54 = .ok (.i2l, 1) := by decide +kernel
theorem dX0_keep_55 : decode cX0_keep 55 = .ok (.lor, 1) := by decide +kernel
theorem dX0_keep_56 : decode cX0_keep 56 = .ok (.bipush 15, 2) := by decide +kernel
theorem dX0_keep_58 : decode cX0_keep 58 = .ok (.lshl, 1) := by decide +kernel
theorem dX0_keep_59 : decode cX0_keep 59 = .ok (.iload_n 1, 1) := by decide +kernel
theorem dX0_keep_60 : decode cX0_keep 60 = .ok (.i2l, 1) := by decide +kernel
theorem dX0_keep_61 : decode cX0_keep 61 = .ok (.lor, 1) := by decide +kernel
theorem dX0_keep_62 : decode cX0_keep 62 = .ok (.lastore, 1) := by decide +kernel
theorem dX0_keep_63 : decode cX0_keep 63 = .ok (.aload_n 0, 1) := by decide +kernel
theorem dX0_keep_64 : decode cX0_keep 64 = .ok (.dup, 1) := by decide +kernel
theorem dX0_keep_65 : decode cX0_keep 65 = .ok (.getfield 43, 3) := by decide +kernel
theorem dX0_keep_68 : decode cX0_keep 68 = .ok (.iconst 1, 1) := by decide +kernel
theorem dX0_keep_69 : decode cX0_keep 69 = .ok (.iadd, 1) := by decide +kernel
theorem dX0_keep_70 : decode cX0_keep 70 = .ok (.putfield 43, 3) := by decide +kernel
theorem dX0_keep_73 : decode cX0_keep 73 = .ok (.return_, 1) := by decide +kernel
theorem dX1_init_0 : decode cX1_init 0 = .ok (.aload_n 0, 1) := by decide +kernel
theorem dX1_init_1 : decode cX1_init 1 = .ok (.iload_n 1, 1) := by decide +kernel
theorem dX1_init_2 : decode cX1_init 2 = .ok (.iload_n 2, 1) := by decide +kernel
theorem dX1_init_3 : decode cX1_init 3 = .ok (.iload_n 3, 1) := by decide +kernel
theorem dX1_init_4 : decode cX1_init 4 = .ok (.invokespecial 1, 3) := by decide +kernel
theorem dX1_init_7 : decode cX1_init 7 = .ok (.return_, 1) := by decide +kernel
theorem dX1_next_0 : decode cX1_next 0 = .ok (.iload_n 3, 1) := by decide +kernel
theorem dX1_next_1 : decode cX1_next 1 = .ok (.iconst 1, 1) := by decide +kernel
theorem dX1_next_2 : decode cX1_next 2 = .ok (.iand, 1) := by decide +kernel
theorem dX1_next_3 : decode cX1_next 3 = .ok (.ifCond .eq 7, 3) := by decide +kernel
theorem dX1_next_6 : decode cX1_next 6 = .ok (.iload_n 1, 1) := by decide +kernel
theorem dX1_next_7 : decode cX1_next 7 = .ok (.goto 12, 3) := by decide +kernel
theorem dX1_next_10 : decode cX1_next 10 = .ok (.aload_n 0, 1) := by decide +kernel
theorem dX1_next_11 : decode cX1_next 11 = .ok (.iload_n 1, 1) := by decide +kernel
theorem dX1_next_12 : decode cX1_next 12 = .ok (.iload_n 2, 1) := by decide +kernel
theorem dX1_next_13 : decode cX1_next 13 = .ok (.iload_n 3, 1) := by decide +kernel
theorem dX1_next_14 : decode cX1_next 14 = .ok (.iload 4, 2) := by decide +kernel
theorem dX1_next_16 : decode cX1_next 16 = .ok (.invokevirtual 7, 3) := by decide +kernel
theorem dX1_next_19 : decode cX1_next 19 = .ok (.ireturn, 1) := by decide +kernel
theorem dX1_heedsOdd_0 : decode cX1_heedsOdd 0 = .ok (.iconst 1, 1) := by decide +kernel
theorem dX1_heedsOdd_1 : decode cX1_heedsOdd 1 = .ok (.ireturn, 1) := by decide +kernel
theorem dX2_init_0 : decode cX2_init 0 = .ok (.aload_n 0, 1) := by decide +kernel
theorem dX2_init_1 : decode cX2_init 1 = .ok (.invokespecial 3, 3) := by decide +kernel
theorem dX2_init_4 : decode cX2_init 4 = .ok (.aload_n 0, 1) := by decide +kernel
theorem dX2_init_5 : decode cX2_init 5 = .ok (.iconst 5, 1) := by decide +kernel
theorem dX2_init_6 : decode cX2_init 6 = .ok (.putfield 9, 3) := by decide +kernel
theorem dX2_init_9 : decode cX2_init 9 = .ok (.aload_n 0, 1) := by decide +kernel
theorem dX2_init_10 : decode cX2_init 10 = .ok (.iconst 0, 1) := by decide +kernel
theorem dX2_init_11 : decode cX2_init 11 = .ok (.putfield 15, 3) := by decide +kernel
theorem dX2_init_14 : decode cX2_init 14 = .ok (.aload_n 0, 1) := by decide +kernel
theorem dX2_init_15 : decode cX2_init 15 = .ok (.iconst 0, 1) := by decide +kernel
theorem dX2_init_16 : decode cX2_init 16 = .ok (.putfield 18, 3) := by decide +kernel
theorem dX2_init_19 : decode cX2_init 19 = .ok (.aload_n 0, 1) := by decide +kernel
theorem dX2_init_20 : decode cX2_init 20 = .ok (.iconst 0, 1) := by decide +kernel
theorem dX2_init_21 : decode cX2_init 21 = .ok (.putfield 21, 3) := by decide +kernel
theorem dX2_init_24 : decode cX2_init 24 = .ok (.aload_n 0, 1) := by decide +kernel
theorem dX2_init_25 : decode cX2_init 25 = .ok (.iconst 1, 1) := by decide +kernel
theorem dX2_init_26 : decode cX2_init 26 = .ok (.putfield 24, 3) := by decide +kernel
theorem dX2_init_29 : decode cX2_init 29 = .ok (.aload_n 0, 1) := by decide +kernel
theorem dX2_init_30 : decode cX2_init 30 = .ok (.iconst 1, 1) := by decide +kernel
theorem dX2_init_31 : decode cX2_init 31 = .ok (.putfield 27, 3) := by decide +kernel
theorem dX2_init_34 : decode cX2_init 34 = .ok (.aload_n 0, 1) := by decide +kernel
theorem dX2_init_35 : decode cX2_init 35 = .ok (.iconst 0, 1) := by decide +kernel
theorem dX2_init_36 : decode cX2_init 36 = .ok (.putfield 30, 3) := by decide +kernel
theorem dX2_init_39 : decode cX2_init 39 = .ok (.aload_n 0, 1) := by decide +kernel
theorem dX2_init_40 : decode cX2_init 40 = .ok (.iconst 3, 1) := by decide +kernel
theorem dX2_init_41 : decode cX2_init 41 = .ok (.anewarray 33, 3) := by decide +kernel
theorem dX2_init_44 : decode cX2_init 44 = .ok (.putfield 35, 3) := by decide +kernel
theorem dX2_init_47 : decode cX2_init 47 = .ok (.return_, 1) := by decide +kernel
theorem dX2_copy_0 : decode cX2_copy 0 = .ok (.new 10, 3) := by decide +kernel
theorem dX2_copy_3 : decode cX2_copy 3 = .ok (.dup, 1) := by decide +kernel
theorem dX2_copy_4 : decode cX2_copy 4 = .ok (.invokespecial 39, 3) := by decide +kernel
theorem dX2_copy_7 : decode cX2_copy 7 = .ok (.astore_n 1, 1) := by decide +kernel
theorem dX2_copy_8 : decode cX2_copy 8 = .ok (.aload_n 1, 1) := by decide +kernel
theorem dX2_copy_9 : decode cX2_copy 9 = .ok (.aload_n 0, 1) := by decide +kernel
theorem dX2_copy_10 : decode cX2_copy 10 = .ok (.getfield 9, 3) := by decide +kernel
theorem dX2_copy_13 : decode cX2_copy 13 = .ok (.putfield 9, 3) := by decide +kernel
theorem dX2_copy_16 : decode cX2_copy 16 = .ok (.aload_n 1, 1) := by decide +kernel
theorem dX2_copy_17 : decode cX2_copy 17 = .ok (.aload_n 0, 1) := by decide +kernel
theorem dX2_copy_18 : decode cX2_copy 18 = .ok (.getfield 15, 3) := by decide +kernel
theorem dX2_copy_21 : decode cX2_copy 21 = .ok (.putfield 15, 3) := by decide +kernel
theorem dX2_copy_24 : decode cX2_copy 24 = .ok (.aload_n 1, 1) := by decide +kernel
theorem dX2_copy_25 : decode cX2_copy 25 = .ok (.aload_n 0, 1) := by decide +kernel
theorem dX2_copy_26 : decode cX2_copy 26 = .ok (.getfield 18, 3) := by decide +kernel
theorem dX2_copy_29 : decode cX2_copy 29 = .ok (.putfield 18, 3) := by decide +kernel
theorem dX2_copy_32 : decode cX2_copy 32 = .ok (.aload_n 1, 1) := by decide +kernel
theorem dX2_copy_33 : decode cX2_copy 33 = .ok (.aload_n 0, 1) := by decide +kernel
theorem dX2_copy_34 : decode cX2_copy 34 = .ok (.getfield 21, 3) := by decide +kernel
theorem dX2_copy_37 : decode cX2_copy 37 = .ok (.putfield 21, 3) := by decide +kernel
theorem dX2_copy_40 : decode cX2_copy 40 = .ok (.aload_n 1, 1) := by decide +kernel
theorem dX2_copy_41 : decode cX2_copy 41 = .ok (.aload_n 0, 1) := by decide +kernel
theorem dX2_copy_42 : decode cX2_copy 42 = .ok (.getfield 24, 3) := by decide +kernel
theorem dX2_copy_45 : decode cX2_copy 45 = .ok (.putfield 24, 3) := by decide +kernel
theorem dX2_copy_48 : decode cX2_copy 48 = .ok (.aload_n 1, 1) := by decide +kernel
theorem dX2_copy_49 : decode cX2_copy 49 = .ok (.aload_n 0, 1) := by decide +kernel
theorem dX2_copy_50 : decode cX2_copy 50 = .ok (.getfield 27, 3) := by decide +kernel
theorem dX2_copy_53 : decode cX2_copy 53 = .ok (.putfield 27, 3) := by decide +kernel
theorem dX2_copy_56 : decode cX2_copy 56 = .ok (.aload_n 1, 1) := by decide +kernel
theorem dX2_copy_57 : decode cX2_copy 57 = .ok (.aload_n 0, 1) := by decide +kernel
theorem dX2_copy_58 : decode cX2_copy 58 = .ok (.getfield 30, 3) := by decide +kernel
theorem dX2_copy_61 : decode cX2_copy 61 = .ok (.putfield 30, 3) := by decide +kernel
theorem dX2_copy_64 : decode cX2_copy 64 = .ok (.iconst 0, 1) := by decide +kernel
theorem dX2_copy_65 : decode cX2_copy 65 = .ok (.istore_n 2, 1) := by decide +kernel
theorem dX2_copy_66 : decode cX2_copy 66 = .ok (.iload_n 2, 1) := by decide +kernel
theorem dX2_copy_67 : decode cX2_copy 67 = .ok (.iconst 3, 1) := by decide +kernel
theorem dX2_copy_68 : decode cX2_copy 68 = .ok (.if_icmp .ge 21, 3) := by decide +kernel
theorem dX2_copy_71 : decode cX2_copy 71 = .ok (.aload_n 1, 1) := by decide +kernel
theorem dX2_copy_72 : decode cX2_copy 72 = .ok (.getfield 35, 3) := by decide +kernel
theorem dX2_copy_75 : decode cX2_copy 75 = .ok (.iload_n 2, 1) := by decide +kernel
theorem dX2_copy_76 : decode cX2_copy 76 = .ok (.aload_n 0, 1) := by decide +kernel
theorem dX2_copy_77 : decode cX2_copy 77 = .ok (.getfield 35, 3) := by decide +kernel
theorem dX2_copy_80 : decode cX2_copy 80 = .ok (.iload_n 2, 1) := by decide +kernel
theorem dX2_copy_81 : decode cX2_copy 81 = .ok (.aaload, 1) := by decide +kernel
theorem dX2_copy_82 : decode cX2_copy 82 = .ok (.aastore, 1) := by decide +kernel
theorem dX2_copy_83 : decode cX2_copy 83 = .ok (.iinc 2 1, 3) := by decide +kernel
theorem dX2_copy_86 : decode cX2_copy 86 = .ok (.goto (-20), 3) := by decide +kernel
theorem dX2_copy_89 : decode cX2_copy 89 = .ok (.aload_n 1, 1) := by decide +kernel
theorem dX2_copy_90 : decode cX2_copy 90 = .ok (.areturn, 1) := by decide +kernel
theorem dX2_settle_0 : decode cX2_settle 0 = .ok (.aload_n 0, 1) := by decide +kernel
theorem dX2_settle_1 : decode cX2_settle 1 = .ok (.iload_n 1, 1) := by decide +kernel
theorem dX2_settle_2 : decode cX2_settle 2 = .ok (.putfield 9, 3) := by decide +kernel
theorem dX2_settle_5 : decode cX2_settle 5 = .ok (.aload_n 0, 1) := by decide +kernel
theorem dX2_settle_6 : decode cX2_settle 6 = .ok (.iconst 0, 1) := by decide +kernel
theorem dX2_settle_7 : decode cX2_settle 7 = .ok (.putfield 15, 3) := by decide +kernel
theorem dX2_settle_10 : decode cX2_settle 10 = .ok (.aload_n 0, 1) := by decide +kernel
theorem dX2_settle_11 : decode cX2_settle 11 = .ok (.iconst 0, 1) := by decide +kernel
theorem dX2_settle_12 : decode cX2_settle 12 = .ok (.putfield 18, 3) := by decide +kernel
theorem dX2_settle_15 : decode cX2_settle 15 = .ok (.aload_n 0, 1) := by decide +kernel
theorem dX2_settle_16 : decode cX2_settle 16 = .ok (.iconst 0, 1) := by decide +kernel
theorem dX2_settle_17 : decode cX2_settle 17 = .ok (.putfield 21, 3) := by decide +kernel
theorem dX2_settle_20 : decode cX2_settle 20 = .ok (.aload_n 0, 1) := by decide +kernel
theorem dX2_settle_21 : decode cX2_settle 21 = .ok (.iconst 0, 1) := by decide +kernel
theorem dX2_settle_22 : decode cX2_settle 22 = .ok (.putfield 30, 3) := by decide +kernel
theorem dX2_settle_25 : decode cX2_settle 25 = .ok (.return_, 1) := by decide +kernel
theorem dX2_isPlace_0 : decode cX2_isPlace 0 = .ok (.iload_n 1, 1) := by decide +kernel
theorem dX2_isPlace_1 : decode cX2_isPlace 1 = .ok (.ifCond .lt 15, 3) := by decide +kernel
theorem dX2_isPlace_4 : decode cX2_isPlace 4 = .ok (.iload_n 1, 1) := by decide +kernel
theorem dX2_isPlace_5 : decode cX2_isPlace 5 = .ok (.aload_n 0, 1) := by decide +kernel
theorem dX2_isPlace_6 : decode cX2_isPlace 6 = .ok (.getfield 9, 3) := by decide +kernel
theorem dX2_isPlace_9 : decode cX2_isPlace 9 = .ok (.if_icmp .ge 7, 3) := by decide +kernel
theorem dX2_isPlace_12 : decode cX2_isPlace 12 = .ok (.iconst 1, 1) := by decide +kernel
theorem dX2_isPlace_13 : decode cX2_isPlace 13 = .ok (.goto 4, 3) := by decide +kernel
theorem dX2_isPlace_16 : decode cX2_isPlace 16 = .ok (.iconst 0, 1) := by decide +kernel
theorem dX2_isPlace_17 : decode cX2_isPlace 17 = .ok (.ireturn, 1) := by decide +kernel
theorem dX2_allPlaces_0 : decode cX2_allPlaces 0 = .ok (.iconst 1, 1) := by decide +kernel
theorem dX2_allPlaces_1 : decode cX2_allPlaces 1 = .ok (.aload_n 0, 1) := by decide +kernel
theorem dX2_allPlaces_2 : decode cX2_allPlaces 2 = .ok (.getfield 9, 3) := by decide +kernel
theorem dX2_allPlaces_5 : decode cX2_allPlaces 5 = .ok (.ishl, 1) := by decide +kernel
theorem dX2_allPlaces_6 : decode cX2_allPlaces 6 = .ok (.iconst 1, 1) := by decide +kernel
theorem dX2_allPlaces_7 : decode cX2_allPlaces 7 = .ok (.isub, 1) := by decide +kernel
theorem dX2_allPlaces_8 : decode cX2_allPlaces 8 = .ok (.ireturn, 1) := by decide +kernel
theorem dX2_isRow_0 : decode cX2_isRow 0 = .ok (.iload_n 1, 1) := by decide +kernel
theorem dX2_isRow_1 : decode cX2_isRow 1 = .ok (.ifCond .lt 14, 3) := by decide +kernel
theorem dX2_isRow_4 : decode cX2_isRow 4 = .ok (.iload_n 1, 1) := by decide +kernel
theorem dX2_isRow_5 : decode cX2_isRow 5 = .ok (.iconst 3, 1) := by decide +kernel
theorem dX2_isRow_6 : decode cX2_isRow 6 = .ok (.aload_n 0, 1) := by decide +kernel
theorem dX2_isRow_7 : decode cX2_isRow 7 = .ok (.getfield 9, 3) := by decide +kernel
theorem dX2_isRow_10 : decode cX2_isRow 10 = .ok (.imul, 1) := by decide +kernel
theorem dX2_isRow_11 : decode cX2_isRow 11 = .ok (.ishr, 1) := by decide +kernel
theorem dX2_isRow_12 : decode cX2_isRow 12 = .ok (.ifCond .eq 5, 3) := by decide +kernel
theorem dX2_isRow_15 : decode cX2_isRow 15 = .ok (.iconst 0, 1) := by decide +kernel
theorem dX2_isRow_16 : decode cX2_isRow 16 = .ok (.ireturn, 1) := by decide +kernel
theorem dX2_isRow_17 : decode cX2_isRow 17 = .ok (.iconst 0, 1) := by decide +kernel
theorem dX2_isRow_18 : decode cX2_isRow 18 = .ok (.istore_n 2, 1) := by decide +kernel
theorem dX2_isRow_19 : decode cX2_isRow 19 = .ok (.iload_n 2, 1) := by decide +kernel
theorem dX2_isRow_20 : decode cX2_isRow 20 = .ok (.aload_n 0, 1) := by decide +kernel
theorem dX2_isRow_21 : decode cX2_isRow 21 = .ok (.getfield 9, 3) := by decide +kernel
theorem dX2_isRow_24 : decode cX2_isRow 24 = .ok (.if_icmp .ge 26, 3) := by decide +kernel
theorem dX2_isRow_27 : decode cX2_isRow 27 = .ok (.iload_n 1, 1) := by decide +kernel
theorem dX2_isRow_28 : decode cX2_isRow 28 = .ok (.iconst 3, 1) := by decide +kernel
theorem dX2_isRow_29 : decode cX2_isRow 29 = .ok (.iload_n 2, 1) := by decide +kernel
theorem dX2_isRow_30 : decode cX2_isRow 30 = .ok (.imul, 1) := by decide +kernel
theorem dX2_isRow_31 : decode cX2_isRow 31 = .ok (.ishr, 1) := by decide +kernel
theorem dX2_isRow_32 : decode cX2_isRow 32 = .ok (.bipush 7, 2) := by decide +kernel
theorem dX2_isRow_34 : decode cX2_isRow 34 = .ok (.iand, 1) := by decide +kernel
theorem dX2_isRow_35 : decode cX2_isRow 35 = .ok (.aload_n 0, 1) := by decide +kernel
theorem dX2_isRow_36 : decode cX2_isRow 36 = .ok (.getfield 9, 3) := by decide +kernel
theorem dX2_isRow_39 : decode cX2_isRow 39 = .ok (.if_icmp .lt 5, 3) := by decide +kernel
theorem dX2_isRow_42 : decode cX2_isRow 42 = .ok (.iconst 0, 1) := by decide +kernel
theorem dX2_isRow_43 : decode cX2_isRow 43 = .ok (.ireturn, 1) := by decide +kernel
theorem dX2_isRow_44 : decode cX2_isRow 44 = .ok (.iinc 2 1, 3) := by decide +kernel
theorem dX2_isRow_47 : decode cX2_isRow 47 = .ok (.goto (-28), 3) := by decide +kernel
theorem dX2_isRow_50 : decode cX2_isRow 50 = .ok (.iconst 1, 1) := by decide +kernel
theorem dX2_isRow_51 : decode cX2_isRow 51 = .ok (.ireturn, 1) := by decide +kernel
theorem dX2_isFull_0 : decode cX2_isFull 0 = .ok (.aload_n 0, 1) := by decide +kernel
theorem dX2_isFull_1 : decode cX2_isFull 1 = .ok (.getfield 30, 3) := by decide +kernel
theorem dX2_isFull_4 : decode cX2_isFull 4 = .ok (.iconst 3, 1) := by decide +kernel
theorem dX2_isFull_5 : decode cX2_isFull 5 = .ok (.if_icmp .lt 7, 3) := by decide +kernel
theorem dX2_isFull_8 : decode cX2_isFull 8 = .ok (.iconst 1, 1) := by decide +kernel
theorem dX2_isFull_9 : decode cX2_isFull 9 = .ok (.goto 4, 3) := by decide +kernel
theorem dX2_isFull_12 : decode cX2_isFull 12 = .ok (.iconst 0, 1) := by decide +kernel
theorem dX2_isFull_13 : decode cX2_isFull 13 = .ok (.ireturn, 1) := by decide +kernel
theorem dX2_addDog_0 : decode cX2_addDog 0 = .ok (.aload_n 0, 1) := by decide +kernel
theorem dX2_addDog_1 : decode cX2_addDog 1 = .ok (.getfield 30, 3) := by decide +kernel
theorem dX2_addDog_4 : decode cX2_addDog 4 = .ok (.iconst 3, 1) := by decide +kernel
theorem dX2_addDog_5 : decode cX2_addDog 5 = .ok (.if_icmp .ge 23, 3) := by decide +kernel
theorem dX2_addDog_8 : decode cX2_addDog 8 = .ok (.aload_n 0, 1) := by decide +kernel
theorem dX2_addDog_9 : decode cX2_addDog 9 = .ok (.getfield 35, 3) := by decide +kernel
theorem dX2_addDog_12 : decode cX2_addDog 12 = .ok (.aload_n 0, 1) := by decide +kernel
theorem dX2_addDog_13 : decode cX2_addDog 13 = .ok (.getfield 30, 3) := by decide +kernel
theorem dX2_addDog_16 : decode cX2_addDog 16 = .ok (.aload_n 1, 1) := by decide +kernel
theorem dX2_addDog_17 : decode cX2_addDog 17 = .ok (.aastore, 1) := by decide +kernel
theorem dX2_addDog_18 : decode cX2_addDog 18 = .ok (.aload_n 0, 1) := by decide +kernel
theorem dX2_addDog_19 : decode cX2_addDog 19 = .ok (.dup, 1) := by decide +kernel
theorem dX2_addDog_20 : decode cX2_addDog 20 = .ok (.getfield 30, 3) := by decide +kernel
theorem dX2_addDog_23 : decode cX2_addDog 23 = .ok (.iconst 1, 1) := by decide +kernel
theorem dX2_addDog_24 : decode cX2_addDog 24 = .ok (.iadd, 1) := by decide +kernel
theorem dX2_addDog_25 : decode cX2_addDog 25 = .ok (.putfield 30, 3) := by decide +kernel
theorem dX2_addDog_28 : decode cX2_addDog 28 = .ok (.aload_n 0, 1) := by decide +kernel
theorem dX2_addDog_29 : decode cX2_addDog 29 = .ok (.getfield 30, 3) := by decide +kernel
theorem dX2_addDog_32 : decode cX2_addDog 32 = .ok (.iconst 1, 1) := by decide +kernel
theorem dX2_addDog_33 : decode cX2_addDog 33 = .ok (.isub, 1) := by decide +kernel
theorem dX2_addDog_34 : decode cX2_addDog 34 = .ok (.ireturn, 1) := by decide +kernel
theorem dX2_dogAt_0 : decode cX2_dogAt 0 = .ok (.iload_n 1, 1) := by decide +kernel
theorem dX2_dogAt_1 : decode cX2_dogAt 1 = .ok (.ifCond .lt 20, 3) := by decide +kernel
theorem dX2_dogAt_4 : decode cX2_dogAt 4 = .ok (.iload_n 1, 1) := by decide +kernel
theorem dX2_dogAt_5 : decode cX2_dogAt 5 = .ok (.aload_n 0, 1) := by decide +kernel
theorem dX2_dogAt_6 : decode cX2_dogAt 6 = .ok (.getfield 30, 3) := by decide +kernel
theorem dX2_dogAt_9 : decode cX2_dogAt 9 = .ok (.if_icmp .ge 12, 3) := by decide +kernel
theorem dX2_dogAt_12 : decode cX2_dogAt 12 = .ok (.aload_n 0, 1) := by decide +kernel
theorem dX2_dogAt_13 : decode cX2_dogAt 13 = .ok (.getfield 35, 3) := by decide +kernel
theorem dX2_dogAt_16 : decode cX2_dogAt 16 = .ok (.iload_n 1, 1) := by decide +kernel
theorem dX2_dogAt_17 : decode cX2_dogAt 17 = .ok (.aaload, 1) := by decide +kernel
theorem dX2_dogAt_18 : decode cX2_dogAt 18 = .ok (.goto 4, 3) := by decide +kernel
theorem dX2_dogAt_21 : decode cX2_dogAt 21 = .ok (.aconst_null, 1) := by decide +kernel
theorem dX2_dogAt_22 : decode cX2_dogAt 22 = .ok (.areturn, 1) := by decide +kernel
theorem dX2_areDogs_0 : decode cX2_areDogs 0 = .ok (.iload_n 1, 1) := by decide +kernel
theorem dX2_areDogs_1 : decode cX2_areDogs 1 = .ok (.aload_n 0, 1) := by decide +kernel
theorem dX2_areDogs_2 : decode cX2_areDogs 2 = .ok (.getfield 30, 3) := by decide +kernel
theorem dX2_areDogs_5 : decode cX2_areDogs 5 = .ok (.invokestatic 40, 3) := by decide +kernel
theorem dX2_areDogs_8 : decode cX2_areDogs 8 = .ok (.ireturn, 1) := by decide +kernel
theorem dX3_init_0 : decode cX3_init 0 = .ok (.aload_n 0, 1) := by decide +kernel
theorem dX3_init_1 : decode cX3_init 1 = .ok (.iload_n 1, 1) := by decide +kernel
theorem dX3_init_2 : decode cX3_init 2 = .ok (.iload_n 2, 1) := by decide +kernel
theorem dX3_init_3 : decode cX3_init 3 = .ok (.iload_n 3, 1) := by decide +kernel
theorem dX3_init_4 : decode cX3_init 4 = .ok (.iload 4, 2) := by decide +kernel
theorem dX3_init_6 : decode cX3_init 6 = .ok (.iload 5, 2) := by decide +kernel
theorem dX3_init_8 : decode cX3_init 8 = .ok (.iload 6, 2) := by decide +kernel
theorem dX3_init_10 : decode cX3_init 10 = .ok (.invokespecial 1, 3) := by decide +kernel
theorem dX3_init_13 : decode cX3_init 13 = .ok (.return_, 1) := by decide +kernel
theorem dX3_next_0 : decode cX3_next 0 = .ok (.aload_n 0, 1) := by decide +kernel
theorem dX3_next_1 : decode cX3_next 1 = .ok (.iload_n 1, 1) := by decide +kernel
theorem dX3_next_2 : decode cX3_next 2 = .ok (.iload_n 2, 1) := by decide +kernel
theorem dX3_next_3 : decode cX3_next 3 = .ok (.iload_n 3, 1) := by decide +kernel
theorem dX3_next_4 : decode cX3_next 4 = .ok (.iload 4, 2) := by decide +kernel
theorem dX3_next_6 : decode cX3_next 6 = .ok (.invokevirtual 7, 3) := by decide +kernel
theorem dX3_next_9 : decode cX3_next 9 = .ok (.istore 5, 2) := by decide +kernel
theorem dX3_next_11 : decode cX3_next 11 = .ok (.iload_n 3, 1) := by decide +kernel
theorem dX3_next_12 : decode cX3_next 12 = .ok (.aload_n 0, 1) := by decide +kernel
theorem dX3_next_13 : decode cX3_next 13 = .ok (.getfield 13, 3) := by decide +kernel
theorem dX3_next_16 : decode cX3_next 16 = .ok (.if_icmp .ge 8, 3) := by decide +kernel
theorem dX3_next_19 : decode cX3_next 19 = .ok (.iload 5, 2) := by decide +kernel
theorem dX3_next_21 : decode cX3_next 21 = .ok (.goto 13, 3) := by decide +kernel
theorem dX3_next_24 : decode cX3_next 24 = .ok (.aload_n 0, 1) := by decide +kernel
theorem dX3_next_25 : decode cX3_next 25 = .ok (.iload 5, 2) := by decide +kernel
theorem dX3_next_27 : decode cX3_next 27 = .ok (.iload_n 2, 1) := by decide +kernel
theorem dX3_next_28 : decode cX3_next 28 = .ok (.iload_n 3, 1) := by decide +kernel
theorem dX3_next_29 : decode cX3_next 29 = .ok (.iload 4, 2) := by decide +kernel
theorem dX3_next_31 : decode cX3_next 31 = .ok (.invokevirtual 7, 3) := by decide +kernel
theorem dX3_next_34 : decode cX3_next 34 = .ok (.ireturn, 1) := by decide +kernel
theorem dX4_init_0 : decode cX4_init 0 = .ok (.aload_n 0, 1) := by decide +kernel
theorem dX4_init_1 : decode cX4_init 1 = .ok (.invokespecial 3, 3) := by decide +kernel
theorem dX4_init_4 : decode cX4_init 4 = .ok (.aload_n 0, 1) := by decide +kernel
theorem dX4_init_5 : decode cX4_init 5 = .ok (.sipush 320, 3) := by decide +kernel
theorem dX4_init_8 : decode cX4_init 8 = .ok (.newarray .int, 2) := by decide +kernel
theorem dX4_init_10 : decode cX4_init 10 = .ok (.putfield 9, 3) := by decide +kernel
theorem dX4_init_13 : decode cX4_init 13 = .ok (.aload_n 0, 1) := by decide +kernel
theorem dX4_init_14 : decode cX4_init 14 = .ok (.sipush 672, 3) := by decide +kernel
theorem dX4_init_17 : decode cX4_init 17 = .ok (.newarray .int, 2) := by decide +kernel
theorem dX4_init_19 : decode cX4_init 19 = .ok (.putfield 15, 3) := by decide +kernel
theorem dX4_init_22 : decode cX4_init 22 = .ok (.aload_n 0, 1) := by decide +kernel
theorem dX4_init_23 : decode cX4_init 23 = .ok (.iconst 5, 1) := by decide +kernel
theorem dX4_init_24 : decode cX4_init 24 = .ok (.newarray .int, 2) := by decide +kernel
theorem dX4_init_26 : decode cX4_init 26 = .ok (.putfield 18, 3) := by decide +kernel
theorem dX4_init_29 : decode cX4_init 29 = .ok (.aload_n 0, 1) := by decide +kernel
theorem dX4_init_30 : decode cX4_init 30 = .ok (.iconst 0, 1) := by decide +kernel
theorem dX4_init_31 : decode cX4_init 31 = .ok (.putfield 21, 3) := by decide +kernel
theorem dX4_init_34 : decode cX4_init 34 = .ok (.return_, 1) := by decide +kernel
theorem dX4_learn_0 : decode cX4_learn 0 = .ok (.aload_n 0, 1) := by decide +kernel
theorem dX4_learn_1 : decode cX4_learn 1 = .ok (.iconst 1, 1) := by decide +kernel
theorem dX4_learn_2 : decode cX4_learn 2 = .ok (.iload_n 2, 1) := by decide +kernel
theorem dX4_learn_3 : decode cX4_learn 3 = .ok (.ishl, 1) := by decide +kernel
theorem dX4_learn_4 : decode cX4_learn 4 = .ok (.bipush 32, 2) := by decide +kernel
theorem dX4_learn_6 : decode cX4_learn 6 = .ok (.invokestatic 25, 3) := by decide +kernel
theorem dX4_learn_9 : decode cX4_learn 9 = .ok (.putfield 21, 3) := by decide +kernel
theorem dX4_learn_12 : decode cX4_learn 12 = .ok (.iconst 0, 1) := by decide +kernel
theorem dX4_learn_13 : decode cX4_learn 13 = .ok (.istore 4, 2) := by decide +kernel
theorem dX4_learn_15 : decode cX4_learn 15 = .ok (.iload 4, 2) := by decide +kernel
theorem dX4_learn_17 : decode cX4_learn 17 = .ok (.iconst 5, 1) := by decide +kernel
theorem dX4_learn_18 : decode cX4_learn 18 = .ok (.if_icmp .ge 85, 3) := by decide +kernel
theorem dX4_learn_21 : decode cX4_learn 21 = .ok (.iconst 0, 1) := by decide +kernel
theorem dX4_learn_22 : decode cX4_learn 22 = .ok (.istore 5, 2) := by decide +kernel
theorem dX4_learn_24 : decode cX4_learn 24 = .ok (.iload 5, 2) := by decide +kernel
theorem dX4_learn_26 : decode cX4_learn 26 = .ok (.iconst 2, 1) := by decide +kernel
theorem dX4_learn_27 : decode cX4_learn 27 = .ok (.if_icmp .ge 70, 3) := by decide +kernel
theorem dX4_learn_30 : decode cX4_learn 30 = .ok (.iload 4, 2) := by decide +kernel
theorem dX4_learn_32 : decode cX4_learn 32 = .ok (.iload 5, 2) := by decide +kernel
theorem dX4_learn_34 : decode cX4_learn 34 = .ok (.invokestatic 31, 3) := by decide +kernel
theorem dX4_learn_37 : decode cX4_learn 37 = .ok (.istore 6, 2) := by decide +kernel
theorem dX4_learn_39 : decode cX4_learn 39 = .ok (.iconst 0, 1) := by decide +kernel
theorem dX4_learn_40 : decode cX4_learn 40 = .ok (.istore 7, 2) := by decide +kernel
theorem dX4_learn_42 : decode cX4_learn 42 = .ok (.iload 7, 2) := by decide +kernel
theorem dX4_learn_44 : decode cX4_learn 44 = .ok (.iload_n 2, 1) := by decide +kernel
theorem dX4_learn_45 : decode cX4_learn 45 = .ok (.if_icmp .ge 40, 3) := by decide +kernel
theorem dX4_learn_48 : decode cX4_learn 48 = .ok (.iload 7, 2) := by decide +kernel
theorem dX4_learn_50 : decode cX4_learn 50 = .ok (.iconst 5, 1) := by decide +kernel
theorem dX4_learn_51 : decode cX4_learn 51 = .ok (.if_icmp .ge 34, 3) := by decide +kernel
theorem dX4_learn_54 : decode cX4_learn 54 = .ok (.aload_n 0, 1) := by decide +kernel
theorem dX4_learn_55 : decode cX4_learn 55 = .ok (.getfield 9, 3) := by decide +kernel
theorem dX4_learn_58 : decode cX4_learn 58 = .ok (.iload 6, 2) := by decide +kernel
theorem dX4_learn_60 : decode cX4_learn 60 = .ok (.iconst 1, 1) := by decide +kernel
theorem dX4_learn_61 : decode cX4_learn 61 = .ok (.iload 7, 2) := by decide +kernel
theorem dX4_learn_63 : decode cX4_learn 63 = .ok (.ishl, 1) := by decide +kernel
theorem dX4_learn_64 : decode cX4_learn 64 = .ok (.iadd, 1) := by decide +kernel
theorem dX4_learn_65 : decode cX4_learn 65 = .ok (.iconst 1, 1) := by decide +kernel
theorem dX4_learn_66 : decode cX4_learn 66 = .ok (.aload_n 1, 1) := by decide +kernel
theorem dX4_learn_67 : decode cX4_learn 67 = .ok (.iload 7, 2) := by decide +kernel
theorem dX4_learn_69 : decode cX4_learn 69 = .ok (.iload 5, 2) := by decide +kernel
theorem dX4_learn_71 : decode cX4_learn 71 = .ok (.iload 4, 2) := by decide +kernel
theorem dX4_learn_73 : decode cX4_learn 73 = .ok (.iload_n 3, 1) := by decide +kernel
theorem dX4_learn_74 : decode cX4_learn 74 = .ok (.invokevirtual 34, 3) := by decide +kernel
theorem dX4_learn_77 : decode cX4_learn 77 = .ok (.ishl, 1) := by decide +kernel
theorem dX4_learn_78 : decode cX4_learn 78 = .ok (.iastore, 1) := by decide +kernel
theorem dX4_learn_79 : decode cX4_learn 79 = .ok (.iinc 7 1, 3) := by decide +kernel
theorem dX4_learn_82 : decode cX4_learn 82 = .ok (.goto (-40), 3) := by decide +kernel
theorem dX4_learn_85 : decode cX4_learn 85 = .ok (.aload_n 0, 1) := by decide +kernel
theorem dX4_learn_86 : decode cX4_learn 86 = .ok (.iload 6, 2) := by decide +kernel
theorem dX4_learn_88 : decode cX4_learn 88 = .ok (.invokevirtual 40, 3) := by decide +kernel
theorem dX4_learn_91 : decode cX4_learn 91 = .ok (.iinc 5 1, 3) := by decide +kernel
theorem dX4_learn_94 : decode cX4_learn 94 = .ok (.goto (-70), 3) := by decide +kernel
theorem dX4_learn_97 : decode cX4_learn 97 = .ok (.iinc 4 1, 3) := by decide +kernel
theorem dX4_learn_100 : decode cX4_learn 100 = .ok (.goto (-85), 3) := by decide +kernel
theorem dX4_learn_103 : decode cX4_learn 103 = .ok (.return_, 1) := by decide +kernel
theorem dX4_joinSets_0 : decode cX4_joinSets 0 = .ok (.iconst 1, 1) := by decide +kernel
theorem dX4_joinSets_1 : decode cX4_joinSets 1 = .ok (.istore_n 2, 1) := by decide +kernel
theorem dX4_joinSets_2 : decode cX4_joinSets 2 = .ok (.iload_n 2, 1) := by decide +kernel
theorem dX4_joinSets_3 : decode cX4_joinSets 3 = .ok (.aload_n 0, 1) := by decide +kernel
theorem dX4_joinSets_4 : decode cX4_joinSets 4 = .ok (.getfield 21, 3) := by decide +kernel
theorem dX4_joinSets_7 : decode cX4_joinSets 7 = .ok (.if_icmp .ge 41, 3) := by decide +kernel
theorem dX4_joinSets_10 : decode cX4_joinSets 10 = .ok (.iload_n 2, 1) := by decide +kernel
theorem dX4_joinSets_11 : decode cX4_joinSets 11 = .ok (.iload_n 2, 1) := by decide +kernel
theorem dX4_joinSets_12 : decode cX4_joinSets 12 = .ok (.ineg, 1) := by decide +kernel
theorem dX4_joinSets_13 : decode cX4_joinSets 13 = .ok (.iand, 1) := by decide +kernel
theorem dX4_joinSets_14 : decode cX4_joinSets 14 = .ok (.istore_n 3, 1) := by decide +kernel
theorem dX4_joinSets_15 : decode cX4_joinSets 15 = .ok (.aload_n 0, 1) := by decide +kernel
theorem dX4_joinSets_16 : decode cX4_joinSets 16 = .ok (.getfield 9, 3) := by decide +kernel
theorem dX4_joinSets_19 : decode cX4_joinSets 19 = .ok (.iload_n 1, 1) := by decide +kernel
theorem dX4_joinSets_20 : decode cX4_joinSets 20 = .ok (.iload_n 2, 1) := by decide +kernel
theorem dX4_joinSets_21 : decode cX4_joinSets 21 = .ok (.iadd, 1) := by decide +kernel
theorem dX4_joinSets_22 : decode cX4_joinSets 22 = .ok (.aload_n 0, 1) := by decide +kernel
theorem dX4_joinSets_23 : decode cX4_joinSets 23 = .ok (.getfield 9, 3) := by decide +kernel
theorem dX4_joinSets_26 : decode cX4_joinSets 26 = .ok (.iload_n 1, 1) := by decide +kernel
theorem dX4_joinSets_27 : decode cX4_joinSets 27 = .ok (.iload_n 3, 1) := by decide +kernel
theorem dX4_joinSets_28 : decode cX4_joinSets 28 = .ok (.iadd, 1) := by decide +kernel
theorem dX4_joinSets_29 : decode cX4_joinSets 29 = .ok (.iaload, 1) := by decide +kernel
theorem dX4_joinSets_30 : decode cX4_joinSets 30 = .ok (.aload_n 0, 1) := by decide +kernel
theorem dX4_joinSets_31 : decode cX4_joinSets 31 = .ok (.getfield 9, 3) := by decide +kernel
theorem dX4_joinSets_34 : decode cX4_joinSets 34 = .ok (.iload_n 1, 1) := by decide +kernel
theorem dX4_joinSets_35 : decode cX4_joinSets 35 = .ok (.iload_n 2, 1) := by decide +kernel
theorem dX4_joinSets_36 : decode cX4_joinSets 36 = .ok (.iload_n 3, 1) := by decide +kernel
theorem dX4_joinSets_37 : decode cX4_joinSets 37 = .ok (.ixor, 1) := by decide +kernel
theorem dX4_joinSets_38 : decode cX4_joinSets 38 = .ok (.iadd, 1) := by decide +kernel
theorem dX4_joinSets_39 : decode cX4_joinSets 39 = .ok (.iaload, 1) := by decide +kernel
theorem dX4_joinSets_40 : decode cX4_joinSets 40 = .ok (.ior, 1) := by decide +kernel
theorem dX4_joinSets_41 : decode cX4_joinSets 41 = .ok (.iastore, 1) := by decide +kernel
theorem dX4_joinSets_42 : decode cX4_joinSets 42 = .ok (.iinc 2 1, 3) := by decide +kernel
theorem dX4_joinSets_45 : decode cX4_joinSets 45 = .ok (.goto (-43), 3) := by decide +kernel
theorem dX4_joinSets_48 : decode cX4_joinSets 48 = .ok (.return_, 1) := by decide +kernel
theorem dX4_rowOf_0 : decode cX4_rowOf 0 = .ok (.iload_n 0, 1) := by decide +kernel
theorem dX4_rowOf_1 : decode cX4_rowOf 1 = .ok (.iconst 2, 1) := by decide +kernel
theorem dX4_rowOf_2 : decode cX4_rowOf 2 = .ok (.imul, 1) := by decide +kernel
theorem dX4_rowOf_3 : decode cX4_rowOf 3 = .ok (.iload_n 1, 1) := by decide +kernel
theorem dX4_rowOf_4 : decode cX4_rowOf 4 = .ok (.iadd, 1) := by decide +kernel
theorem dX4_rowOf_5 : decode cX4_rowOf 5 = .ok (.bipush 32, 2) := by decide +kernel
theorem dX4_rowOf_7 : decode cX4_rowOf 7 = .ok (.imul, 1) := by decide +kernel
theorem dX4_rowOf_8 : decode cX4_rowOf 8 = .ok (.ireturn, 1) := by decide +kernel
theorem dX4_behind_0 : decode cX4_behind 0 = .ok (.iload_n 1, 1) := by decide +kernel
theorem dX4_behind_1 : decode cX4_behind 1 = .ok (.invokestatic 44, 3) := by decide +kernel
theorem dX4_behind_4 : decode cX4_behind 4 = .ok (.iload_n 2, 1) := by decide +kernel
theorem dX4_behind_5 : decode cX4_behind 5 = .ok (.invokestatic 31, 3) := by decide +kernel
theorem dX4_behind_8 : decode cX4_behind 8 = .ok (.iload_n 3, 1) := by decide +kernel
theorem dX4_behind_9 : decode cX4_behind 9 = .ok (.iadd, 1) := by decide +kernel
theorem dX4_behind_10 : decode cX4_behind 10 = .ok (.istore 4, 2) := by decide +kernel
theorem dX4_behind_12 : decode cX4_behind 12 = .ok (.iload 4, 2) := by decide +kernel
theorem dX4_behind_14 : decode cX4_behind 14 = .ok (.ifCond .lt 23, 3) := by decide +kernel
theorem dX4_behind_17 : decode cX4_behind 17 = .ok (.iload 4, 2) := by decide +kernel
theorem dX4_behind_19 : decode cX4_behind 19 = .ok (.aload_n 0, 1) := by decide +kernel
theorem dX4_behind_20 : decode cX4_behind 20 = .ok (.getfield 9, 3) := by decide +kernel
theorem dX4_behind_23 : decode cX4_behind 23 = .ok (.arraylength, 1) := by decide +kernel
theorem dX4_behind_24 : decode cX4_behind 24 = .ok (.if_icmp .ge 13, 3) := by decide +kernel
theorem dX4_behind_27 : decode cX4_behind 27 = .ok (.aload_n 0, 1) := by decide +kernel
theorem dX4_behind_28 : decode cX4_behind 28 = .ok (.getfield 9, 3) := by decide +kernel
theorem dX4_behind_31 : decode cX4_behind 31 = .ok (.iload 4, 2) := by decide +kernel
theorem dX4_behind_33 : decode cX4_behind 33 = .ok (.iaload, 1) := by decide +kernel
theorem dX4_behind_34 : decode cX4_behind 34 = .ok (.goto 4, 3) := by decide +kernel
theorem dX4_behind_37 : decode cX4_behind 37 = .ok (.iconst 0, 1) := by decide +kernel
theorem dX4_behind_38 : decode cX4_behind 38 = .ok (.ireturn, 1) := by decide +kernel
theorem dX4_findEnds_0 : decode cX4_findEnds 0 = .ok (.sipush 640, 3) := by decide +kernel
theorem dX4_findEnds_3 : decode cX4_findEnds 3 = .ok (.istore_n 2, 1) := by decide +kernel
theorem dX4_findEnds_4 : decode cX4_findEnds 4 = .ok (.iconst 1, 1) := by decide +kernel
theorem dX4_findEnds_5 : decode cX4_findEnds 5 = .ok (.istore_n 3, 1) := by decide +kernel
theorem dX4_findEnds_6 : decode cX4_findEnds 6 = .ok (.iload_n 3, 1) := by decide +kernel
theorem dX4_findEnds_7 : decode cX4_findEnds 7 = .ok (.aload_n 0, 1) := by decide +kernel
theorem dX4_findEnds_8 : decode cX4_findEnds 8 = .ok (.getfield 21, 3) := by decide +kernel
theorem dX4_findEnds_11 : decode cX4_findEnds 11 = .ok (.if_icmp .ge 28, 3) := by decide +kernel
theorem dX4_findEnds_14 : decode cX4_findEnds 14 = .ok (.aload_n 0, 1) := by decide +kernel
theorem dX4_findEnds_15 : decode cX4_findEnds 15 = .ok (.getfield 15, 3) := by decide +kernel
theorem dX4_findEnds_18 : decode cX4_findEnds 18 = .ok (.iload_n 2, 1) := by decide +kernel
theorem dX4_findEnds_19 : decode cX4_findEnds 19 = .ok (.iload_n 3, 1) := by decide +kernel
theorem dX4_findEnds_20 : decode cX4_findEnds 20 = .ok (.iadd, 1) := by decide +kernel
theorem dX4_findEnds_21 : decode cX4_findEnds 21 = .ok (.iload_n 3, 1) := by decide +kernel
theorem dX4_findEnds_22 : decode cX4_findEnds 22 = .ok (.iload_n 1, 1) := by decide +kernel
theorem dX4_findEnds_23 : decode cX4_findEnds 23 = .ok (.if_icmp .ne 8, 3) := by decide +kernel
theorem dX4_findEnds_26 : decode cX4_findEnds 26 = .ok (.ldc 48, 2) := by decide +kernel
theorem dX4_findEnds_28 : decode cX4_findEnds 28 = .ok (.goto 4, 3) := by decide +kernel
theorem dX4_findEnds_31 : decode cX4_findEnds 31 = .ok (.iconst 0, 1) := by decide +kernel
theorem dX4_findEnds_32 : decode cX4_findEnds 32 = .ok (.iastore, 1) := by decide +kernel
theorem dX4_findEnds_33 : decode cX4_findEnds 33 = .ok (.iinc 3 1, 3) := by decide +kernel
theorem dX4_findEnds_36 : decode cX4_findEnds 36 = .ok (.goto (-30), 3) := by decide +kernel
theorem dX4_findEnds_39 : decode cX4_findEnds 39 = .ok (.bipush 19, 2) := by decide +kernel
theorem dX4_findEnds_41 : decode cX4_findEnds 41 = .ok (.istore_n 3, 1) := by decide +kernel
theorem dX4_findEnds_42 : decode cX4_findEnds 42 = .ok (.iload_n 3, 1) := by decide +kernel
theorem dX4_findEnds_43 : decode cX4_findEnds 43 = .ok (.ifCond .lt 125, 3) := by decide +kernel
theorem dX4_findEnds_46 : decode cX4_findEnds 46 = .ok (.iload_n 3, 1) := by decide +kernel
theorem dX4_findEnds_47 : decode cX4_findEnds 47 = .ok (.invokestatic 44, 3) := by decide +kernel
theorem dX4_findEnds_50 : decode cX4_findEnds 50 = .ok (.iconst 0, 1) := by decide +kernel
theorem dX4_findEnds_51 : decode cX4_findEnds 51 = .ok (.invokestatic 31, 3) := by decide +kernel
theorem dX4_findEnds_54 : decode cX4_findEnds 54 = .ok (.istore 4, 2) := by decide +kernel
theorem dX4_findEnds_56 : decode cX4_findEnds 56 = .ok (.iload_n 3, 1) := by decide +kernel
theorem dX4_findEnds_57 : decode cX4_findEnds 57 = .ok (.invokestatic 44, 3) := by decide +kernel
theorem dX4_findEnds_60 : decode cX4_findEnds 60 = .ok (.iconst 1, 1) := by decide +kernel
theorem dX4_findEnds_61 : decode cX4_findEnds 61 = .ok (.invokestatic 31, 3) := by decide +kernel
theorem dX4_findEnds_64 : decode cX4_findEnds 64 = .ok (.istore 5, 2) := by decide +kernel
theorem dX4_findEnds_66 : decode cX4_findEnds 66 = .ok (.iload_n 3, 1) := by decide +kernel
theorem dX4_findEnds_67 : decode cX4_findEnds 67 = .ok (.bipush 32, 2) := by decide +kernel
theorem dX4_findEnds_69 : decode cX4_findEnds 69 = .ok (.imul, 1) := by decide +kernel
theorem dX4_findEnds_70 : decode cX4_findEnds 70 = .ok (.istore 6, 2) := by decide +kernel
theorem dX4_findEnds_72 : decode cX4_findEnds 72 = .ok (.iload 6, 2) := by decide +kernel
theorem dX4_findEnds_74 : decode cX4_findEnds 74 = .ok (.bipush 32, 2) := by decide +kernel
theorem dX4_findEnds_76 : decode cX4_findEnds 76 = .ok (.iadd, 1) := by decide +kernel
theorem dX4_findEnds_77 : decode cX4_findEnds 77 = .ok (.istore 7, 2) := by decide +kernel
theorem dX4_findEnds_79 : decode cX4_findEnds 79 = .ok (.iconst 1, 1) := by decide +kernel
theorem dX4_findEnds_80 : decode cX4_findEnds 80 = .ok (.istore 8, 2) := by decide +kernel
theorem dX4_findEnds_82 : decode cX4_findEnds 82 = .ok (.iload 8, 2) := by decide +kernel
theorem dX4_findEnds_84 : decode cX4_findEnds 84 = .ok (.aload_n 0, 1) := by decide +kernel
theorem dX4_findEnds_85 : decode cX4_findEnds 85 = .ok (.getfield 21, 3) := by decide +kernel
theorem dX4_findEnds_88 : decode cX4_findEnds 88 = .ok (.if_icmp .ge 74, 3) := by decide +kernel
theorem dX4_findEnds_91 : decode cX4_findEnds 91 = .ok (.iload 8, 2) := by decide +kernel
theorem dX4_findEnds_93 : decode cX4_findEnds 93 = .ok (.iload_n 1, 1) := by decide +kernel
theorem dX4_findEnds_94 : decode cX4_findEnds 94 = .ok (.if_icmp .ne 9, 3) := by decide +kernel
theorem dX4_findEnds_97 : decode cX4_findEnds 97 = .ok (.iconst 1, 1) := by decide +kernel
theorem dX4_findEnds_98 : decode cX4_findEnds 98 = .ok (.iload_n 3, 1) := by decide +kernel
theorem dX4_findEnds_99 : decode cX4_findEnds 99 = .ok (.ishl, 1) := by decide +kernel
theorem dX4_findEnds_100 : decode cX4_findEnds 100 = .ok (.goto 4, 3) := by decide +kernel
theorem dX4_findEnds_103 : decode cX4_findEnds 103 = .ok (.iconst 0, 1) := by decide +kernel
theorem dX4_findEnds_104 : decode cX4_findEnds 104 = .ok (.istore 9, 2) := by decide +kernel
theorem dX4_findEnds_106 : decode cX4_findEnds 106 = .ok (.aload_n 0, 1) := by decide +kernel
theorem dX4_findEnds_107 : decode cX4_findEnds 107 = .ok (.getfield 15, 3) := by decide +kernel
theorem dX4_findEnds_110 : decode cX4_findEnds 110 = .ok (.iload 6, 2) := by decide +kernel
theorem dX4_findEnds_112 : decode cX4_findEnds 112 = .ok (.iload 8, 2) := by decide +kernel
theorem dX4_findEnds_114 : decode cX4_findEnds 114 = .ok (.iadd, 1) := by decide +kernel
theorem dX4_findEnds_115 : decode cX4_findEnds 115 = .ok (.iload 9, 2) := by decide +kernel
theorem dX4_findEnds_117 : decode cX4_findEnds 117 = .ok (.aload_n 0, 1) := by decide +kernel
theorem dX4_findEnds_118 : decode cX4_findEnds 118 = .ok (.getfield 15, 3) := by decide +kernel
theorem dX4_findEnds_121 : decode cX4_findEnds 121 = .ok (.iload 7, 2) := by decide +kernel
theorem dX4_findEnds_123 : decode cX4_findEnds 123 = .ok (.aload_n 0, 1) := by decide +kernel
theorem dX4_findEnds_124 : decode cX4_findEnds 124 = .ok (.getfield 9, 3) := by decide +kernel
theorem dX4_findEnds_127 : decode cX4_findEnds 127 = .ok (.iload 4, 2) := by decide +kernel
theorem dX4_findEnds_129 : decode cX4_findEnds 129 = .ok (.iload 8, 2) := by decide +kernel
theorem dX4_findEnds_131 : decode cX4_findEnds 131 = .ok (.iadd, 1) := by decide +kernel
theorem dX4_findEnds_132 : decode cX4_findEnds 132 = .ok (.iaload, 1) := by decide +kernel
theorem dX4_findEnds_133 : decode cX4_findEnds 133 = .ok (.iadd, 1) := by decide +kernel
theorem dX4_findEnds_134 : decode cX4_findEnds 134 = .ok (.iaload, 1) := by decide +kernel
theorem dX4_findEnds_135 : decode cX4_findEnds 135 = .ok (.ior, 1) := by decide +kernel
theorem dX4_findEnds_136 : decode cX4_findEnds 136 = .ok (.aload_n 0, 1) := by decide +kernel
theorem dX4_findEnds_137 : decode cX4_findEnds 137 = .ok (.getfield 15, 3) := by decide +kernel
theorem dX4_findEnds_140 : decode cX4_findEnds 140 = .ok (.iload 7, 2) := by decide +kernel
theorem dX4_findEnds_142 : decode cX4_findEnds 142 = .ok (.aload_n 0, 1) := by decide +kernel
theorem dX4_findEnds_143 : decode cX4_findEnds 143 = .ok (.getfield 9, 3) := by decide +kernel
theorem dX4_findEnds_146 : decode cX4_findEnds 146 = .ok (.iload 5, 2) := by decide +kernel
theorem dX4_findEnds_148 : decode cX4_findEnds 148 = .ok (.iload 8, 2) := by decide +kernel
theorem dX4_findEnds_150 : decode cX4_findEnds 150 = .ok (.iadd, 1) := by decide +kernel
theorem dX4_findEnds_151 : decode cX4_findEnds 151 = .ok (.iaload, 1) := by decide +kernel
theorem dX4_findEnds_152 : decode cX4_findEnds 152 = .ok (.iadd, 1) := by decide +kernel
theorem dX4_findEnds_153 : decode cX4_findEnds 153 = .ok (.iaload, 1) := by decide +kernel
theorem dX4_findEnds_154 : decode cX4_findEnds 154 = .ok (.ior, 1) := by decide +kernel
theorem dX4_findEnds_155 : decode cX4_findEnds 155 = .ok (.iastore, 1) := by decide +kernel
theorem dX4_findEnds_156 : decode cX4_findEnds 156 = .ok (.iinc 8 1, 3) := by decide +kernel
theorem dX4_findEnds_159 : decode cX4_findEnds 159 = .ok (.goto (-77), 3) := by decide +kernel
theorem dX4_findEnds_162 : decode cX4_findEnds 162 = .ok (.iinc 3 (-1), 3) := by decide +kernel
theorem dX4_findEnds_165 : decode cX4_findEnds 165 = .ok (.goto (-123), 3) := by decide +kernel
theorem dX4_findEnds_168 : decode cX4_findEnds 168 = .ok (.return_, 1) := by decide +kernel
theorem dX4_endsFrom_0 : decode cX4_endsFrom 0 = .ok (.iload_n 1, 1) := by decide +kernel
theorem dX4_endsFrom_1 : decode cX4_endsFrom 1 = .ok (.bipush 32, 2) := by decide +kernel
theorem dX4_endsFrom_3 : decode cX4_endsFrom 3 = .ok (.imul, 1) := by decide +kernel
theorem dX4_endsFrom_4 : decode cX4_endsFrom 4 = .ok (.iload_n 2, 1) := by decide +kernel
theorem dX4_endsFrom_5 : decode cX4_endsFrom 5 = .ok (.iadd, 1) := by decide +kernel
theorem dX4_endsFrom_6 : decode cX4_endsFrom 6 = .ok (.istore_n 3, 1) := by decide +kernel
theorem dX4_endsFrom_7 : decode cX4_endsFrom 7 = .ok (.iload_n 3, 1) := by decide +kernel
theorem dX4_endsFrom_8 : decode cX4_endsFrom 8 = .ok (.ifCond .lt 21, 3) := by decide +kernel
theorem dX4_endsFrom_11 : decode cX4_endsFrom 11 = .ok (.iload_n 3, 1) := by decide +kernel
theorem dX4_endsFrom_12 : decode cX4_endsFrom 12 = .ok (.aload_n 0, 1) := by decide +kernel
theorem dX4_endsFrom_13 : decode cX4_endsFrom 13 = .ok (.getfield 15, 3) := by decide +kernel
theorem dX4_endsFrom_16 : decode cX4_endsFrom 16 = .ok (.arraylength, 1) := by decide +kernel
theorem dX4_endsFrom_17 : decode cX4_endsFrom 17 = .ok (.if_icmp .ge 12, 3) := by decide +kernel
theorem dX4_endsFrom_20 : decode cX4_endsFrom 20 = .ok (.aload_n 0, 1) := by decide +kernel
theorem dX4_endsFrom_21 : decode cX4_endsFrom 21 = .ok (.getfield 15, 3) := by decide +kernel
theorem dX4_endsFrom_24 : decode cX4_endsFrom 24 = .ok (.iload_n 3, 1) := by decide +kernel
theorem dX4_endsFrom_25 : decode cX4_endsFrom 25 = .ok (.iaload, 1) := by decide +kernel
theorem dX4_endsFrom_26 : decode cX4_endsFrom 26 = .ok (.goto 4, 3) := by decide +kernel
theorem dX4_endsFrom_29 : decode cX4_endsFrom 29 = .ok (.iconst 0, 1) := by decide +kernel
theorem dX4_endsFrom_30 : decode cX4_endsFrom 30 = .ok (.ireturn, 1) := by decide +kernel
theorem dX4_findMeetings_0 : decode cX4_findMeetings 0 = .ok (.iconst 0, 1) := by decide +kernel
theorem dX4_findMeetings_1 : decode cX4_findMeetings 1 = .ok (.istore_n 1, 1) := by decide +kernel
theorem dX4_findMeetings_2 : decode cX4_findMeetings 2 = .ok (.iconst 1, 1) := by decide +kernel
theorem dX4_findMeetings_3 : decode cX4_findMeetings 3 = .ok (.istore_n 2, 1) := by decide +kernel
theorem dX4_findMeetings_4 : decode cX4_findMeetings 4 = .ok (.iload_n 2, 1) := by decide +kernel
theorem dX4_findMeetings_5 : decode cX4_findMeetings 5 = .ok (.aload_n 0, 1) := by decide +kernel
theorem dX4_findMeetings_6 : decode cX4_findMeetings 6 = .ok (.getfield 21, 3) := by decide +kernel
theorem dX4_findMeetings_9 : decode cX4_findMeetings 9 = .ok (.if_icmp .ge 27, 3) := by decide +kernel
theorem dX4_findMeetings_12 : decode cX4_findMeetings 12 = .ok (.iload_n 1, 1) := by decide +kernel
theorem dX4_findMeetings_13 : decode cX4_findMeetings 13 = .ok (.iload_n 2, 1) := by decide +kernel
theorem dX4_findMeetings_14 : decode cX4_findMeetings 14 = .ok (.invokestatic 49, 3) := by decide +kernel
theorem dX4_findMeetings_17 : decode cX4_findMeetings 17 = .ok (.iconst 1, 1) := by decide +kernel
