theorem dX9_next_11 : decode cX9_next 11 = .ok (.iload_n 1, 1) := by decide +kernel
theorem dX9_next_12 : decode cX9_next 12 = .ok (.iload_n 2, 1) := by decide +kernel
theorem dX9_next_13 : decode cX9_next 13 = .ok (.iload_n 3, 1) := by decide +kernel
theorem dX9_next_14 : decode cX9_next 14 = .ok (.iload 4, 2) := by decide +kernel
theorem dX9_next_16 : decode cX9_next 16 = .ok (.invokevirtual 7, 3) := by decide +kernel
theorem dX9_next_19 : decode cX9_next 19 = .ok (.ireturn, 1) := by decide +kernel
theorem dX10_init_0 : decode cX10_init 0 = .ok (.aload_n 0, 1) := by decide +kernel
theorem dX10_init_1 : decode cX10_init 1 = .ok (.invokespecial 3, 3) := by decide +kernel
theorem dX10_init_4 : decode cX10_init 4 = .ok (.aload_n 0, 1) := by decide +kernel
theorem dX10_init_5 : decode cX10_init 5 = .ok (.sipush 288, 3) := by decide +kernel
theorem dX10_init_8 : decode cX10_init 8 = .ok (.newarray .int, 2) := by decide +kernel
theorem dX10_init_10 : decode cX10_init 10 = .ok (.putfield 9, 3) := by decide +kernel
theorem dX10_init_13 : decode cX10_init 13 = .ok (.aload_n 0, 1) := by decide +kernel
theorem dX10_init_14 : decode cX10_init 14 = .ok (.iconst 0, 1) := by decide +kernel
theorem dX10_init_15 : decode cX10_init 15 = .ok (.putfield 15, 3) := by decide +kernel
theorem dX10_init_18 : decode cX10_init 18 = .ok (.return_, 1) := by decide +kernel
theorem dX10_weigh_0 : decode cX10_weigh 0 = .ok (.aload_n 0, 1) := by decide +kernel
theorem dX10_weigh_1 : decode cX10_weigh 1 = .ok (.iload_n 3, 1) := by decide +kernel
theorem dX10_weigh_2 : decode cX10_weigh 2 = .ok (.putfield 15, 3) := by decide +kernel
theorem dX10_weigh_5 : decode cX10_weigh 5 = .ok (.bipush 8, 2) := by decide +kernel
theorem dX10_weigh_7 : decode cX10_weigh 7 = .ok (.istore 4, 2) := by decide +kernel
theorem dX10_weigh_9 : decode cX10_weigh 9 = .ok (.iload 4, 2) := by decide +kernel
theorem dX10_weigh_11 : decode cX10_weigh 11 = .ok (.ifCond .lt 95, 3) := by decide +kernel
theorem dX10_weigh_14 : decode cX10_weigh 14 = .ok (.iconst 0, 1) := by decide +kernel
theorem dX10_weigh_15 : decode cX10_weigh 15 = .ok (.istore 5, 2) := by decide +kernel
theorem dX10_weigh_17 : decode cX10_weigh 17 = .ok (.iload 5, 2) := by decide +kernel
theorem dX10_weigh_19 : decode cX10_weigh 19 = .ok (.iload_n 2, 1) := by decide +kernel
theorem dX10_weigh_20 : decode cX10_weigh 20 = .ok (.if_icmp .gt 80, 3) := by decide +kernel
theorem dX10_weigh_23 : decode cX10_weigh 23 = .ok (.iload 5, 2) := by decide +kernel
theorem dX10_weigh_25 : decode cX10_weigh 25 = .ok (.invokestatic 19, 3) := by decide +kernel
theorem dX10_weigh_28 : decode cX10_weigh 28 = .ok (.iconst 1, 1) := by decide +kernel
theorem dX10_weigh_29 : decode cX10_weigh 29 = .ok (.if_icmp .gt 7, 3) := by decide +kernel
theorem dX10_weigh_32 : decode cX10_weigh 32 = .ok (.iconst 0, 1) := by decide +kernel
theorem dX10_weigh_33 : decode cX10_weigh 33 = .ok (.goto 5, 3) := by decide +kernel
theorem dX10_weigh_36 : decode cX10_weigh 36 = .ok (.bipush 99, 2) := by decide +kernel
theorem dX10_weigh_38 : decode cX10_weigh 38 = .ok (.istore 6, 2) := by decide +kernel
theorem dX10_weigh_40 : decode cX10_weigh 40 = .ok (.iload 6, 2) := by decide +kernel
theorem dX10_weigh_42 : decode cX10_weigh 42 = .ok (.bipush 99, 2) := by decide +kernel
theorem dX10_weigh_44 : decode cX10_weigh 44 = .ok (.if_icmp .ne 35, 3) := by decide +kernel
theorem dX10_weigh_47 : decode cX10_weigh 47 = .ok (.iload 4, 2) := by decide +kernel
theorem dX10_weigh_49 : decode cX10_weigh 49 = .ok (.bipush 8, 2) := by decide +kernel
theorem dX10_weigh_51 : decode cX10_weigh 51 = .ok (.if_icmp .ge 28, 3) := by decide +kernel
theorem dX10_weigh_54 : decode cX10_weigh 54 = .ok (.aload_n 0, 1) := by decide +kernel
theorem dX10_weigh_55 : decode cX10_weigh 55 = .ok (.aload_n 1, 1) := by decide +kernel
theorem dX10_weigh_56 : decode cX10_weigh 56 = .ok (.iload 4, 2) := by decide +kernel
theorem dX10_weigh_58 : decode cX10_weigh 58 = .ok (.iconst 0, 1) := by decide +kernel
theorem dX10_weigh_59 : decode cX10_weigh 59 = .ok (.iload 5, 2) := by decide +kernel
theorem dX10_weigh_61 : decode cX10_weigh 61 = .ok (.invokevirtual 25, 3) := by decide +kernel
theorem dX10_weigh_64 : decode cX10_weigh 64 = .ok (.aload_n 0, 1) := by decide +kernel
theorem dX10_weigh_65 : decode cX10_weigh 65 = .ok (.aload_n 1, 1) := by decide +kernel
theorem dX10_weigh_66 : decode cX10_weigh 66 = .ok (.iload 4, 2) := by decide +kernel
theorem dX10_weigh_68 : decode cX10_weigh 68 = .ok (.iconst 1, 1) := by decide +kernel
theorem dX10_weigh_69 : decode cX10_weigh 69 = .ok (.iload 5, 2) := by decide +kernel
theorem dX10_weigh_71 : decode cX10_weigh 71 = .ok (.invokevirtual 25, 3) := by decide +kernel
theorem dX10_weigh_74 : decode cX10_weigh 74 = .ok (.invokestatic 29, 3) := by decide +kernel
theorem dX10_weigh_77 : decode cX10_weigh 77 = .ok (.istore 6, 2) := by decide +kernel
theorem dX10_weigh_79 : decode cX10_weigh 79 = .ok (.aload_n 0, 1) := by decide +kernel
theorem dX10_weigh_80 : decode cX10_weigh 80 = .ok (.getfield 9, 3) := by decide +kernel
theorem dX10_weigh_83 : decode cX10_weigh 83 = .ok (.iload 4, 2) := by decide +kernel
theorem dX10_weigh_85 : decode cX10_weigh 85 = .ok (.bipush 32, 2) := by decide +kernel
theorem dX10_weigh_87 : decode cX10_weigh 87 = .ok (.imul, 1) := by decide +kernel
theorem dX10_weigh_88 : decode cX10_weigh 88 = .ok (.iload 5, 2) := by decide +kernel
theorem dX10_weigh_90 : decode cX10_weigh 90 = .ok (.iadd, 1) := by decide +kernel
theorem dX10_weigh_91 : decode cX10_weigh 91 = .ok (.iload 6, 2) := by decide +kernel
theorem dX10_weigh_93 : decode cX10_weigh 93 = .ok (.iastore, 1) := by decide +kernel
theorem dX10_weigh_94 : decode cX10_weigh 94 = .ok (.iinc 5 1, 3) := by decide +kernel
theorem dX10_weigh_97 : decode cX10_weigh 97 = .ok (.goto (-80), 3) := by decide +kernel
theorem dX10_weigh_100 : decode cX10_weigh 100 = .ok (.iinc 4 (-1), 3) := by decide +kernel
theorem dX10_weigh_103 : decode cX10_weigh 103 = .ok (.goto (-94), 3) := by decide +kernel
theorem dX10_weigh_106 : decode cX10_weigh 106 = .ok (.return_, 1) := by decide +kernel
theorem dX10_fewestFor_0 : decode cX10_fewestFor 0 = .ok (.iload_n 1, 1) := by decide +kernel
theorem dX10_fewestFor_1 : decode cX10_fewestFor 1 = .ok (.bipush 32, 2) := by decide +kernel
theorem dX10_fewestFor_3 : decode cX10_fewestFor 3 = .ok (.imul, 1) := by decide +kernel
theorem dX10_fewestFor_4 : decode cX10_fewestFor 4 = .ok (.iload_n 2, 1) := by decide +kernel
theorem dX10_fewestFor_5 : decode cX10_fewestFor 5 = .ok (.iadd, 1) := by decide +kernel
theorem dX10_fewestFor_6 : decode cX10_fewestFor 6 = .ok (.istore_n 3, 1) := by decide +kernel
theorem dX10_fewestFor_7 : decode cX10_fewestFor 7 = .ok (.iload_n 3, 1) := by decide +kernel
theorem dX10_fewestFor_8 : decode cX10_fewestFor 8 = .ok (.ifCond .lt 21, 3) := by decide +kernel
theorem dX10_fewestFor_11 : decode cX10_fewestFor 11 = .ok (.iload_n 3, 1) := by decide +kernel
theorem dX10_fewestFor_12 : decode cX10_fewestFor 12 = .ok (.aload_n 0, 1) := by decide +kernel
theorem dX10_fewestFor_13 : decode cX10_fewestFor 13 = .ok (.getfield 9, 3) := by decide +kernel
theorem dX10_fewestFor_16 : decode cX10_fewestFor 16 = .ok (.arraylength, 1) := by decide +kernel
theorem dX10_fewestFor_17 : decode cX10_fewestFor 17 = .ok (.if_icmp .ge 12, 3) := by decide +kernel
theorem dX10_fewestFor_20 : decode cX10_fewestFor 20 = .ok (.aload_n 0, 1) := by decide +kernel
theorem dX10_fewestFor_21 : decode cX10_fewestFor 21 = .ok (.getfield 9, 3) := by decide +kernel
theorem dX10_fewestFor_24 : decode cX10_fewestFor 24 = .ok (.iload_n 3, 1) := by decide +kernel
theorem dX10_fewestFor_25 : decode cX10_fewestFor 25 = .ok (.iaload, 1) := by decide +kernel
theorem dX10_fewestFor_26 : decode cX10_fewestFor 26 = .ok (.goto 5, 3) := by decide +kernel
theorem dX10_fewestFor_29 : decode cX10_fewestFor 29 = .ok (.bipush 99, 2) := by decide +kernel
theorem dX10_fewestFor_31 : decode cX10_fewestFor 31 = .ok (.ireturn, 1) := by decide +kernel
theorem dX10_neededBy_0 : decode cX10_neededBy 0 = .ok (.aload_n 1, 1) := by decide +kernel
theorem dX10_neededBy_1 : decode cX10_neededBy 1 = .ok (.iload_n 2, 1) := by decide +kernel
theorem dX10_neededBy_2 : decode cX10_neededBy 2 = .ok (.iload_n 3, 1) := by decide +kernel
theorem dX10_neededBy_3 : decode cX10_neededBy 3 = .ok (.iload 4, 2) := by decide +kernel
theorem dX10_neededBy_5 : decode cX10_neededBy 5 = .ok (.invokevirtual 35, 3) := by decide +kernel
theorem dX10_neededBy_8 : decode cX10_neededBy 8 = .ok (.istore 5, 2) := by decide +kernel
theorem dX10_neededBy_10 : decode cX10_neededBy 10 = .ok (.iload 5, 2) := by decide +kernel
theorem dX10_neededBy_12 : decode cX10_neededBy 12 = .ok (.invokestatic 19, 3) := by decide +kernel
theorem dX10_neededBy_15 : decode cX10_neededBy 15 = .ok (.iload 4, 2) := by decide +kernel
theorem dX10_neededBy_17 : decode cX10_neededBy 17 = .ok (.invokestatic 19, 3) := by decide +kernel
theorem dX10_neededBy_20 : decode cX10_neededBy 20 = .ok (.if_icmp .ge 6, 3) := by decide +kernel
theorem dX10_neededBy_23 : decode cX10_neededBy 23 = .ok (.bipush 99, 2) := by decide +kernel
theorem dX10_neededBy_25 : decode cX10_neededBy 25 = .ok (.ireturn, 1) := by decide +kernel
theorem dX10_neededBy_26 : decode cX10_neededBy 26 = .ok (.aload_n 0, 1) := by decide +kernel
theorem dX10_neededBy_27 : decode cX10_neededBy 27 = .ok (.iload_n 2, 1) := by decide +kernel
theorem dX10_neededBy_28 : decode cX10_neededBy 28 = .ok (.iconst 1, 1) := by decide +kernel
theorem dX10_neededBy_29 : decode cX10_neededBy 29 = .ok (.iadd, 1) := by decide +kernel
theorem dX10_neededBy_30 : decode cX10_neededBy 30 = .ok (.iload 5, 2) := by decide +kernel
theorem dX10_neededBy_32 : decode cX10_neededBy 32 = .ok (.aload_n 0, 1) := by decide +kernel
theorem dX10_neededBy_33 : decode cX10_neededBy 33 = .ok (.getfield 15, 3) := by decide +kernel
theorem dX10_neededBy_36 : decode cX10_neededBy 36 = .ok (.iand, 1) := by decide +kernel
theorem dX10_neededBy_37 : decode cX10_neededBy 37 = .ok (.invokevirtual 41, 3) := by decide +kernel
theorem dX10_neededBy_40 : decode cX10_neededBy 40 = .ok (.aload_n 0, 1) := by decide +kernel
theorem dX10_neededBy_41 : decode cX10_neededBy 41 = .ok (.iload_n 2, 1) := by decide +kernel
theorem dX10_neededBy_42 : decode cX10_neededBy 42 = .ok (.iconst 1, 1) := by decide +kernel
theorem dX10_neededBy_43 : decode cX10_neededBy 43 = .ok (.iadd, 1) := by decide +kernel
theorem dX10_neededBy_44 : decode cX10_neededBy 44 = .ok (.iload 5, 2) := by decide +kernel
theorem dX10_neededBy_46 : decode cX10_neededBy 46 = .ok (.aload_n 0, 1) := by decide +kernel
theorem dX10_neededBy_47 : decode cX10_neededBy 47 = .ok (.getfield 15, 3) := by decide +kernel
theorem dX10_neededBy_50 : decode cX10_neededBy 50 = .ok (.iconst (-1), 1) := by decide +kernel
theorem dX10_neededBy_51 : decode cX10_neededBy 51 = .ok (.ixor, 1) := by decide +kernel
theorem dX10_neededBy_52 : decode cX10_neededBy 52 = .ok (.iand, 1) := by decide +kernel
theorem dX10_neededBy_53 : decode cX10_neededBy 53 = .ok (.invokevirtual 41, 3) := by decide +kernel
theorem dX10_neededBy_56 : decode cX10_neededBy 56 = .ok (.invokestatic 44, 3) := by decide +kernel
theorem dX10_neededBy_59 : decode cX10_neededBy 59 = .ok (.istore 6, 2) := by decide +kernel
theorem dX10_neededBy_61 : decode cX10_neededBy 61 = .ok (.iload 6, 2) := by decide +kernel
theorem dX10_neededBy_63 : decode cX10_neededBy 63 = .ok (.bipush 99, 2) := by decide +kernel
theorem dX10_neededBy_65 : decode cX10_neededBy 65 = .ok (.if_icmp .ne 8, 3) := by decide +kernel
theorem dX10_neededBy_68 : decode cX10_neededBy 68 = .ok (.bipush 99, 2) := by decide +kernel
theorem dX10_neededBy_70 : decode cX10_neededBy 70 = .ok (.goto 7, 3) := by decide +kernel
theorem dX10_neededBy_73 : decode cX10_neededBy 73 = .ok (.iload 6, 2) := by decide +kernel
theorem dX10_neededBy_75 : decode cX10_neededBy 75 = .ok (.iconst 1, 1) := by decide +kernel
theorem dX10_neededBy_76 : decode cX10_neededBy 76 = .ok (.iadd, 1) := by decide +kernel
theorem dX10_neededBy_77 : decode cX10_neededBy 77 = .ok (.ireturn, 1) := by decide +kernel
theorem dX10_firstWhistle_0 : decode cX10_firstWhistle 0 = .ok (.iload_n 2, 1) := by decide +kernel
theorem dX10_firstWhistle_1 : decode cX10_firstWhistle 1 = .ok (.invokestatic 19, 3) := by decide +kernel
theorem dX10_firstWhistle_4 : decode cX10_firstWhistle 4 = .ok (.iconst 1, 1) := by decide +kernel
theorem dX10_firstWhistle_5 : decode cX10_firstWhistle 5 = .ok (.if_icmp .gt 5, 3) := by decide +kernel
theorem dX10_firstWhistle_8 : decode cX10_firstWhistle 8 = .ok (.iconst (-1), 1) := by decide +kernel
theorem dX10_firstWhistle_9 : decode cX10_firstWhistle 9 = .ok (.ireturn, 1) := by decide +kernel
theorem dX10_firstWhistle_10 : decode cX10_firstWhistle 10 = .ok (.aload_n 0, 1) := by decide +kernel
theorem dX10_firstWhistle_11 : decode cX10_firstWhistle 11 = .ok (.iconst 0, 1) := by decide +kernel
theorem dX10_firstWhistle_12 : decode cX10_firstWhistle 12 = .ok (.iload_n 2, 1) := by decide +kernel
theorem dX10_firstWhistle_13 : decode cX10_firstWhistle 13 = .ok (.invokevirtual 41, 3) := by decide +kernel
theorem dX10_firstWhistle_16 : decode cX10_firstWhistle 16 = .ok (.bipush 99, 2) := by decide +kernel
theorem dX10_firstWhistle_18 : decode cX10_firstWhistle 18 = .ok (.if_icmp .ne 6, 3) := by decide +kernel
theorem dX10_firstWhistle_21 : decode cX10_firstWhistle 21 = .ok (.bipush (-5), 2) := by decide +kernel
theorem dX10_firstWhistle_23 : decode cX10_firstWhistle 23 = .ok (.ireturn, 1) := by decide +kernel
theorem dX10_firstWhistle_24 : decode cX10_firstWhistle 24 = .ok (.aload_n 0, 1) := by decide +kernel
theorem dX10_firstWhistle_25 : decode cX10_firstWhistle 25 = .ok (.aload_n 1, 1) := by decide +kernel
theorem dX10_firstWhistle_26 : decode cX10_firstWhistle 26 = .ok (.iconst 0, 1) := by decide +kernel
theorem dX10_firstWhistle_27 : decode cX10_firstWhistle 27 = .ok (.iconst 0, 1) := by decide +kernel
theorem dX10_firstWhistle_28 : decode cX10_firstWhistle 28 = .ok (.iload_n 2, 1) := by decide +kernel
theorem dX10_firstWhistle_29 : decode cX10_firstWhistle 29 = .ok (.invokevirtual 25, 3) := by decide +kernel
theorem dX10_firstWhistle_32 : decode cX10_firstWhistle 32 = .ok (.aload_n 0, 1) := by decide +kernel
theorem dX10_firstWhistle_33 : decode cX10_firstWhistle 33 = .ok (.aload_n 1, 1) := by decide +kernel
theorem dX10_firstWhistle_34 : decode cX10_firstWhistle 34 = .ok (.iconst 0, 1) := by decide +kernel
theorem dX10_firstWhistle_35 : decode cX10_firstWhistle 35 = .ok (.iconst 1, 1) := by decide +kernel
theorem dX10_firstWhistle_36 : decode cX10_firstWhistle 36 = .ok (.iload_n 2, 1) := by decide +kernel
theorem dX10_firstWhistle_37 : decode cX10_firstWhistle 37 = .ok (.invokevirtual 25, 3) := by decide +kernel
theorem dX10_firstWhistle_40 : decode cX10_firstWhistle 40 = .ok (.if_icmp .gt 7, 3) := by decide +kernel
theorem dX10_firstWhistle_43 : decode cX10_firstWhistle 43 = .ok (.iconst 0, 1) := by decide +kernel
theorem dX10_firstWhistle_44 : decode cX10_firstWhistle 44 = .ok (.goto 4, 3) := by decide +kernel
theorem dX10_firstWhistle_47 : decode cX10_firstWhistle 47 = .ok (.iconst 1, 1) := by decide +kernel
theorem dX10_firstWhistle_48 : decode cX10_firstWhistle 48 = .ok (.ireturn, 1) := by decide +kernel
theorem dX11_init_0 : decode cX11_init 0 = .ok (.aload_n 0, 1) := by decide +kernel
theorem dX11_init_1 : decode cX11_init 1 = .ok (.invokespecial 3, 3) := by decide +kernel
theorem dX11_init_4 : decode cX11_init 4 = .ok (.aload_n 0, 1) := by decide +kernel
theorem dX11_init_5 : decode cX11_init 5 = .ok (.new 9, 3) := by decide +kernel
theorem dX11_init_8 : decode cX11_init 8 = .ok (.dup, 1) := by decide +kernel
theorem dX11_init_9 : decode cX11_init 9 = .ok (.invokespecial 11, 3) := by decide +kernel
theorem dX11_init_12 : decode cX11_init 12 = .ok (.putfield 12, 3) := by decide +kernel
theorem dX11_init_15 : decode cX11_init 15 = .ok (.aload_n 0, 1) := by decide +kernel
theorem dX11_init_16 : decode cX11_init 16 = .ok (.iconst 2, 1) := by decide +kernel
theorem dX11_init_17 : decode cX11_init 17 = .ok (.anewarray 9, 3) := by decide +kernel
theorem dX11_init_20 : decode cX11_init 20 = .ok (.putfield 16, 3) := by decide +kernel
theorem dX11_init_23 : decode cX11_init 23 = .ok (.aload_n 0, 1) := by decide +kernel
theorem dX11_init_24 : decode cX11_init 24 = .ok (.sipush 200, 3) := by decide +kernel
theorem dX11_init_27 : decode cX11_init 27 = .ok (.newarray .byte, 2) := by decide +kernel
theorem dX11_init_29 : decode cX11_init 29 = .ok (.putfield 20, 3) := by decide +kernel
theorem dX11_init_32 : decode cX11_init 32 = .ok (.aload_n 0, 1) := by decide +kernel
theorem dX11_init_33 : decode cX11_init 33 = .ok (.iconst 0, 1) := by decide +kernel
theorem dX11_init_34 : decode cX11_init 34 = .ok (.putfield 24, 3) := by decide +kernel
theorem dX11_init_37 : decode cX11_init 37 = .ok (.aload_n 0, 1) := by decide +kernel
theorem dX11_init_38 : decode cX11_init 38 = .ok (.lconst 0, 1) := by decide +kernel
theorem dX11_init_39 : decode cX11_init 39 = .ok (.putfield 28, 3) := by decide +kernel
theorem dX11_init_42 : decode cX11_init 42 = .ok (.aload_n 0, 1) := by decide +kernel
theorem dX11_init_43 : decode cX11_init 43 = .ok (.lconst 1, 1) := by decide +kernel
theorem dX11_init_44 : decode cX11_init 44 = .ok (.putfield 32, 3) := by decide +kernel
theorem dX11_init_47 : decode cX11_init 47 = .ok (.aload_n 0, 1) := by decide +kernel
theorem dX11_init_48 : decode cX11_init 48 = .ok (.iconst 0, 1) := by decide +kernel
theorem dX11_init_49 : decode cX11_init 49 = .ok (.putfield 35, 3) := by decide +kernel
theorem dX11_init_52 : decode cX11_init 52 = .ok (.aload_n 0, 1) := by decide +kernel
theorem dX11_init_53 : decode cX11_init 53 = .ok (.iconst 0, 1) := by decide +kernel
theorem dX11_init_54 : decode cX11_init 54 = .ok (.putfield 38, 3) := by decide +kernel
theorem dX11_init_57 : decode cX11_init 57 = .ok (.aload_n 0, 1) := by decide +kernel
theorem dX11_init_58 : decode cX11_init 58 = .ok (.iconst 0, 1) := by decide +kernel
theorem dX11_init_59 : decode cX11_init 59 = .ok (.putfield 41, 3) := by decide +kernel
theorem dX11_init_62 : decode cX11_init 62 = .ok (.aload_n 0, 1) := by decide +kernel
theorem dX11_init_63 : decode cX11_init 63 = .ok (.new 44, 3) := by decide +kernel
theorem dX11_init_66 : decode cX11_init 66 = .ok (.dup, 1) := by decide +kernel
theorem dX11_init_67 : decode cX11_init 67 = .ok (.invokespecial 46, 3) := by decide +kernel
theorem dX11_init_70 : decode cX11_init 70 = .ok (.putfield 47, 3) := by decide +kernel
theorem dX11_init_73 : decode cX11_init 73 = .ok (.aload_n 0, 1) := by decide +kernel
theorem dX11_init_74 : decode cX11_init 74 = .ok (.new 51, 3) := by decide +kernel
theorem dX11_init_77 : decode cX11_init 77 = .ok (.dup, 1) := by decide +kernel
theorem dX11_init_78 : decode cX11_init 78 = .ok (.invokespecial 53, 3) := by decide +kernel
theorem dX11_init_81 : decode cX11_init 81 = .ok (.putfield 54, 3) := by decide +kernel
theorem dX11_init_84 : decode cX11_init 84 = .ok (.aload_n 0, 1) := by decide +kernel
theorem dX11_init_85 : decode cX11_init 85 = .ok (.new 58, 3) := by decide +kernel
theorem dX11_init_88 : decode cX11_init 88 = .ok (.dup, 1) := by decide +kernel
theorem dX11_init_89 : decode cX11_init 89 = .ok (.invokespecial 60, 3) := by decide +kernel
theorem dX11_init_92 : decode cX11_init 92 = .ok (.putfield 61, 3) := by decide +kernel
theorem dX11_init_95 : decode cX11_init 95 = .ok (.aload_n 0, 1) := by decide +kernel
theorem dX11_init_96 : decode cX11_init 96 = .ok (.iconst 5, 1) := by decide +kernel
theorem dX11_init_97 : decode cX11_init 97 = .ok (.newarray .long, 2) := by decide +kernel
theorem dX11_init_99 : decode cX11_init 99 = .ok (.putfield 65, 3) := by decide +kernel
theorem dX11_init_102 : decode cX11_init 102 = .ok (.aload_n 0, 1) := by decide +kernel
theorem dX11_init_103 : decode cX11_init 103 = .ok (.iconst 5, 1) := by decide +kernel
theorem dX11_init_104 : decode cX11_init 104 = .ok (.newarray .long, 2) := by decide +kernel
theorem dX11_init_106 : decode cX11_init 106 = .ok (.putfield 69, 3) := by decide +kernel
theorem dX11_init_109 : decode cX11_init 109 = .ok (.return_, 1) := by decide +kernel
theorem dX11_places_0 : decode cX11_places 0 = .ok (.iload_n 1, 1) := by decide +kernel
theorem dX11_places_1 : decode cX11_places 1 = .ok (.iconst 2, 1) := by decide +kernel
theorem dX11_places_2 : decode cX11_places 2 = .ok (.if_icmp .lt 8, 3) := by decide +kernel
theorem dX11_places_5 : decode cX11_places 5 = .ok (.iload_n 1, 1) := by decide +kernel
theorem dX11_places_6 : decode cX11_places 6 = .ok (.iconst 5, 1) := by decide +kernel
theorem dX11_places_7 : decode cX11_places 7 = .ok (.if_icmp .le 10, 3) := by decide +kernel
theorem dX11_places_10 : decode cX11_places 10 = .ok (.aload_n 0, 1) := by decide +kernel
theorem dX11_places_11 : decode cX11_places 11 = .ok (.bipush (-2), 2) := by decide +kernel
theorem dX11_places_13 : decode cX11_places 13 = .ok (.invokevirtual 72, 3) := by decide +kernel
theorem dX11_places_16 : decode cX11_places 16 = .ok (.ireturn, 1) := by decide +kernel
theorem dX11_places_17 : decode cX11_places 17 = .ok (.aload_n 0, 1) := by decide +kernel
theorem dX11_places_18 : decode cX11_places 18 = .ok (.getfield 12, 3) := by decide +kernel
theorem dX11_places_21 : decode cX11_places 21 = .ok (.getfield 76, 3) := by decide +kernel
theorem dX11_places_24 : decode cX11_places 24 = .ok (.istore_n 2, 1) := by decide +kernel
theorem dX11_places_25 : decode cX11_places 25 = .ok (.aload_n 0, 1) := by decide +kernel
theorem dX11_places_26 : decode cX11_places 26 = .ok (.getfield 12, 3) := by decide +kernel
theorem dX11_places_29 : decode cX11_places 29 = .ok (.iload_n 1, 1) := by decide +kernel
theorem dX11_places_30 : decode cX11_places 30 = .ok (.invokevirtual 79, 3) := by decide +kernel
theorem dX11_places_33 : decode cX11_places 33 = .ok (.iload_n 2, 1) := by decide +kernel
theorem dX11_places_34 : decode cX11_places 34 = .ok (.ireturn, 1) := by decide +kernel
theorem dX11_dog_0 : decode cX11_dog 0 = .ok (.iload_n 1, 1) := by decide +kernel
theorem dX11_dog_1 : decode cX11_dog 1 = .ok (.invokestatic 83, 3) := by decide +kernel
theorem dX11_dog_4 : decode cX11_dog 4 = .ok (.ifCond .eq 25, 3) := by decide +kernel
theorem dX11_dog_7 : decode cX11_dog 7 = .ok (.aload_n 0, 1) := by decide +kernel
theorem dX11_dog_8 : decode cX11_dog 8 = .ok (.getfield 12, 3) := by decide +kernel
theorem dX11_dog_11 : decode cX11_dog 11 = .ok (.iload_n 2, 1) := by decide +kernel
theorem dX11_dog_12 : decode cX11_dog 12 = .ok (.invokevirtual 87, 3) := by decide +kernel
theorem dX11_dog_15 : decode cX11_dog 15 = .ok (.ifCond .eq 14, 3) := by decide +kernel
theorem dX11_dog_18 : decode cX11_dog 18 = .ok (.aload_n 0, 1) := by decide +kernel
theorem dX11_dog_19 : decode cX11_dog 19 = .ok (.getfield 12, 3) := by decide +kernel
theorem dX11_dog_22 : decode cX11_dog 22 = .ok (.iload_n 3, 1) := by decide +kernel
theorem dX11_dog_23 : decode cX11_dog 23 = .ok (.invokevirtual 87, 3) := by decide +kernel
theorem dX11_dog_26 : decode cX11_dog 26 = .ok (.ifCond .ne 10, 3) := by decide +kernel
theorem dX11_dog_29 : decode cX11_dog 29 = .ok (.aload_n 0, 1) := by decide +kernel
theorem dX11_dog_30 : decode cX11_dog 30 = .ok (.bipush (-2), 2) := by decide +kernel
theorem dX11_dog_32 : decode cX11_dog 32 = .ok (.invokevirtual 72, 3) := by decide +kernel
theorem dX11_dog_35 : decode cX11_dog 35 = .ok (.ireturn, 1) := by decide +kernel
theorem dX11_dog_36 : decode cX11_dog 36 = .ok (.aload_n 0, 1) := by decide +kernel
theorem dX11_dog_37 : decode cX11_dog 37 = .ok (.getfield 12, 3) := by decide +kernel
theorem dX11_dog_40 : decode cX11_dog 40 = .ok (.invokevirtual 90, 3) := by decide +kernel
theorem dX11_dog_43 : decode cX11_dog 43 = .ok (.ifCond .eq 8, 3) := by decide +kernel
theorem dX11_dog_46 : decode cX11_dog 46 = .ok (.aload_n 0, 1) := by decide +kernel
theorem dX11_dog_47 : decode cX11_dog 47 = .ok (.invokevirtual 94, 3) := by decide +kernel
theorem dX11_dog_50 : decode cX11_dog 50 = .ok (.ireturn, 1) := by decide +kernel
theorem dX11_dog_51 : decode cX11_dog 51 = .ok (.aload_n 0, 1) := by decide +kernel
theorem dX11_dog_52 : decode cX11_dog 52 = .ok (.getfield 12, 3) := by decide +kernel
theorem dX11_dog_55 : decode cX11_dog 55 = .ok (.iload_n 1, 1) := by decide +kernel
theorem dX11_dog_56 : decode cX11_dog 56 = .ok (.iload_n 2, 1) := by decide +kernel
theorem dX11_dog_57 : decode cX11_dog 57 = .ok (.iload_n 3, 1) := by decide +kernel
theorem dX11_dog_58 : decode cX11_dog 58 = .ok (.invokestatic 98, 3) := by decide +kernel
theorem dX11_dog_61 : decode cX11_dog 61 = .ok (.invokevirtual 102, 3) := by decide +kernel
theorem dX11_dog_64 : decode cX11_dog 64 = .ok (.ireturn, 1) := by decide +kernel
theorem dX11_pup_0 : decode cX11_pup 0 = .ok (.iload_n 1, 1) := by decide +kernel
theorem dX11_pup_1 : decode cX11_pup 1 = .ok (.invokestatic 106, 3) := by decide +kernel
theorem dX11_pup_4 : decode cX11_pup 4 = .ok (.ifCond .eq 15, 3) := by decide +kernel
theorem dX11_pup_7 : decode cX11_pup 7 = .ok (.iload 6, 2) := by decide +kernel
theorem dX11_pup_9 : decode cX11_pup 9 = .ok (.iconst 1, 1) := by decide +kernel
theorem dX11_pup_10 : decode cX11_pup 10 = .ok (.if_icmp .lt 9, 3) := by decide +kernel
theorem dX11_pup_13 : decode cX11_pup 13 = .ok (.iload 6, 2) := by decide +kernel
theorem dX11_pup_15 : decode cX11_pup 15 = .ok (.iconst 3, 1) := by decide +kernel
theorem dX11_pup_16 : decode cX11_pup 16 = .ok (.if_icmp .le 10, 3) := by decide +kernel
theorem dX11_pup_19 : decode cX11_pup 19 = .ok (.aload_n 0, 1) := by decide +kernel
theorem dX11_pup_20 : decode cX11_pup 20 = .ok (.bipush (-2), 2) := by decide +kernel
theorem dX11_pup_22 : decode cX11_pup 22 = .ok (.invokevirtual 72, 3) := by decide +kernel
theorem dX11_pup_25 : decode cX11_pup 25 = .ok (.ireturn, 1) := by decide +kernel
theorem dX11_pup_26 : decode cX11_pup 26 = .ok (.aload_n 0, 1) := by decide +kernel
theorem dX11_pup_27 : decode cX11_pup 27 = .ok (.getfield 12, 3) := by decide +kernel
theorem dX11_pup_30 : decode cX11_pup 30 = .ok (.iload_n 2, 1) := by decide +kernel
theorem dX11_pup_31 : decode cX11_pup 31 = .ok (.invokevirtual 87, 3) := by decide +kernel
theorem dX11_pup_34 : decode cX11_pup 34 = .ok (.ifCond .eq 38, 3) := by decide +kernel
theorem dX11_pup_37 : decode cX11_pup 37 = .ok (.aload_n 0, 1) := by decide +kernel
theorem dX11_pup_38 : decode cX11_pup 38 = .ok (.getfield 12, 3) := by decide +kernel
theorem dX11_pup_41 : decode cX11_pup 41 = .ok (.iload_n 3, 1) := by decide +kernel
theorem dX11_pup_42 : decode cX11_pup 42 = .ok (.invokevirtual 87, 3) := by decide +kernel
theorem dX11_pup_45 : decode cX11_pup 45 = .ok (.ifCond .eq 27, 3) := by decide +kernel
theorem dX11_pup_48 : decode cX11_pup 48 = .ok (.aload_n 0, 1) := by decide +kernel
theorem dX11_pup_49 : decode cX11_pup 49 = .ok (.getfield 12, 3) := by decide +kernel
theorem dX11_pup_52 : decode cX11_pup 52 = .ok (.iload 4, 2) := by decide +kernel
theorem dX11_pup_54 : decode cX11_pup 54 = .ok (.invokevirtual 87, 3) := by decide +kernel
theorem dX11_pup_57 : decode cX11_pup 57 = .ok (.ifCond .eq 15, 3) := by decide +kernel
theorem dX11_pup_60 : decode cX11_pup 60 = .ok (.aload_n 0, 1) := by decide +kernel
theorem dX11_pup_61 : decode cX11_pup 61 = .ok (.getfield 12, 3) := by decide +kernel
theorem dX11_pup_64 : decode cX11_pup 64 = .ok (.iload 5, 2) := by decide +kernel
theorem dX11_pup_66 : decode cX11_pup 66 = .ok (.invokevirtual 87, 3) := by decide +kernel
theorem dX11_pup_69 : decode cX11_pup 69 = .ok (.ifCond .ne 10, 3) := by decide +kernel
theorem dX11_pup_72 : decode cX11_pup 72 = .ok (.aload_n 0, 1) := by decide +kernel
theorem dX11_pup_73 : decode cX11_pup 73 = .ok (.bipush (-2), 2) := by decide +kernel
theorem dX11_pup_75 : decode cX11_pup 75 = .ok (.invokevirtual 72, 3) := by decide +kernel
theorem dX11_pup_78 : decode cX11_pup 78 = .ok (.ireturn, 1) := by decide +kernel
theorem dX11_pup_79 : decode cX11_pup 79 = .ok (.aload_n 0, 1) := by decide +kernel
theorem dX11_pup_80 : decode cX11_pup 80 = .ok (.getfield 12, 3) := by decide +kernel
theorem dX11_pup_83 : decode cX11_pup 83 = .ok (.invokevirtual 90, 3) := by decide +kernel
theorem dX11_pup_86 : decode cX11_pup 86 = .ok (.ifCond .eq 8, 3) := by decide +kernel
theorem dX11_pup_89 : decode cX11_pup 89 = .ok (.aload_n 0, 1) := by decide +kernel
theorem dX11_pup_90 : decode cX11_pup 90 = .ok (.invokevirtual 94, 3) := by decide +kernel
theorem dX11_pup_93 : decode cX11_pup 93 = .ok (.ireturn, 1) := by decide +kernel
theorem dX11_pup_94 : decode cX11_pup 94 = .ok (.aload_n 0, 1) := by decide +kernel
theorem dX11_pup_95 : decode cX11_pup 95 = .ok (.getfield 12, 3) := by decide +kernel
theorem dX11_pup_98 : decode cX11_pup 98 = .ok (.iload_n 1, 1) := by decide +kernel
theorem dX11_pup_99 : decode cX11_pup 99 = .ok (.iload_n 2, 1) := by decide +kernel
theorem dX11_pup_100 : decode cX11_pup 100 = .ok (.iload_n 3, 1) := by decide +kernel
theorem dX11_pup_101 : decode cX11_pup 101 = .ok (.iload 4, 2) := by decide +kernel
theorem dX11_pup_103 : decode cX11_pup 103 = .ok (.iload 5, 2) := by decide +kernel
theorem dX11_pup_105 : decode cX11_pup 105 = .ok (.iload 6, 2) := by decide +kernel
theorem dX11_pup_107 : decode cX11_pup 107 = .ok (.invokestatic 109, 3) := by decide +kernel
theorem dX11_pup_110 : decode cX11_pup 110 = .ok (.invokevirtual 102, 3) := by decide +kernel
theorem dX11_pup_113 : decode cX11_pup 113 = .ok (.ireturn, 1) := by decide +kernel
theorem dX11_shut_0 : decode cX11_shut 0 = .ok (.aload_n 0, 1) := by decide +kernel
theorem dX11_shut_1 : decode cX11_shut 1 = .ok (.getfield 12, 3) := by decide +kernel
theorem dX11_shut_4 : decode cX11_shut 4 = .ok (.iload_n 1, 1) := by decide +kernel
theorem dX11_shut_5 : decode cX11_shut 5 = .ok (.invokevirtual 113, 3) := by decide +kernel
theorem dX11_shut_8 : decode cX11_shut 8 = .ok (.ifCond .ne 10, 3) := by decide +kernel
theorem dX11_shut_11 : decode cX11_shut 11 = .ok (.aload_n 0, 1) := by decide +kernel
theorem dX11_shut_12 : decode cX11_shut 12 = .ok (.bipush (-2), 2) := by decide +kernel
theorem dX11_shut_14 : decode cX11_shut 14 = .ok (.invokevirtual 72, 3) := by decide +kernel
theorem dX11_shut_17 : decode cX11_shut 17 = .ok (.ireturn, 1) := by decide +kernel
theorem dX11_shut_18 : decode cX11_shut 18 = .ok (.aload_n 0, 1) := by decide +kernel
theorem dX11_shut_19 : decode cX11_shut 19 = .ok (.getfield 12, 3) := by decide +kernel
theorem dX11_shut_22 : decode cX11_shut 22 = .ok (.getfield 116, 3) := by decide +kernel
theorem dX11_shut_25 : decode cX11_shut 25 = .ok (.iload_n 1, 1) := by decide +kernel
theorem dX11_shut_26 : decode cX11_shut 26 = .ok (.invokestatic 119, 3) := by decide +kernel
theorem dX11_shut_29 : decode cX11_shut 29 = .ok (.iload_n 2, 1) := by decide +kernel
theorem dX11_shut_30 : decode cX11_shut 30 = .ok (.if_icmp .ne 8, 3) := by decide +kernel
theorem dX11_shut_33 : decode cX11_shut 33 = .ok (.aload_n 0, 1) := by decide +kernel
theorem dX11_shut_34 : decode cX11_shut 34 = .ok (.invokevirtual 123, 3) := by decide +kernel
theorem dX11_shut_37 : decode cX11_shut 37 = .ok (.ireturn, 1) := by decide +kernel
theorem dX11_shut_38 : decode cX11_shut 38 = .ok (.aload_n 0, 1) := by decide +kernel
theorem dX11_shut_39 : decode cX11_shut 39 = .ok (.getfield 12, 3) := by decide +kernel
theorem dX11_shut_42 : decode cX11_shut 42 = .ok (.dup, 1) := by decide +kernel
theorem dX11_shut_43 : decode cX11_shut 43 = .ok (.getfield 116, 3) := by decide +kernel
theorem dX11_shut_46 : decode cX11_shut 46 = .ok (.iconst 1, 1) := by decide +kernel
theorem dX11_shut_47 : decode cX11_shut 47 = .ok (.iload_n 1, 1) := by decide +kernel
theorem dX11_shut_48 : decode cX11_shut 48 = .ok (.ishl, 1) := by decide +kernel
theorem dX11_shut_49 : decode cX11_shut 49 = .ok (.ixor, 1) := by decide +kernel
theorem dX11_shut_50 : decode cX11_shut 50 = .ok (.putfield 116, 3) := by decide +kernel
theorem dX11_shut_53 : decode cX11_shut 53 = .ok (.iconst 1, 1) := by decide +kernel
theorem dX11_shut_54 : decode cX11_shut 54 = .ok (.ireturn, 1) := by decide +kernel
theorem dX11_put_0 : decode cX11_put 0 = .ok (.aload_n 0, 1) := by decide +kernel
theorem dX11_put_1 : decode cX11_put 1 = .ok (.iload_n 1, 1) := by decide +kernel
theorem dX11_put_2 : decode cX11_put 2 = .ok (.iload_n 2, 1) := by decide +kernel
theorem dX11_put_3 : decode cX11_put 3 = .ok (.invokevirtual 126, 3) := by decide +kernel
theorem dX11_put_6 : decode cX11_put 6 = .ok (.ifCond .ne 10, 3) := by decide +kernel
theorem dX11_put_9 : decode cX11_put 9 = .ok (.aload_n 0, 1) := by decide +kernel
theorem dX11_put_10 : decode cX11_put 10 = .ok (.bipush (-2), 2) := by decide +kernel
theorem dX11_put_12 : decode cX11_put 12 = .ok (.invokevirtual 72, 3) := by decide +kernel
theorem dX11_put_15 : decode cX11_put 15 = .ok (.ireturn, 1) := by decide +kernel
theorem dX11_put_16 : decode cX11_put 16 = .ok (.iload_n 1, 1) := by decide +kernel
theorem dX11_put_17 : decode cX11_put 17 = .ok (.tableswitch 84 0 2 #[27, 46, 65], 27) := by decide +kernel
theorem dX11_put_44 : decode cX11_put 44 = .ok (.aload_n 0, 1) := by decide +kernel
theorem dX11_put_45 : decode cX11_put 45 = .ok (.getfield 12, 3) := by decide +kernel
theorem dX11_put_48 : decode cX11_put 48 = .ok (.getfield 129, 3) := by decide +kernel
theorem dX11_put_51 : decode cX11_put 51 = .ok (.istore_n 3, 1) := by decide +kernel
theorem dX11_put_52 : decode cX11_put 52 = .ok (.aload_n 0, 1) := by decide +kernel
theorem dX11_put_53 : decode cX11_put 53 = .ok (.getfield 12, 3) := by decide +kernel
theorem dX11_put_56 : decode cX11_put 56 = .ok (.iload_n 2, 1) := by decide +kernel
theorem dX11_put_57 : decode cX11_put 57 = .ok (.putfield 129, 3) := by decide +kernel
theorem dX11_put_60 : decode cX11_put 60 = .ok (.goto 57, 3) := by decide +kernel
theorem dX11_put_63 : decode cX11_put 63 = .ok (.aload_n 0, 1) := by decide +kernel
theorem dX11_put_64 : decode cX11_put 64 = .ok (.getfield 12, 3) := by decide +kernel
theorem dX11_put_67 : decode cX11_put 67 = .ok (.getfield 132, 3) := by decide +kernel
theorem dX11_put_70 : decode cX11_put 70 = .ok (.istore_n 3, 1) := by decide +kernel
theorem dX11_put_71 : decode cX11_put 71 = .ok (.aload_n 0, 1) := by decide +kernel
theorem dX11_put_72 : decode cX11_put 72 = .ok (.getfield 12, 3) := by decide +kernel
theorem dX11_put_75 : decode cX11_put 75 = .ok (.iload_n 2, 1) := by decide +kernel
theorem dX11_put_76 : decode cX11_put 76 = .ok (.putfield 132, 3) := by decide +kernel
theorem dX11_put_79 : decode cX11_put 79 = .ok (.goto 38, 3) := by decide +kernel
theorem dX11_put_82 : decode cX11_put 82 = .ok (.aload_n 0, 1) := by decide +kernel
theorem dX11_put_83 : decode cX11_put 83 = .ok (.getfield 12, 3) := by decide +kernel
theorem dX11_put_86 : decode cX11_put 86 = .ok (.getfield 135, 3) := by decide +kernel
theorem dX11_put_89 : decode cX11_put 89 = .ok (.istore_n 3, 1) := by decide +kernel
theorem dX11_put_90 : decode cX11_put 90 = .ok (.aload_n 0, 1) := by decide +kernel
theorem dX11_put_91 : decode cX11_put 91 = .ok (.getfield 12, 3) := by decide +kernel
theorem dX11_put_94 : decode cX11_put 94 = .ok (.iload_n 2, 1) := by decide +kernel
theorem dX11_put_95 : decode cX11_put 95 = .ok (.putfield 135, 3) := by decide +kernel
theorem dX11_put_98 : decode cX11_put 98 = .ok (.goto 19, 3) := by decide +kernel
theorem dX11_put_101 : decode cX11_put 101 = .ok (.aload_n 0, 1) := by decide +kernel
theorem dX11_put_102 : decode cX11_put 102 = .ok (.getfield 12, 3) := by decide +kernel
theorem dX11_put_105 : decode cX11_put 105 = .ok (.getfield 138, 3) := by decide +kernel
theorem dX11_put_108 : decode cX11_put 108 = .ok (.istore_n 3, 1) := by decide +kernel
theorem dX11_put_109 : decode cX11_put 109 = .ok (.aload_n 0, 1) := by decide +kernel
theorem dX11_put_110 : decode cX11_put 110 = .ok (.getfield 12, 3) := by decide +kernel
theorem dX11_put_113 : decode cX11_put 113 = .ok (.iload_n 2, 1) := by decide +kernel
theorem dX11_put_114 : decode cX11_put 114 = .ok (.putfield 138, 3) := by decide +kernel
theorem dX11_put_117 : decode cX11_put 117 = .ok (.iload_n 3, 1) := by decide +kernel
theorem dX11_put_118 : decode cX11_put 118 = .ok (.ireturn, 1) := by decide +kernel
theorem dX11_type_0 : decode cX11_type 0 = .ok (.iload_n 3, 1) := by decide +kernel
theorem dX11_type_1 : decode cX11_type 1 = .ok (.iconst 1, 1) := by decide +kernel
theorem dX11_type_2 : decode cX11_type 2 = .ok (.if_icmp .lt 9, 3) := by decide +kernel
theorem dX11_type_5 : decode cX11_type 5 = .ok (.iload_n 3, 1) := by decide +kernel
theorem dX11_type_6 : decode cX11_type 6 = .ok (.bipush 8, 2) := by decide +kernel
theorem dX11_type_8 : decode cX11_type 8 = .ok (.if_icmp .le 10, 3) := by decide +kernel
theorem dX11_type_11 : decode cX11_type 11 = .ok (.aload_n 0, 1) := by decide +kernel
theorem dX11_type_12 : decode cX11_type 12 = .ok (.bipush (-2), 2) := by decide +kernel
theorem dX11_type_14 : decode cX11_type 14 = .ok (.invokevirtual 72, 3) := by decide +kernel
theorem dX11_type_17 : decode cX11_type 17 = .ok (.ireturn, 1) := by decide +kernel
theorem dX11_type_18 : decode cX11_type 18 = .ok (.aload_n 0, 1) := by decide +kernel
theorem dX11_type_19 : decode cX11_type 19 = .ok (.getfield 24, 3) := by decide +kernel
theorem dX11_type_22 : decode cX11_type 22 = .ok (.iload_n 3, 1) := by decide +kernel
theorem dX11_type_23 : decode cX11_type 23 = .ok (.iadd, 1) := by decide +kernel
theorem dX11_type_24 : decode cX11_type 24 = .ok (.sipush 200, 3) := by decide +kernel
theorem dX11_type_27 : decode cX11_type 27 = .ok (.if_icmp .le 8, 3) := by decide +kernel
theorem dX11_type_30 : decode cX11_type 30 = .ok (.aload_n 0, 1) := by decide +kernel
theorem dX11_type_31 : decode cX11_type 31 = .ok (.invokevirtual 94, 3) := by decide +kernel
theorem dX11_type_34 : decode cX11_type 34 = .ok (.ireturn, 1) := by decide +kernel
theorem dX11_type_35 : decode cX11_type 35 = .ok (.iload_n 3, 1) := by decide +kernel
theorem dX11_type_36 : decode cX11_type 36 = .ok (.iconst 1, 1) := by decide +kernel
theorem dX11_type_37 : decode cX11_type 37 = .ok (.isub, 1) := by decide +kernel
theorem dX11_type_38 : decode cX11_type 38 = .ok (.istore 4, 2) := by decide +kernel
theorem dX11_type_40 : decode cX11_type 40 = .ok (.iload 4, 2) := by decide +kernel
theorem dX11_type_42 : decode cX11_type 42 = .ok (.ifCond .lt 37, 3) := by decide +kernel
theorem dX11_type_45 : decode cX11_type 45 = .ok (.aload_n 0, 1) := by decide +kernel
theorem dX11_type_46 : decode cX11_type 46 = .ok (.getfield 20, 3) := by decide +kernel
theorem dX11_type_49 : decode cX11_type 49 = .ok (.aload_n 0, 1) := by decide +kernel
theorem dX11_type_50 : decode cX11_type 50 = .ok (.getfield 24, 3) := by decide +kernel
theorem dX11_type_53 : decode cX11_type 53 = .ok (.lload_n 1, 1) := by decide +kernel
theorem dX11_type_54 : decode cX11_type 54 = .ok (.bipush 8, 2) := by decide +kernel
theorem dX11_type_56 : decode cX11_type 56 = .ok (.iload 4, 2) := by decide +kernel
theorem dX11_type_58 : decode cX11_type 58 = .ok (.imul, 1) := by decide +kernel
theorem dX11_type_59 : decode cX11_type 59 = .ok (.lushr, 1) := by decide +kernel
theorem dX11_type_60 : decode cX11_type 60 = .ok (.l2i, 1) := by decide +kernel
theorem dX11_type_61 : decode cX11_type 61 = .ok (.i2b, 1) := by decide +kernel
theorem dX11_type_62 : decode cX11_type 62 = .ok (.bastore, 1) := by decide +kernel
theorem dX11_type_63 : decode cX11_type 63 = .ok (.aload_n 0, 1) := by decide +kernel
theorem dX11_type_64 : decode cX11_type 64 = .ok (.dup, 1) := by decide +kernel
theorem dX11_type_65 : decode cX11_type 65 = .ok (.getfield 24, 3) := by decide +kernel
theorem dX11_type_68 : decode cX11_type 68 = .ok (.iconst 1, 1) := by decide +kernel
theorem dX11_type_69 : decode cX11_type 69 = .ok (.iadd, 1) := by decide +kernel
theorem dX11_type_70 : decode cX11_type 70 = .ok (.putfield 24, 3) := by decide +kernel
theorem dX11_type_73 : decode cX11_type 73 = .ok (.iinc 4 (-1), 3) := by decide +kernel
theorem dX11_type_76 : decode cX11_type 76 = .ok (.goto (-36), 3) := by decide +kernel
theorem dX11_type_79 : decode cX11_type 79 = .ok (.aload_n 0, 1) := by decide +kernel
theorem dX11_type_80 : decode cX11_type 80 = .ok (.getfield 24, 3) := by decide +kernel
theorem dX11_type_83 : decode cX11_type 83 = .ok (.ireturn, 1) := by decide +kernel
theorem dX11_clear_0 : decode cX11_clear 0 = .ok (.aload_n 0, 1) := by decide +kernel
theorem dX11_clear_1 : decode cX11_clear 1 = .ok (.getfield 24, 3) := by decide +kernel
theorem dX11_clear_4 : decode cX11_clear 4 = .ok (.istore_n 1, 1) := by decide +kernel
theorem dX11_clear_5 : decode cX11_clear 5 = .ok (.aload_n 0, 1) := by decide +kernel
theorem dX11_clear_6 : decode cX11_clear 6 = .ok (.iconst 0, 1) := by decide +kernel
theorem dX11_clear_7 : decode cX11_clear 7 = .ok (.putfield 24, 3) := by decide +kernel
theorem dX11_clear_10 : decode cX11_clear 10 = .ok (.iload_n 1, 1) := by decide +kernel
theorem dX11_clear_11 : decode cX11_clear 11 = .ok (.ireturn, 1) := by decide +kernel
theorem dX11_read_0 : decode cX11_read 0 = .ok (.new 141, 3) := by decide +kernel
theorem dX11_read_3 : decode cX11_read 3 = .ok (.dup, 1) := by decide +kernel
theorem dX11_read_4 : decode cX11_read 4 = .ok (.aload_n 0, 1) := by decide +kernel
theorem dX11_read_5 : decode cX11_read 5 = .ok (.getfield 20, 3) := by decide +kernel
theorem dX11_read_8 : decode cX11_read 8 = .ok (.aload_n 0, 1) := by decide +kernel
theorem dX11_read_9 : decode cX11_read 9 = .ok (.getfield 24, 3) := by decide +kernel
theorem dX11_read_12 : decode cX11_read 12 = .ok (.invokespecial 143, 3) := by decide +kernel
theorem dX11_read_15 : decode cX11_read 15 = .ok (.astore_n 1, 1) := by decide +kernel
theorem dX11_read_16 : decode cX11_read 16 = .ok (.aload_n 1, 1) := by decide +kernel
theorem dX11_read_17 : decode cX11_read 17 = .ok (.invokevirtual 146, 3) := by decide +kernel
theorem dX11_read_20 : decode cX11_read 20 = .ok (.aload_n 1, 1) := by decide +kernel
theorem dX11_read_21 : decode cX11_read 21 = .ok (.getfield 149, 3) := by decide +kernel
theorem dX11_read_24 : decode cX11_read 24 = .ok (.iconst (-1), 1) := by decide +kernel
theorem dX11_read_25 : decode cX11_read 25 = .ok (.if_icmp .eq 11, 3) := by decide +kernel
theorem dX11_read_28 : decode cX11_read 28 = .ok (.bipush (-10), 2) := by decide +kernel
theorem dX11_read_30 : decode cX11_read 30 = .ok (.aload_n 1, 1) := by decide +kernel
theorem dX11_read_31 : decode cX11_read 31 = .ok (.getfield 149, 3) := by decide +kernel
theorem dX11_read_34 : decode cX11_read 34 = .ok (.isub, 1) := by decide +kernel
theorem dX11_read_35 : decode cX11_read 35 = .ok (.ireturn, 1) := by decide +kernel
theorem dX11_read_36 : decode cX11_read 36 = .ok (.aload_n 0, 1) := by decide +kernel
theorem dX11_read_37 : decode cX11_read 37 = .ok (.aload_n 1, 1) := by decide +kernel
theorem dX11_read_38 : decode cX11_read 38 = .ok (.getfield 152, 3) := by decide +kernel
theorem dX11_read_41 : decode cX11_read 41 = .ok (.putfield 12, 3) := by decide +kernel
theorem dX11_read_44 : decode cX11_read 44 = .ok (.aload_n 0, 1) := by decide +kernel
theorem dX11_read_45 : decode cX11_read 45 = .ok (.getfield 12, 3) := by decide +kernel
theorem dX11_read_48 : decode cX11_read 48 = .ok (.getfield 155, 3) := by decide +kernel
theorem dX11_read_51 : decode cX11_read 51 = .ok (.ireturn, 1) := by decide +kernel
theorem dX11_goes_0 : decode cX11_goes 0 = .ok (.aload_n 0, 1) := by decide +kernel
theorem dX11_goes_1 : decode cX11_goes 1 = .ok (.getfield 12, 3) := by decide +kernel
theorem dX11_goes_4 : decode cX11_goes 4 = .ok (.iload_n 1, 1) := by decide +kernel
theorem dX11_goes_5 : decode cX11_goes 5 = .ok (.invokevirtual 158, 3) := by decide +kernel
theorem dX11_goes_8 : decode cX11_goes 8 = .ok (.astore 5, 2) := by decide +kernel
theorem dX11_goes_10 : decode cX11_goes 10 = .ok (.aload 5, 2) := by decide +kernel
theorem dX11_goes_12 : decode cX11_goes 12 = .ok (.ifnull 35, 3) := by decide +kernel
theorem dX11_goes_15 : decode cX11_goes 15 = .ok (.aload_n 0, 1) := by decide +kernel
theorem dX11_goes_16 : decode cX11_goes 16 = .ok (.getfield 12, 3) := by decide +kernel
theorem dX11_goes_19 : decode cX11_goes 19 = .ok (.iload_n 2, 1) := by decide +kernel
theorem dX11_goes_20 : decode cX11_goes 20 = .ok (.invokevirtual 113, 3) := by decide +kernel
theorem dX11_goes_23 : decode cX11_goes 23 = .ok (.ifCond .eq 24, 3) := by decide +kernel
theorem dX11_goes_26 : decode cX11_goes 26 = .ok (.iload_n 3, 1) := by decide +kernel
theorem dX11_goes_27 : decode cX11_goes 27 = .ok (.ifCond .lt 20, 3) := by decide +kernel
theorem dX11_goes_30 : decode cX11_goes 30 = .ok (.iload_n 3, 1) := by decide +kernel
theorem dX11_goes_31 : decode cX11_goes 31 = .ok (.iconst 1, 1) := by decide +kernel
theorem dX11_goes_32 : decode cX11_goes 32 = .ok (.if_icmp .gt 15, 3) := by decide +kernel
theorem dX11_goes_35 : decode cX11_goes 35 = .ok (.iload 4, 2) := by decide +kernel
theorem dX11_goes_37 : decode cX11_goes 37 = .ok (.ifCond .lt 10, 3) := by decide +kernel
theorem dX11_goes_40 : decode cX11_goes 40 = .ok (.iload 4, 2) := by decide +kernel
theorem dX11_goes_42 : decode cX11_goes 42 = .ok (.bipush 99, 2) := by decide +kernel
theorem dX11_goes_44 : decode cX11_goes 44 = .ok (.if_icmp .le 10, 3) := by decide +kernel
theorem dX11_goes_47 : decode cX11_goes 47 = .ok (.aload_n 0, 1) := by decide +kernel
theorem dX11_goes_48 : decode cX11_goes 48 = .ok (.bipush (-2), 2) := by decide +kernel
theorem dX11_goes_50 : decode cX11_goes 50 = .ok (.invokevirtual 72, 3) := by decide +kernel
theorem dX11_goes_53 : decode cX11_goes 53 = .ok (.ireturn, 1) := by decide +kernel
theorem dX11_goes_54 : decode cX11_goes 54 = .ok (.aload 5, 2) := by decide +kernel
theorem dX11_goes_56 : decode cX11_goes 56 = .ok (.iload_n 2, 1) := by decide +kernel
theorem dX11_goes_57 : decode cX11_goes 57 = .ok (.iload_n 3, 1) := by decide +kernel
theorem dX11_goes_58 : decode cX11_goes 58 = .ok (.iload 4, 2) := by decide +kernel
theorem dX11_goes_60 : decode cX11_goes 60 = .ok (.aload_n 0, 1) := by decide +kernel
theorem dX11_goes_61 : decode cX11_goes 61 = .ok (.getfield 12, 3) := by decide +kernel
theorem dX11_goes_64 : decode cX11_goes 64 = .ok (.getfield 116, 3) := by decide +kernel
theorem dX11_goes_67 : decode cX11_goes 67 = .ok (.invokevirtual 162, 3) := by decide +kernel
theorem dX11_goes_70 : decode cX11_goes 70 = .ok (.ireturn, 1) := by decide +kernel
theorem dX11_run_0 : decode cX11_run 0 = .ok (.aload_n 0, 1) := by decide +kernel
theorem dX11_run_1 : decode cX11_run 1 = .ok (.getfield 12, 3) := by decide +kernel
theorem dX11_run_4 : decode cX11_run 4 = .ok (.iload_n 1, 1) := by decide +kernel
theorem dX11_run_5 : decode cX11_run 5 = .ok (.invokevirtual 158, 3) := by decide +kernel
theorem dX11_run_8 : decode cX11_run 8 = .ok (.astore 5, 2) := by decide +kernel
theorem dX11_run_10 : decode cX11_run 10 = .ok (.aload 5, 2) := by decide +kernel
theorem dX11_run_12 : decode cX11_run 12 = .ok (.ifnull 23, 3) := by decide +kernel
theorem dX11_run_15 : decode cX11_run 15 = .ok (.aload_n 0, 1) := by decide +kernel
theorem dX11_run_16 : decode cX11_run 16 = .ok (.getfield 12, 3) := by decide +kernel
theorem dX11_run_19 : decode cX11_run 19 = .ok (.iload_n 2, 1) := by decide +kernel
theorem dX11_run_20 : decode cX11_run 20 = .ok (.invokevirtual 113, 3) := by decide +kernel
theorem dX11_run_23 : decode cX11_run 23 = .ok (.ifCond .eq 12, 3) := by decide +kernel
theorem dX11_run_26 : decode cX11_run 26 = .ok (.iload_n 3, 1) := by decide +kernel
theorem dX11_run_27 : decode cX11_run 27 = .ok (.iload 4, 2) := by decide +kernel
theorem dX11_run_29 : decode cX11_run 29 = .ok (.invokestatic 168, 3) := by decide +kernel
theorem dX11_run_32 : decode cX11_run 32 = .ok (.ifCond .ne 10, 3) := by decide +kernel
theorem dX11_run_35 : decode cX11_run 35 = .ok (.aload_n 0, 1) := by decide +kernel
theorem dX11_run_36 : decode cX11_run 36 = .ok (.bipush (-2), 2) := by decide +kernel
theorem dX11_run_38 : decode cX11_run 38 = .ok (.invokevirtual 72, 3) := by decide +kernel
theorem dX11_run_41 : decode cX11_run 41 = .ok (.ireturn, 1) := by decide +kernel
theorem dX11_run_42 : decode cX11_run 42 = .ok (.aload 5, 2) := by decide +kernel
theorem dX11_run_44 : decode cX11_run 44 = .ok (.iload_n 2, 1) := by decide +kernel
theorem dX11_run_45 : decode cX11_run 45 = .ok (.iload_n 3, 1) := by decide +kernel
theorem dX11_run_46 : decode cX11_run 46 = .ok (.iload 4, 2) := by decide +kernel
theorem dX11_run_48 : decode cX11_run 48 = .ok (.aload_n 0, 1) := by decide +kernel
theorem dX11_run_49 : decode cX11_run 49 = .ok (.getfield 12, 3) := by decide +kernel
theorem dX11_run_52 : decode cX11_run 52 = .ok (.getfield 116, 3) := by decide +kernel
theorem dX11_run_55 : decode cX11_run 55 = .ok (.invokevirtual 171, 3) := by decide +kernel
theorem dX11_run_58 : decode cX11_run 58 = .ok (.ireturn, 1) := by decide +kernel
theorem dX11_meets_0 : decode cX11_meets 0 = .ok (.aload_n 0, 1) := by decide +kernel
theorem dX11_meets_1 : decode cX11_meets 1 = .ok (.getfield 12, 3) := by decide +kernel
theorem dX11_meets_4 : decode cX11_meets 4 = .ok (.iload_n 1, 1) := by decide +kernel
theorem dX11_meets_5 : decode cX11_meets 5 = .ok (.invokevirtual 158, 3) := by decide +kernel
theorem dX11_meets_8 : decode cX11_meets 8 = .ok (.astore 4, 2) := by decide +kernel
theorem dX11_meets_10 : decode cX11_meets 10 = .ok (.aload 4, 2) := by decide +kernel
theorem dX11_meets_12 : decode cX11_meets 12 = .ok (.ifnull 11, 3) := by decide +kernel
theorem dX11_meets_15 : decode cX11_meets 15 = .ok (.iload_n 2, 1) := by decide +kernel
theorem dX11_meets_16 : decode cX11_meets 16 = .ok (.iload_n 3, 1) := by decide +kernel
theorem dX11_meets_17 : decode cX11_meets 17 = .ok (.invokestatic 168, 3) := by decide +kernel
theorem dX11_meets_20 : decode cX11_meets 20 = .ok (.ifCond .ne 10, 3) := by decide +kernel
theorem dX11_meets_23 : decode cX11_meets 23 = .ok (.aload_n 0, 1) := by decide +kernel
theorem dX11_meets_24 : decode cX11_meets 24 = .ok (.bipush (-2), 2) := by decide +kernel
theorem dX11_meets_26 : decode cX11_meets 26 = .ok (.invokevirtual 72, 3) := by decide +kernel
theorem dX11_meets_29 : decode cX11_meets 29 = .ok (.ireturn, 1) := by decide +kernel
theorem dX11_meets_30 : decode cX11_meets 30 = .ok (.iconst 0, 1) := by decide +kernel
theorem dX11_meets_31 : decode cX11_meets 31 = .ok (.istore 5, 2) := by decide +kernel
theorem dX11_meets_33 : decode cX11_meets 33 = .ok (.iconst 0, 1) := by decide +kernel
theorem dX11_meets_34 : decode cX11_meets 34 = .ok (.istore 6, 2) := by decide +kernel
theorem dX11_meets_36 : decode cX11_meets 36 = .ok (.iload 6, 2) := by decide +kernel
theorem dX11_meets_38 : decode cX11_meets 38 = .ok (.aload_n 0, 1) := by decide +kernel
theorem dX11_meets_39 : decode cX11_meets 39 = .ok (.getfield 12, 3) := by decide +kernel
theorem dX11_meets_42 : decode cX11_meets 42 = .ok (.getfield 76, 3) := by decide +kernel
theorem dX11_meets_45 : decode cX11_meets 45 = .ok (.if_icmp .ge 32, 3) := by decide +kernel
theorem dX11_meets_48 : decode cX11_meets 48 = .ok (.iload 5, 2) := by decide +kernel
theorem dX11_meets_50 : decode cX11_meets 50 = .ok (.iconst 1, 1) := by decide +kernel
theorem dX11_meets_51 : decode cX11_meets 51 = .ok (.aload 4, 2) := by decide +kernel
theorem dX11_meets_53 : decode cX11_meets 53 = .ok (.iload 6, 2) := by decide +kernel
theorem dX11_meets_55 : decode cX11_meets 55 = .ok (.iload_n 2, 1) := by decide +kernel
theorem dX11_meets_56 : decode cX11_meets 56 = .ok (.iload_n 3, 1) := by decide +kernel
theorem dX11_meets_57 : decode cX11_meets 57 = .ok (.aload_n 0, 1) := by decide +kernel
theorem dX11_meets_58 : decode cX11_meets 58 = .ok (.getfield 12, 3) := by decide +kernel
theorem dX11_meets_61 : decode cX11_meets 61 = .ok (.getfield 116, 3) := by decide +kernel
theorem dX11_meets_64 : decode cX11_meets 64 = .ok (.invokevirtual 171, 3) := by decide +kernel
theorem dX11_meets_67 : decode cX11_meets 67 = .ok (.ishl, 1) := by decide +kernel
theorem dX11_meets_68 : decode cX11_meets 68 = .ok (.ior, 1) := by decide +kernel
theorem dX11_meets_69 : decode cX11_meets 69 = .ok (.istore 5, 2) := by decide +kernel
theorem dX11_meets_71 : decode cX11_meets 71 = .ok (.iinc 6 1, 3) := by decide +kernel
theorem dX11_meets_74 : decode cX11_meets 74 = .ok (.goto (-38), 3) := by decide +kernel
theorem dX11_meets_77 : decode cX11_meets 77 = .ok (.iload 5, 2) := by decide +kernel
theorem dX11_meets_79 : decode cX11_meets 79 = .ok (.ireturn, 1) := by decide +kernel
theorem dX11_tame_0 : decode cX11_tame 0 = .ok (.aload_n 0, 1) := by decide +kernel
theorem dX11_tame_1 : decode cX11_tame 1 = .ok (.getfield 12, 3) := by decide +kernel
theorem dX11_tame_4 : decode cX11_tame 4 = .ok (.iload_n 1, 1) := by decide +kernel
theorem dX11_tame_5 : decode cX11_tame 5 = .ok (.invokevirtual 174, 3) := by decide +kernel
theorem dX11_tame_8 : decode cX11_tame 8 = .ok (.ifCond .eq 12, 3) := by decide +kernel
theorem dX11_tame_11 : decode cX11_tame 11 = .ok (.iload_n 2, 1) := by decide +kernel
theorem dX11_tame_12 : decode cX11_tame 12 = .ok (.ifCond .lt 8, 3) := by decide +kernel
theorem dX11_tame_15 : decode cX11_tame 15 = .ok (.iload_n 2, 1) := by decide +kernel
theorem dX11_tame_16 : decode cX11_tame 16 = .ok (.iconst 1, 1) := by decide +kernel
theorem dX11_tame_17 : decode cX11_tame 17 = .ok (.if_icmp .le 10, 3) := by decide +kernel
theorem dX11_tame_20 : decode cX11_tame 20 = .ok (.aload_n 0, 1) := by decide +kernel
theorem dX11_tame_21 : decode cX11_tame 21 = .ok (.bipush (-10), 2) := by decide +kernel
theorem dX11_tame_23 : decode cX11_tame 23 = .ok (.invokevirtual 72, 3) := by decide +kernel
theorem dX11_tame_26 : decode cX11_tame 26 = .ok (.ireturn, 1) := by decide +kernel
theorem dX11_tame_27 : decode cX11_tame 27 = .ok (.aload_n 0, 1) := by decide +kernel
theorem dX11_tame_28 : decode cX11_tame 28 = .ok (.getfield 47, 3) := by decide +kernel
theorem dX11_tame_31 : decode cX11_tame 31 = .ok (.aload_n 0, 1) := by decide +kernel
theorem dX11_tame_32 : decode cX11_tame 32 = .ok (.getfield 12, 3) := by decide +kernel
theorem dX11_tame_35 : decode cX11_tame 35 = .ok (.iload_n 1, 1) := by decide +kernel
theorem dX11_tame_36 : decode cX11_tame 36 = .ok (.aload_n 0, 1) := by decide +kernel
theorem dX11_tame_37 : decode cX11_tame 37 = .ok (.getfield 12, 3) := by decide +kernel
theorem dX11_tame_40 : decode cX11_tame 40 = .ok (.getfield 116, 3) := by decide +kernel
theorem dX11_tame_43 : decode cX11_tame 43 = .ok (.invokevirtual 177, 3) := by decide +kernel
theorem dX11_tame_46 : decode cX11_tame 46 = .ok (.aload_n 0, 1) := by decide +kernel
theorem dX11_tame_47 : decode cX11_tame 47 = .ok (.getfield 47, 3) := by decide +kernel
theorem dX11_tame_50 : decode cX11_tame 50 = .ok (.iconst 1, 1) := by decide +kernel
theorem dX11_tame_51 : decode cX11_tame 51 = .ok (.iconst 1, 1) := by decide +kernel
theorem dX11_tame_52 : decode cX11_tame 52 = .ok (.invokevirtual 181, 3) := by decide +kernel
theorem dX11_tame_55 : decode cX11_tame 55 = .ok (.ifCond .eq 14, 3) := by decide +kernel
theorem dX11_tame_58 : decode cX11_tame 58 = .ok (.aload_n 0, 1) := by decide +kernel
theorem dX11_tame_59 : decode cX11_tame 59 = .ok (.getfield 47, 3) := by decide +kernel
theorem dX11_tame_62 : decode cX11_tame 62 = .ok (.iload_n 2, 1) := by decide +kernel
theorem dX11_tame_63 : decode cX11_tame 63 = .ok (.invokevirtual 184, 3) := by decide +kernel
theorem dX11_tame_66 : decode cX11_tame 66 = .ok (.goto 4, 3) := by decide +kernel
theorem dX11_tame_69 : decode cX11_tame 69 = .ok (.iconst (-1), 1) := by decide +kernel
theorem dX11_tame_70 : decode cX11_tame 70 = .ok (.ireturn, 1) := by decide +kernel
theorem dX11_quiet_0 : decode cX11_quiet 0 = .ok (.aload_n 0, 1) := by decide +kernel
theorem dX11_quiet_1 : decode cX11_quiet 1 = .ok (.getfield 12, 3) := by decide +kernel
theorem dX11_quiet_4 : decode cX11_quiet 4 = .ok (.iload_n 1, 1) := by decide +kernel
theorem dX11_quiet_5 : decode cX11_quiet 5 = .ok (.invokevirtual 174, 3) := by decide +kernel
theorem dX11_quiet_8 : decode cX11_quiet 8 = .ok (.ifCond .ne 10, 3) := by decide +kernel
theorem dX11_quiet_11 : decode cX11_quiet 11 = .ok (.aload_n 0, 1) := by decide +kernel
theorem dX11_quiet_12 : decode cX11_quiet 12 = .ok (.bipush (-2), 2) := by decide +kernel
theorem dX11_quiet_14 : decode cX11_quiet 14 = .ok (.invokevirtual 72, 3) := by decide +kernel
theorem dX11_quiet_17 : decode cX11_quiet 17 = .ok (.ireturn, 1) := by decide +kernel
theorem dX11_quiet_18 : decode cX11_quiet 18 = .ok (.aload_n 0, 1) := by decide +kernel
theorem dX11_quiet_19 : decode cX11_quiet 19 = .ok (.getfield 47, 3) := by decide +kernel
theorem dX11_quiet_22 : decode cX11_quiet 22 = .ok (.aload_n 0, 1) := by decide +kernel
theorem dX11_quiet_23 : decode cX11_quiet 23 = .ok (.getfield 12, 3) := by decide +kernel
theorem dX11_quiet_26 : decode cX11_quiet 26 = .ok (.iload_n 1, 1) := by decide +kernel
theorem dX11_quiet_27 : decode cX11_quiet 27 = .ok (.aload_n 0, 1) := by decide +kernel
theorem dX11_quiet_28 : decode cX11_quiet 28 = .ok (.getfield 12, 3) := by decide +kernel
theorem dX11_quiet_31 : decode cX11_quiet 31 = .ok (.getfield 116, 3) := by decide +kernel
theorem dX11_quiet_34 : decode cX11_quiet 34 = .ok (.invokevirtual 177, 3) := by decide +kernel
theorem dX11_quiet_37 : decode cX11_quiet 37 = .ok (.aload_n 0, 1) := by decide +kernel
theorem dX11_quiet_38 : decode cX11_quiet 38 = .ok (.getfield 47, 3) := by decide +kernel
theorem dX11_quiet_41 : decode cX11_quiet 41 = .ok (.aload_n 0, 1) := by decide +kernel
theorem dX11_quiet_42 : decode cX11_quiet 42 = .ok (.getfield 12, 3) := by decide +kernel
theorem dX11_quiet_45 : decode cX11_quiet 45 = .ok (.getfield 135, 3) := by decide +kernel
theorem dX11_quiet_48 : decode cX11_quiet 48 = .ok (.aload_n 0, 1) := by decide +kernel
theorem dX11_quiet_49 : decode cX11_quiet 49 = .ok (.getfield 12, 3) := by decide +kernel
theorem dX11_quiet_52 : decode cX11_quiet 52 = .ok (.getfield 138, 3) := by decide +kernel
theorem dX11_quiet_55 : decode cX11_quiet 55 = .ok (.invokevirtual 181, 3) := by decide +kernel
theorem dX11_quiet_58 : decode cX11_quiet 58 = .ok (.ifCond .eq 13, 3) := by decide +kernel
theorem dX11_quiet_61 : decode cX11_quiet 61 = .ok (.aload_n 0, 1) := by decide +kernel
theorem dX11_quiet_62 : decode cX11_quiet 62 = .ok (.getfield 47, 3) := by decide +kernel
theorem dX11_quiet_65 : decode cX11_quiet 65 = .ok (.invokevirtual 187, 3) := by decide +kernel
theorem dX11_quiet_68 : decode cX11_quiet 68 = .ok (.goto 4, 3) := by decide +kernel
theorem dX11_quiet_71 : decode cX11_quiet 71 = .ok (.iconst (-1), 1) := by decide +kernel
theorem dX11_quiet_72 : decode cX11_quiet 72 = .ok (.ireturn, 1) := by decide +kernel
theorem dX11_apart_0 : decode cX11_apart 0 = .ok (.aload_n 0, 1) := by decide +kernel
theorem dX11_apart_1 : decode cX11_apart 1 = .ok (.getfield 12, 3) := by decide +kernel
theorem dX11_apart_4 : decode cX11_apart 4 = .ok (.iload_n 1, 1) := by decide +kernel
theorem dX11_apart_5 : decode cX11_apart 5 = .ok (.invokevirtual 158, 3) := by decide +kernel
theorem dX11_apart_8 : decode cX11_apart 8 = .ok (.astore_n 2, 1) := by decide +kernel
theorem dX11_apart_9 : decode cX11_apart 9 = .ok (.aload_n 2, 1) := by decide +kernel
theorem dX11_apart_10 : decode cX11_apart 10 = .ok (.ifnonnull 10, 3) := by decide +kernel
theorem dX11_apart_13 : decode cX11_apart 13 = .ok (.aload_n 0, 1) := by decide +kernel
theorem dX11_apart_14 : decode cX11_apart 14 = .ok (.bipush (-2), 2) := by decide +kernel
theorem dX11_apart_16 : decode cX11_apart 16 = .ok (.invokevirtual 72, 3) := by decide +kernel
theorem dX11_apart_19 : decode cX11_apart 19 = .ok (.ireturn, 1) := by decide +kernel
theorem dX11_apart_20 : decode cX11_apart 20 = .ok (.aload_n 0, 1) := by decide +kernel
theorem dX11_apart_21 : decode cX11_apart 21 = .ok (.getfield 54, 3) := by decide +kernel
theorem dX11_apart_24 : decode cX11_apart 24 = .ok (.aload_n 2, 1) := by decide +kernel
theorem dX11_apart_25 : decode cX11_apart 25 = .ok (.aload_n 0, 1) := by decide +kernel
theorem dX11_apart_26 : decode cX11_apart 26 = .ok (.getfield 12, 3) := by decide +kernel
theorem dX11_apart_29 : decode cX11_apart 29 = .ok (.getfield 76, 3) := by decide +kernel
theorem dX11_apart_32 : decode cX11_apart 32 = .ok (.aload_n 0, 1) := by decide +kernel
theorem dX11_apart_33 : decode cX11_apart 33 = .ok (.getfield 12, 3) := by decide +kernel
theorem dX11_apart_36 : decode cX11_apart 36 = .ok (.getfield 116, 3) := by decide +kernel
theorem dX11_apart_39 : decode cX11_apart 39 = .ok (.invokevirtual 190, 3) := by decide +kernel
theorem dX11_apart_42 : decode cX11_apart 42 = .ok (.aload_n 0, 1) := by decide +kernel
theorem dX11_apart_43 : decode cX11_apart 43 = .ok (.getfield 54, 3) := by decide +kernel
theorem dX11_apart_46 : decode cX11_apart 46 = .ok (.invokevirtual 194, 3) := by decide +kernel
theorem dX11_apart_49 : decode cX11_apart 49 = .ok (.iconst 0, 1) := by decide +kernel
theorem dX11_apart_50 : decode cX11_apart 50 = .ok (.istore_n 3, 1) := by decide +kernel
theorem dX11_apart_51 : decode cX11_apart 51 = .ok (.iload_n 3, 1) := by decide +kernel
theorem dX11_apart_52 : decode cX11_apart 52 = .ok (.aload_n 0, 1) := by decide +kernel
theorem dX11_apart_53 : decode cX11_apart 53 = .ok (.getfield 12, 3) := by decide +kernel
theorem dX11_apart_56 : decode cX11_apart 56 = .ok (.getfield 76, 3) := by decide +kernel
theorem dX11_apart_59 : decode cX11_apart 59 = .ok (.if_icmp .ge 53, 3) := by decide +kernel
theorem dX11_apart_62 : decode cX11_apart 62 = .ok (.iload_n 3, 1) := by decide +kernel
theorem dX11_apart_63 : decode cX11_apart 63 = .ok (.iconst 1, 1) := by decide +kernel
theorem dX11_apart_64 : decode cX11_apart 64 = .ok (.iadd, 1) := by decide +kernel
theorem dX11_apart_65 : decode cX11_apart 65 = .ok (.istore 4, 2) := by decide +kernel
theorem dX11_apart_67 : decode cX11_apart 67 = .ok (.iload 4, 2) := by decide +kernel
theorem dX11_apart_69 : decode cX11_apart 69 = .ok (.aload_n 0, 1) := by decide +kernel
theorem dX11_apart_70 : decode cX11_apart 70 = .ok (.getfield 12, 3) := by decide +kernel
theorem dX11_apart_73 : decode cX11_apart 73 = .ok (.getfield 76, 3) := by decide +kernel
theorem dX11_apart_76 : decode cX11_apart 76 = .ok (.if_icmp .ge 30, 3) := by decide +kernel
theorem dX11_apart_79 : decode cX11_apart 79 = .ok (.aload_n 0, 1) := by decide +kernel
theorem dX11_apart_80 : decode cX11_apart 80 = .ok (.getfield 54, 3) := by decide +kernel
theorem dX11_apart_83 : decode cX11_apart 83 = .ok (.iload_n 3, 1) := by decide +kernel
theorem dX11_apart_84 : decode cX11_apart 84 = .ok (.iload 4, 2) := by decide +kernel
theorem dX11_apart_86 : decode cX11_apart 86 = .ok (.invokevirtual 197, 3) := by decide +kernel
theorem dX11_apart_89 : decode cX11_apart 89 = .ok (.ifCond .ne 11, 3) := by decide +kernel
theorem dX11_apart_92 : decode cX11_apart 92 = .ok (.bipush 10, 2) := by decide +kernel
theorem dX11_apart_94 : decode cX11_apart 94 = .ok (.iload_n 3, 1) := by decide +kernel
theorem dX11_apart_95 : decode cX11_apart 95 = .ok (.imul, 1) := by decide +kernel
theorem dX11_apart_96 : decode cX11_apart 96 = .ok (.iload 4, 2) := by decide +kernel
theorem dX11_apart_98 : decode cX11_apart 98 = .ok (.iadd, 1) := by decide +kernel
theorem dX11_apart_99 : decode cX11_apart 99 = .ok (.ireturn, 1) := by decide +kernel
theorem dX11_apart_100 : decode cX11_apart 100 = .ok (.iinc 4 1, 3) := by decide +kernel
theorem dX11_apart_103 : decode cX11_apart 103 = .ok (.goto (-36), 3) := by decide +kernel
theorem dX11_apart_106 : decode cX11_apart 106 = .ok (.iinc 3 1, 3) := by decide +kernel
theorem dX11_apart_109 : decode cX11_apart 109 = .ok (.goto (-58), 3) := by decide +kernel
theorem dX11_apart_112 : decode cX11_apart 112 = .ok (.iconst (-1), 1) := by decide +kernel
theorem dX11_apart_113 : decode cX11_apart 113 = .ok (.ireturn, 1) := by decide +kernel
theorem dX11_shuts_0 : decode cX11_shuts 0 = .ok (.aload_n 0, 1) := by decide +kernel
theorem dX11_shuts_1 : decode cX11_shuts 1 = .ok (.getfield 12, 3) := by decide +kernel
theorem dX11_shuts_4 : decode cX11_shuts 4 = .ok (.iload_n 1, 1) := by decide +kernel
theorem dX11_shuts_5 : decode cX11_shuts 5 = .ok (.invokevirtual 174, 3) := by decide +kernel
theorem dX11_shuts_8 : decode cX11_shuts 8 = .ok (.ifCond .ne 10, 3) := by decide +kernel
theorem dX11_shuts_11 : decode cX11_shuts 11 = .ok (.aload_n 0, 1) := by decide +kernel
theorem dX11_shuts_12 : decode cX11_shuts 12 = .ok (.bipush (-2), 2) := by decide +kernel
theorem dX11_shuts_14 : decode cX11_shuts 14 = .ok (.invokevirtual 72, 3) := by decide +kernel
theorem dX11_shuts_17 : decode cX11_shuts 17 = .ok (.ireturn, 1) := by decide +kernel
theorem dX11_shuts_18 : decode cX11_shuts 18 = .ok (.aload_n 0, 1) := by decide +kernel
theorem dX11_shuts_19 : decode cX11_shuts 19 = .ok (.getfield 12, 3) := by decide +kernel
theorem dX11_shuts_22 : decode cX11_shuts 22 = .ok (.invokevirtual 200, 3) := by decide +kernel
theorem dX11_shuts_25 : decode cX11_shuts 25 = .ok (.istore_n 2, 1) := by decide +kernel
theorem dX11_shuts_26 : decode cX11_shuts 26 = .ok (.iconst 0, 1) := by decide +kernel
theorem dX11_shuts_27 : decode cX11_shuts 27 = .ok (.istore_n 3, 1) := by decide +kernel
theorem dX11_shuts_28 : decode cX11_shuts 28 = .ok (.iload_n 3, 1) := by decide +kernel
theorem dX11_shuts_29 : decode cX11_shuts 29 = .ok (.aload_n 0, 1) := by decide +kernel
theorem dX11_shuts_30 : decode cX11_shuts 30 = .ok (.getfield 12, 3) := by decide +kernel
theorem dX11_shuts_33 : decode cX11_shuts 33 = .ok (.getfield 76, 3) := by decide +kernel
theorem dX11_shuts_36 : decode cX11_shuts 36 = .ok (.if_icmp .ge 80, 3) := by decide +kernel
theorem dX11_shuts_39 : decode cX11_shuts 39 = .ok (.iconst 0, 1) := by decide +kernel
theorem dX11_shuts_40 : decode cX11_shuts 40 = .ok (.istore 4, 2) := by decide +kernel
theorem dX11_shuts_42 : decode cX11_shuts 42 = .ok (.iload 4, 2) := by decide +kernel
theorem dX11_shuts_44 : decode cX11_shuts 44 = .ok (.iload_n 2, 1) := by decide +kernel
theorem dX11_shuts_45 : decode cX11_shuts 45 = .ok (.if_icmp .gt 65, 3) := by decide +kernel
theorem dX11_shuts_48 : decode cX11_shuts 48 = .ok (.iload 4, 2) := by decide +kernel
theorem dX11_shuts_50 : decode cX11_shuts 50 = .ok (.invokestatic 203, 3) := by decide +kernel
theorem dX11_shuts_53 : decode cX11_shuts 53 = .ok (.iload_n 3, 1) := by decide +kernel
theorem dX11_shuts_54 : decode cX11_shuts 54 = .ok (.if_icmp .ne 50, 3) := by decide +kernel
theorem dX11_shuts_57 : decode cX11_shuts 57 = .ok (.iload 4, 2) := by decide +kernel
theorem dX11_shuts_59 : decode cX11_shuts 59 = .ok (.aload_n 0, 1) := by decide +kernel
theorem dX11_shuts_60 : decode cX11_shuts 60 = .ok (.getfield 12, 3) := by decide +kernel
theorem dX11_shuts_63 : decode cX11_shuts 63 = .ok (.getfield 129, 3) := by decide +kernel
theorem dX11_shuts_66 : decode cX11_shuts 66 = .ok (.invokestatic 119, 3) := by decide +kernel
theorem dX11_shuts_69 : decode cX11_shuts 69 = .ok (.ifCond .eq 6, 3) := by decide +kernel
theorem dX11_shuts_72 : decode cX11_shuts 72 = .ok (.goto 32, 3) := by decide +kernel
theorem dX11_shuts_75 : decode cX11_shuts 75 = .ok (.aload_n 0, 1) := by decide +kernel
theorem dX11_shuts_76 : decode cX11_shuts 76 = .ok (.getfield 47, 3) := by decide +kernel
theorem dX11_shuts_79 : decode cX11_shuts 79 = .ok (.aload_n 0, 1) := by decide +kernel
theorem dX11_shuts_80 : decode cX11_shuts 80 = .ok (.getfield 12, 3) := by decide +kernel
theorem dX11_shuts_83 : decode cX11_shuts 83 = .ok (.iload_n 1, 1) := by decide +kernel
theorem dX11_shuts_84 : decode cX11_shuts 84 = .ok (.iload 4, 2) := by decide +kernel
theorem dX11_shuts_86 : decode cX11_shuts 86 = .ok (.invokevirtual 177, 3) := by decide +kernel
theorem dX11_shuts_89 : decode cX11_shuts 89 = .ok (.aload_n 0, 1) := by decide +kernel
theorem dX11_shuts_90 : decode cX11_shuts 90 = .ok (.getfield 47, 3) := by decide +kernel
theorem dX11_shuts_93 : decode cX11_shuts 93 = .ok (.iconst 1, 1) := by decide +kernel
theorem dX11_shuts_94 : decode cX11_shuts 94 = .ok (.iconst 1, 1) := by decide +kernel
theorem dX11_shuts_95 : decode cX11_shuts 95 = .ok (.invokevirtual 181, 3) := by decide +kernel
theorem dX11_shuts_98 : decode cX11_shuts 98 = .ok (.ifCond .eq 6, 3) := by decide +kernel
theorem dX11_shuts_101 : decode cX11_shuts 101 = .ok (.iload 4, 2) := by decide +kernel
theorem dX11_shuts_103 : decode cX11_shuts 103 = .ok (.ireturn, 1) := by decide +kernel
theorem dX11_shuts_104 : decode cX11_shuts 104 = .ok (.iinc 4 1, 3) := by decide +kernel
theorem dX11_shuts_107 : decode cX11_shuts 107 = .ok (.goto (-65), 3) := by decide +kernel
theorem dX11_shuts_110 : decode cX11_shuts 110 = .ok (.iinc 3 1, 3) := by decide +kernel
theorem dX11_shuts_113 : decode cX11_shuts 113 = .ok (.goto (-85), 3) := by decide +kernel
theorem dX11_shuts_116 : decode cX11_shuts 116 = .ok (.iconst (-1), 1) := by decide +kernel
theorem dX11_shuts_117 : decode cX11_shuts 117 = .ok (.ireturn, 1) := by decide +kernel
theorem dX11_neighbour_0 : decode cX11_neighbour 0 = .ok (.aload_n 0, 1) := by decide +kernel
theorem dX11_neighbour_1 : decode cX11_neighbour 1 = .ok (.getfield 12, 3) := by decide +kernel
theorem dX11_neighbour_4 : decode cX11_neighbour 4 = .ok (.iload_n 2, 1) := by decide +kernel
theorem dX11_neighbour_5 : decode cX11_neighbour 5 = .ok (.invokevirtual 158, 3) := by decide +kernel
theorem dX11_neighbour_8 : decode cX11_neighbour 8 = .ok (.astore 5, 2) := by decide +kernel
theorem dX11_neighbour_10 : decode cX11_neighbour 10 = .ok (.aload 5, 2) := by decide +kernel
theorem dX11_neighbour_12 : decode cX11_neighbour 12 = .ok (.ifnull 22, 3) := by decide +kernel
theorem dX11_neighbour_15 : decode cX11_neighbour 15 = .ok (.aload_n 0, 1) := by decide +kernel
theorem dX11_neighbour_16 : decode cX11_neighbour 16 = .ok (.getfield 12, 3) := by decide +kernel
theorem dX11_neighbour_19 : decode cX11_neighbour 19 = .ok (.iload_n 1, 1) := by decide +kernel
theorem dX11_neighbour_20 : decode cX11_neighbour 20 = .ok (.invokevirtual 174, 3) := by decide +kernel
theorem dX11_neighbour_23 : decode cX11_neighbour 23 = .ok (.ifCond .eq 11, 3) := by decide +kernel
theorem dX11_neighbour_26 : decode cX11_neighbour 26 = .ok (.iload_n 1, 1) := by decide +kernel
theorem dX11_neighbour_27 : decode cX11_neighbour 27 = .ok (.iload_n 2, 1) := by decide +kernel
theorem dX11_neighbour_28 : decode cX11_neighbour 28 = .ok (.invokestatic 119, 3) := by decide +kernel
theorem dX11_neighbour_31 : decode cX11_neighbour 31 = .ok (.ifCond .eq 10, 3) := by decide +kernel
theorem dX11_neighbour_34 : decode cX11_neighbour 34 = .ok (.aload_n 0, 1) := by decide +kernel
theorem dX11_neighbour_35 : decode cX11_neighbour 35 = .ok (.bipush (-10), 2) := by decide +kernel
theorem dX11_neighbour_37 : decode cX11_neighbour 37 = .ok (.invokevirtual 72, 3) := by decide +kernel
theorem dX11_neighbour_40 : decode cX11_neighbour 40 = .ok (.ireturn, 1) := by decide +kernel
theorem dX11_neighbour_41 : decode cX11_neighbour 41 = .ok (.aload_n 0, 1) := by decide +kernel
theorem dX11_neighbour_42 : decode cX11_neighbour 42 = .ok (.getfield 12, 3) := by decide +kernel
theorem dX11_neighbour_45 : decode cX11_neighbour 45 = .ok (.iload_n 3, 1) := by decide +kernel
theorem dX11_neighbour_46 : decode cX11_neighbour 46 = .ok (.invokevirtual 113, 3) := by decide +kernel
theorem dX11_neighbour_49 : decode cX11_neighbour 49 = .ok (.ifCond .eq 14, 3) := by decide +kernel
theorem dX11_neighbour_52 : decode cX11_neighbour 52 = .ok (.iload 4, 2) := by decide +kernel
theorem dX11_neighbour_54 : decode cX11_neighbour 54 = .ok (.ifCond .lt 9, 3) := by decide +kernel
theorem dX11_neighbour_57 : decode cX11_neighbour 57 = .ok (.iload 4, 2) := by decide +kernel
theorem dX11_neighbour_59 : decode cX11_neighbour 59 = .ok (.iconst 1, 1) := by decide +kernel
theorem dX11_neighbour_60 : decode cX11_neighbour 60 = .ok (.if_icmp .le 10, 3) := by decide +kernel
theorem dX11_neighbour_63 : decode cX11_neighbour 63 = .ok (.aload_n 0, 1) := by decide +kernel
theorem dX11_neighbour_64 : decode cX11_neighbour 64 = .ok (.bipush (-10), 2) := by decide +kernel
theorem dX11_neighbour_66 : decode cX11_neighbour 66 = .ok (.invokevirtual 72, 3) := by decide +kernel
theorem dX11_neighbour_69 : decode cX11_neighbour 69 = .ok (.ireturn, 1) := by decide +kernel
theorem dX11_neighbour_70 : decode cX11_neighbour 70 = .ok (.aload_n 0, 1) := by decide +kernel
theorem dX11_neighbour_71 : decode cX11_neighbour 71 = .ok (.getfield 47, 3) := by decide +kernel
theorem dX11_neighbour_74 : decode cX11_neighbour 74 = .ok (.aload_n 0, 1) := by decide +kernel
theorem dX11_neighbour_75 : decode cX11_neighbour 75 = .ok (.getfield 12, 3) := by decide +kernel
theorem dX11_neighbour_78 : decode cX11_neighbour 78 = .ok (.iload_n 1, 1) := by decide +kernel
theorem dX11_neighbour_79 : decode cX11_neighbour 79 = .ok (.aload_n 0, 1) := by decide +kernel
theorem dX11_neighbour_80 : decode cX11_neighbour 80 = .ok (.getfield 12, 3) := by decide +kernel
theorem dX11_neighbour_83 : decode cX11_neighbour 83 = .ok (.getfield 116, 3) := by decide +kernel
theorem dX11_neighbour_86 : decode cX11_neighbour 86 = .ok (.invokevirtual 177, 3) := by decide +kernel
theorem dX11_neighbour_89 : decode cX11_neighbour 89 = .ok (.aload_n 0, 1) := by decide +kernel
theorem dX11_neighbour_90 : decode cX11_neighbour 90 = .ok (.getfield 47, 3) := by decide +kernel
theorem dX11_neighbour_93 : decode cX11_neighbour 93 = .ok (.aload 5, 2) := by decide +kernel
theorem dX11_neighbour_95 : decode cX11_neighbour 95 = .ok (.aload_n 0, 1) := by decide +kernel
theorem dX11_neighbour_96 : decode cX11_neighbour 96 = .ok (.getfield 12, 3) := by decide +kernel
theorem dX11_neighbour_99 : decode cX11_neighbour 99 = .ok (.aload_n 0, 1) := by decide +kernel
theorem dX11_neighbour_100 : decode cX11_neighbour 100 = .ok (.getfield 12, 3) := by decide +kernel
theorem dX11_neighbour_103 : decode cX11_neighbour 103 = .ok (.getfield 116, 3) := by decide +kernel
theorem dX11_neighbour_106 : decode cX11_neighbour 106 = .ok (.iconst 1, 1) := by decide +kernel
theorem dX11_neighbour_107 : decode cX11_neighbour 107 = .ok (.iload_n 3, 1) := by decide +kernel
theorem dX11_neighbour_108 : decode cX11_neighbour 108 = .ok (.ishl, 1) := by decide +kernel
theorem dX11_neighbour_109 : decode cX11_neighbour 109 = .ok (.iconst 1, 1) := by decide +kernel
theorem dX11_neighbour_110 : decode cX11_neighbour 110 = .ok (.iload_n 3, 1) := by decide +kernel
theorem dX11_neighbour_111 : decode cX11_neighbour 111 = .ok (.ishl, 1) := by decide +kernel
theorem dX11_neighbour_112 : decode cX11_neighbour 112 = .ok (.invokevirtual 208, 3) := by decide +kernel
theorem dX11_neighbour_115 : decode cX11_neighbour 115 = .ok (.aload_n 0, 1) := by decide +kernel
theorem dX11_neighbour_116 : decode cX11_neighbour 116 = .ok (.getfield 47, 3) := by decide +kernel
theorem dX11_neighbour_119 : decode cX11_neighbour 119 = .ok (.iconst 1, 1) := by decide +kernel
theorem dX11_neighbour_120 : decode cX11_neighbour 120 = .ok (.iconst 1, 1) := by decide +kernel
theorem dX11_neighbour_121 : decode cX11_neighbour 121 = .ok (.invokevirtual 181, 3) := by decide +kernel
theorem dX11_neighbour_124 : decode cX11_neighbour 124 = .ok (.ifCond .eq 15, 3) := by decide +kernel
theorem dX11_neighbour_127 : decode cX11_neighbour 127 = .ok (.aload_n 0, 1) := by decide +kernel
theorem dX11_neighbour_128 : decode cX11_neighbour 128 = .ok (.getfield 47, 3) := by decide +kernel
theorem dX11_neighbour_131 : decode cX11_neighbour 131 = .ok (.iload 4, 2) := by decide +kernel
theorem dX11_neighbour_133 : decode cX11_neighbour 133 = .ok (.invokevirtual 184, 3) := by decide +kernel
theorem dX11_neighbour_136 : decode cX11_neighbour 136 = .ok (.goto 4, 3) := by decide +kernel
theorem dX11_neighbour_139 : decode cX11_neighbour 139 = .ok (.iconst (-1), 1) := by decide +kernel
theorem dX11_neighbour_140 : decode cX11_neighbour 140 = .ok (.ireturn, 1) := by decide +kernel
theorem dX11_tells_0 : decode cX11_tells 0 = .ok (.aload_n 0, 1) := by decide +kernel
theorem dX11_tells_1 : decode cX11_tells 1 = .ok (.getfield 12, 3) := by decide +kernel
theorem dX11_tells_4 : decode cX11_tells 4 = .ok (.iload_n 1, 1) := by decide +kernel
theorem dX11_tells_5 : decode cX11_tells 5 = .ok (.invokevirtual 158, 3) := by decide +kernel
theorem dX11_tells_8 : decode cX11_tells 8 = .ok (.astore 4, 2) := by decide +kernel
theorem dX11_tells_10 : decode cX11_tells 10 = .ok (.aload 4, 2) := by decide +kernel
theorem dX11_tells_12 : decode cX11_tells 12 = .ok (.ifnull 28, 3) := by decide +kernel
theorem dX11_tells_15 : decode cX11_tells 15 = .ok (.iload_n 2, 1) := by decide +kernel
theorem dX11_tells_16 : decode cX11_tells 16 = .ok (.iconst 1, 1) := by decide +kernel
theorem dX11_tells_17 : decode cX11_tells 17 = .ok (.if_icmp .lt 23, 3) := by decide +kernel
theorem dX11_tells_20 : decode cX11_tells 20 = .ok (.iload_n 2, 1) := by decide +kernel
theorem dX11_tells_21 : decode cX11_tells 21 = .ok (.aload_n 0, 1) := by decide +kernel
theorem dX11_tells_22 : decode cX11_tells 22 = .ok (.getfield 12, 3) := by decide +kernel
theorem dX11_tells_25 : decode cX11_tells 25 = .ok (.invokevirtual 200, 3) := by decide +kernel
theorem dX11_tells_28 : decode cX11_tells 28 = .ok (.if_icmp .gt 12, 3) := by decide +kernel
theorem dX11_tells_31 : decode cX11_tells 31 = .ok (.iload_n 3, 1) := by decide +kernel
theorem dX11_tells_32 : decode cX11_tells 32 = .ok (.ifCond .lt 8, 3) := by decide +kernel
theorem dX11_tells_35 : decode cX11_tells 35 = .ok (.iload_n 3, 1) := by decide +kernel
theorem dX11_tells_36 : decode cX11_tells 36 = .ok (.iconst 2, 1) := by decide +kernel
theorem dX11_tells_37 : decode cX11_tells 37 = .ok (.if_icmp .le 10, 3) := by decide +kernel
theorem dX11_tells_40 : decode cX11_tells 40 = .ok (.aload_n 0, 1) := by decide +kernel
theorem dX11_tells_41 : decode cX11_tells 41 = .ok (.bipush (-10), 2) := by decide +kernel
theorem dX11_tells_43 : decode cX11_tells 43 = .ok (.invokevirtual 72, 3) := by decide +kernel
theorem dX11_tells_46 : decode cX11_tells 46 = .ok (.ireturn, 1) := by decide +kernel
theorem dX11_tells_47 : decode cX11_tells 47 = .ok (.aload_n 0, 1) := by decide +kernel
theorem dX11_tells_48 : decode cX11_tells 48 = .ok (.getfield 54, 3) := by decide +kernel
theorem dX11_tells_51 : decode cX11_tells 51 = .ok (.aload 4, 2) := by decide +kernel
theorem dX11_tells_53 : decode cX11_tells 53 = .ok (.aload_n 0, 1) := by decide +kernel
theorem dX11_tells_54 : decode cX11_tells 54 = .ok (.getfield 12, 3) := by decide +kernel
theorem dX11_tells_57 : decode cX11_tells 57 = .ok (.getfield 76, 3) := by decide +kernel
theorem dX11_tells_60 : decode cX11_tells 60 = .ok (.aload_n 0, 1) := by decide +kernel
theorem dX11_tells_61 : decode cX11_tells 61 = .ok (.getfield 12, 3) := by decide +kernel
theorem dX11_tells_64 : decode cX11_tells 64 = .ok (.getfield 116, 3) := by decide +kernel
theorem dX11_tells_67 : decode cX11_tells 67 = .ok (.invokevirtual 190, 3) := by decide +kernel
theorem dX11_tells_70 : decode cX11_tells 70 = .ok (.aload_n 0, 1) := by decide +kernel
theorem dX11_tells_71 : decode cX11_tells 71 = .ok (.getfield 61, 3) := by decide +kernel
theorem dX11_tells_74 : decode cX11_tells 74 = .ok (.aload_n 0, 1) := by decide +kernel
theorem dX11_tells_75 : decode cX11_tells 75 = .ok (.getfield 54, 3) := by decide +kernel
theorem dX11_tells_78 : decode cX11_tells 78 = .ok (.aload_n 0, 1) := by decide +kernel
theorem dX11_tells_79 : decode cX11_tells 79 = .ok (.getfield 12, 3) := by decide +kernel
theorem dX11_tells_82 : decode cX11_tells 82 = .ok (.invokevirtual 200, 3) := by decide +kernel
theorem dX11_tells_85 : decode cX11_tells 85 = .ok (.aload_n 0, 1) := by decide +kernel
theorem dX11_tells_86 : decode cX11_tells 86 = .ok (.getfield 12, 3) := by decide +kernel
theorem dX11_tells_89 : decode cX11_tells 89 = .ok (.getfield 132, 3) := by decide +kernel
theorem dX11_tells_92 : decode cX11_tells 92 = .ok (.invokevirtual 212, 3) := by decide +kernel
theorem dX11_tells_95 : decode cX11_tells 95 = .ok (.iload_n 2, 1) := by decide +kernel
theorem dX11_tells_96 : decode cX11_tells 96 = .ok (.aload_n 0, 1) := by decide +kernel
theorem dX11_tells_97 : decode cX11_tells 97 = .ok (.getfield 12, 3) := by decide +kernel
theorem dX11_tells_100 : decode cX11_tells 100 = .ok (.getfield 132, 3) := by decide +kernel
theorem dX11_tells_103 : decode cX11_tells 103 = .ok (.iand, 1) := by decide +kernel
theorem dX11_tells_104 : decode cX11_tells 104 = .ok (.istore 5, 2) := by decide +kernel
theorem dX11_tells_106 : decode cX11_tells 106 = .ok (.iload_n 2, 1) := by decide +kernel
theorem dX11_tells_107 : decode cX11_tells 107 = .ok (.aload_n 0, 1) := by decide +kernel
theorem dX11_tells_108 : decode cX11_tells 108 = .ok (.getfield 12, 3) := by decide +kernel
theorem dX11_tells_111 : decode cX11_tells 111 = .ok (.getfield 132, 3) := by decide +kernel
theorem dX11_tells_114 : decode cX11_tells 114 = .ok (.iconst (-1), 1) := by decide +kernel
theorem dX11_tells_115 : decode cX11_tells 115 = .ok (.ixor, 1) := by decide +kernel
theorem dX11_tells_116 : decode cX11_tells 116 = .ok (.iand, 1) := by decide +kernel
theorem dX11_tells_117 : decode cX11_tells 117 = .ok (.istore 6, 2) := by decide +kernel
theorem dX11_tells_119 : decode cX11_tells 119 = .ok (.iload_n 3, 1) := by decide +kernel
theorem dX11_tells_120 : decode cX11_tells 120 = .ok (.iconst 1, 1) := by decide +kernel
theorem dX11_tells_121 : decode cX11_tells 121 = .ok (.if_icmp .ne 17, 3) := by decide +kernel
theorem dX11_tells_124 : decode cX11_tells 124 = .ok (.aload_n 0, 1) := by decide +kernel
theorem dX11_tells_125 : decode cX11_tells 125 = .ok (.getfield 61, 3) := by decide +kernel
theorem dX11_tells_128 : decode cX11_tells 128 = .ok (.aload_n 0, 1) := by decide +kernel
theorem dX11_tells_129 : decode cX11_tells 129 = .ok (.getfield 54, 3) := by decide +kernel
theorem dX11_tells_132 : decode cX11_tells 132 = .ok (.iload 5, 2) := by decide +kernel
theorem dX11_tells_134 : decode cX11_tells 134 = .ok (.invokevirtual 216, 3) := by decide +kernel
theorem dX11_tells_137 : decode cX11_tells 137 = .ok (.ireturn, 1) := by decide +kernel
theorem dX11_tells_138 : decode cX11_tells 138 = .ok (.iload_n 3, 1) := by decide +kernel
theorem dX11_tells_139 : decode cX11_tells 139 = .ok (.iconst 2, 1) := by decide +kernel
theorem dX11_tells_140 : decode cX11_tells 140 = .ok (.if_icmp .ne 17, 3) := by decide +kernel
theorem dX11_tells_143 : decode cX11_tells 143 = .ok (.aload_n 0, 1) := by decide +kernel
theorem dX11_tells_144 : decode cX11_tells 144 = .ok (.getfield 61, 3) := by decide +kernel
theorem dX11_tells_147 : decode cX11_tells 147 = .ok (.aload_n 0, 1) := by decide +kernel
theorem dX11_tells_148 : decode cX11_tells 148 = .ok (.getfield 54, 3) := by decide +kernel
theorem dX11_tells_151 : decode cX11_tells 151 = .ok (.iload 6, 2) := by decide +kernel
theorem dX11_tells_153 : decode cX11_tells 153 = .ok (.invokevirtual 216, 3) := by decide +kernel
theorem dX11_tells_156 : decode cX11_tells 156 = .ok (.ireturn, 1) := by decide +kernel
theorem dX11_tells_157 : decode cX11_tells 157 = .ok (.aload_n 0, 1) := by decide +kernel
theorem dX11_tells_158 : decode cX11_tells 158 = .ok (.getfield 61, 3) := by decide +kernel
theorem dX11_tells_161 : decode cX11_tells 161 = .ok (.iconst 0, 1) := by decide +kernel
theorem dX11_tells_162 : decode cX11_tells 162 = .ok (.iload 5, 2) := by decide +kernel
theorem dX11_tells_164 : decode cX11_tells 164 = .ok (.invokevirtual 220, 3) := by decide +kernel
theorem dX11_tells_167 : decode cX11_tells 167 = .ok (.aload_n 0, 1) := by decide +kernel
theorem dX11_tells_168 : decode cX11_tells 168 = .ok (.getfield 61, 3) := by decide +kernel
theorem dX11_tells_171 : decode cX11_tells 171 = .ok (.iconst 0, 1) := by decide +kernel
theorem dX11_tells_172 : decode cX11_tells 172 = .ok (.iload 6, 2) := by decide +kernel
theorem dX11_tells_174 : decode cX11_tells 174 = .ok (.invokevirtual 220, 3) := by decide +kernel
theorem dX11_tells_177 : decode cX11_tells 177 = .ok (.invokestatic 224, 3) := by decide +kernel
theorem dX11_tells_180 : decode cX11_tells 180 = .ok (.istore 7, 2) := by decide +kernel
theorem dX11_tells_182 : decode cX11_tells 182 = .ok (.iload 7, 2) := by decide +kernel
theorem dX11_tells_184 : decode cX11_tells 184 = .ok (.bipush 99, 2) := by decide +kernel
theorem dX11_tells_186 : decode cX11_tells 186 = .ok (.if_icmp .ne 7, 3) := by decide +kernel
theorem dX11_tells_189 : decode cX11_tells 189 = .ok (.iconst (-1), 1) := by decide +kernel
theorem dX11_tells_190 : decode cX11_tells 190 = .ok (.goto 5, 3) := by decide +kernel
theorem dX11_tells_193 : decode cX11_tells 193 = .ok (.iload 7, 2) := by decide +kernel
theorem dX11_tells_195 : decode cX11_tells 195 = .ok (.ireturn, 1) := by decide +kernel
theorem dX11_which_0 : decode cX11_which 0 = .ok (.iload_n 1, 1) := by decide +kernel
theorem dX11_which_1 : decode cX11_which 1 = .ok (.iload_n 2, 1) := by decide +kernel
theorem dX11_which_2 : decode cX11_which 2 = .ok (.iload_n 3, 1) := by decide +kernel
theorem dX11_which_3 : decode cX11_which 3 = .ok (.invokestatic 229, 3) := by decide +kernel
theorem dX11_which_6 : decode cX11_which 6 = .ok (.ifCond .ne 10, 3) := by decide +kernel
theorem dX11_which_9 : decode cX11_which 9 = .ok (.aload_n 0, 1) := by decide +kernel
theorem dX11_which_10 : decode cX11_which 10 = .ok (.bipush (-2), 2) := by decide +kernel
theorem dX11_which_12 : decode cX11_which 12 = .ok (.invokevirtual 72, 3) := by decide +kernel
theorem dX11_which_15 : decode cX11_which 15 = .ok (.ireturn, 1) := by decide +kernel
theorem dX11_which_16 : decode cX11_which 16 = .ok (.iconst 0, 1) := by decide +kernel
theorem dX11_which_17 : decode cX11_which 17 = .ok (.istore 4, 2) := by decide +kernel
theorem dX11_which_19 : decode cX11_which 19 = .ok (.iconst 0, 1) := by decide +kernel
theorem dX11_which_20 : decode cX11_which 20 = .ok (.istore 5, 2) := by decide +kernel
theorem dX11_which_22 : decode cX11_which 22 = .ok (.iload 5, 2) := by decide +kernel
theorem dX11_which_24 : decode cX11_which 24 = .ok (.aload_n 0, 1) := by decide +kernel
theorem dX11_which_25 : decode cX11_which 25 = .ok (.getfield 12, 3) := by decide +kernel
theorem dX11_which_28 : decode cX11_which 28 = .ok (.getfield 155, 3) := by decide +kernel
theorem dX11_which_31 : decode cX11_which 31 = .ok (.if_icmp .ge 46, 3) := by decide +kernel
theorem dX11_which_34 : decode cX11_which 34 = .ok (.aload_n 0, 1) := by decide +kernel
theorem dX11_which_35 : decode cX11_which 35 = .ok (.getfield 12, 3) := by decide +kernel
theorem dX11_which_38 : decode cX11_which 38 = .ok (.iload 5, 2) := by decide +kernel
theorem dX11_which_40 : decode cX11_which 40 = .ok (.invokevirtual 158, 3) := by decide +kernel
theorem dX11_which_43 : decode cX11_which 43 = .ok (.astore 6, 2) := by decide +kernel
theorem dX11_which_45 : decode cX11_which 45 = .ok (.aload 6, 2) := by decide +kernel
theorem dX11_which_47 : decode cX11_which 47 = .ok (.ifnull 24, 3) := by decide +kernel
theorem dX11_which_50 : decode cX11_which 50 = .ok (.aload_n 0, 1) := by decide +kernel
theorem dX11_which_51 : decode cX11_which 51 = .ok (.aload 6, 2) := by decide +kernel
theorem dX11_which_53 : decode cX11_which 53 = .ok (.iload_n 1, 1) := by decide +kernel
theorem dX11_which_54 : decode cX11_which 54 = .ok (.iload_n 2, 1) := by decide +kernel
theorem dX11_which_55 : decode cX11_which 55 = .ok (.iload_n 3, 1) := by decide +kernel
theorem dX11_which_56 : decode cX11_which 56 = .ok (.invokevirtual 233, 3) := by decide +kernel
theorem dX11_which_59 : decode cX11_which 59 = .ok (.ifCond .eq 12, 3) := by decide +kernel
theorem dX11_which_62 : decode cX11_which 62 = .ok (.iload 4, 2) := by decide +kernel
theorem dX11_which_64 : decode cX11_which 64 = .ok (.iconst 1, 1) := by decide +kernel
theorem dX11_which_65 : decode cX11_which 65 = .ok (.iload 5, 2) := by decide +kernel
theorem dX11_which_67 : decode cX11_which 67 = .ok (.ishl, 1) := by decide +kernel
theorem dX11_which_68 : decode cX11_which 68 = .ok (.ior, 1) := by decide +kernel
theorem dX11_which_69 : decode cX11_which 69 = .ok (.istore 4, 2) := by decide +kernel
theorem dX11_which_71 : decode cX11_which 71 = .ok (.iinc 5 1, 3) := by decide +kernel
theorem dX11_which_74 : decode cX11_which 74 = .ok (.goto (-52), 3) := by decide +kernel
theorem dX11_which_77 : decode cX11_which 77 = .ok (.iload 4, 2) := by decide +kernel
theorem dX11_which_79 : decode cX11_which 79 = .ok (.ireturn, 1) := by decide +kernel
theorem dX11_starts_0 : decode cX11_starts 0 = .ok (.aload_n 0, 1) := by decide +kernel
theorem dX11_starts_1 : decode cX11_starts 1 = .ok (.getfield 12, 3) := by decide +kernel
theorem dX11_starts_4 : decode cX11_starts 4 = .ok (.iload_n 1, 1) := by decide +kernel
theorem dX11_starts_5 : decode cX11_starts 5 = .ok (.invokevirtual 158, 3) := by decide +kernel
theorem dX11_starts_8 : decode cX11_starts 8 = .ok (.astore 5, 2) := by decide +kernel
theorem dX11_starts_10 : decode cX11_starts 10 = .ok (.aload 5, 2) := by decide +kernel
theorem dX11_starts_12 : decode cX11_starts 12 = .ok (.ifnull 13, 3) := by decide +kernel
theorem dX11_starts_15 : decode cX11_starts 15 = .ok (.iload_n 2, 1) := by decide +kernel
theorem dX11_starts_16 : decode cX11_starts 16 = .ok (.iload_n 3, 1) := by decide +kernel
