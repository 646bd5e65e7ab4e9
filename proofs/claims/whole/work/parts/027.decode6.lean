theorem dX12_tells_163 : decode cX12_tells 163 = .ok (.goto 27, 3) := by decide +kernel
theorem dX12_tells_166 : decode cX12_tells 166 = .ok (.aload_n 0, 1) := by decide +kernel
theorem dX12_tells_167 : decode cX12_tells 167 = .ok (.iload_n 1, 1) := by decide +kernel
theorem dX12_tells_168 : decode cX12_tells 168 = .ok (.iload 6, 2) := by decide +kernel
theorem dX12_tells_170 : decode cX12_tells 170 = .ok (.iconst 0, 1) := by decide +kernel
theorem dX12_tells_171 : decode cX12_tells 171 = .ok (.iconst 0, 1) := by decide +kernel
theorem dX12_tells_172 : decode cX12_tells 172 = .ok (.invokevirtual 196, 3) := by decide +kernel
theorem dX12_tells_175 : decode cX12_tells 175 = .ok (.aload_n 0, 1) := by decide +kernel
theorem dX12_tells_176 : decode cX12_tells 176 = .ok (.getfield 42, 3) := by decide +kernel
theorem dX12_tells_179 : decode cX12_tells 179 = .ok (.iload 6, 2) := by decide +kernel
theorem dX12_tells_181 : decode cX12_tells 181 = .ok (.iaload, 1) := by decide +kernel
theorem dX12_tells_182 : decode cX12_tells 182 = .ok (.if_icmp .ne 7, 3) := by decide +kernel
theorem dX12_tells_185 : decode cX12_tells 185 = .ok (.iconst 0, 1) := by decide +kernel
theorem dX12_tells_186 : decode cX12_tells 186 = .ok (.goto 4, 3) := by decide +kernel
theorem dX12_tells_189 : decode cX12_tells 189 = .ok (.iconst 1, 1) := by decide +kernel
theorem dX12_tells_190 : decode cX12_tells 190 = .ok (.ireturn, 1) := by decide +kernel
theorem dX12_heard_0 : decode cX12_heard 0 = .ok (.iload_n 2, 1) := by decide +kernel
theorem dX12_heard_1 : decode cX12_heard 1 = .ok (.istore 6, 2) := by decide +kernel
theorem dX12_heard_3 : decode cX12_heard 3 = .ok (.iconst 1, 1) := by decide +kernel
theorem dX12_heard_4 : decode cX12_heard 4 = .ok (.istore 7, 2) := by decide +kernel
theorem dX12_heard_6 : decode cX12_heard 6 = .ok (.iconst 0, 1) := by decide +kernel
theorem dX12_heard_7 : decode cX12_heard 7 = .ok (.istore 8, 2) := by decide +kernel
theorem dX12_heard_9 : decode cX12_heard 9 = .ok (.iload 8, 2) := by decide +kernel
theorem dX12_heard_11 : decode cX12_heard 11 = .ok (.iload 4, 2) := by decide +kernel
theorem dX12_heard_13 : decode cX12_heard 13 = .ok (.if_icmp .ge 59, 3) := by decide +kernel
theorem dX12_heard_16 : decode cX12_heard 16 = .ok (.aload_n 0, 1) := by decide +kernel
theorem dX12_heard_17 : decode cX12_heard 17 = .ok (.iload_n 1, 1) := by decide +kernel
theorem dX12_heard_18 : decode cX12_heard 18 = .ok (.iload 6, 2) := by decide +kernel
theorem dX12_heard_20 : decode cX12_heard 20 = .ok (.iload_n 3, 1) := by decide +kernel
theorem dX12_heard_21 : decode cX12_heard 21 = .ok (.iload 8, 2) := by decide +kernel
theorem dX12_heard_23 : decode cX12_heard 23 = .ok (.ishr, 1) := by decide +kernel
theorem dX12_heard_24 : decode cX12_heard 24 = .ok (.iconst 1, 1) := by decide +kernel
theorem dX12_heard_25 : decode cX12_heard 25 = .ok (.iand, 1) := by decide +kernel
theorem dX12_heard_26 : decode cX12_heard 26 = .ok (.iload 8, 2) := by decide +kernel
theorem dX12_heard_28 : decode cX12_heard 28 = .ok (.invokevirtual 143, 3) := by decide +kernel
theorem dX12_heard_31 : decode cX12_heard 31 = .ok (.istore 6, 2) := by decide +kernel
theorem dX12_heard_33 : decode cX12_heard 33 = .ok (.iload 7, 2) := by decide +kernel
theorem dX12_heard_35 : decode cX12_heard 35 = .ok (.ifCond .eq 28, 3) := by decide +kernel
theorem dX12_heard_38 : decode cX12_heard 38 = .ok (.aload_n 0, 1) := by decide +kernel
theorem dX12_heard_39 : decode cX12_heard 39 = .ok (.getfield 7, 3) := by decide +kernel
theorem dX12_heard_42 : decode cX12_heard 42 = .ok (.iconst 3, 1) := by decide +kernel
theorem dX12_heard_43 : decode cX12_heard 43 = .ok (.iaload, 1) := by decide +kernel
theorem dX12_heard_44 : decode cX12_heard 44 = .ok (.iload 6, 2) := by decide +kernel
theorem dX12_heard_46 : decode cX12_heard 46 = .ok (.ishr, 1) := by decide +kernel
theorem dX12_heard_47 : decode cX12_heard 47 = .ok (.iconst 1, 1) := by decide +kernel
theorem dX12_heard_48 : decode cX12_heard 48 = .ok (.iand, 1) := by decide +kernel
theorem dX12_heard_49 : decode cX12_heard 49 = .ok (.iload 5, 2) := by decide +kernel
theorem dX12_heard_51 : decode cX12_heard 51 = .ok (.iload 8, 2) := by decide +kernel
theorem dX12_heard_53 : decode cX12_heard 53 = .ok (.ishr, 1) := by decide +kernel
theorem dX12_heard_54 : decode cX12_heard 54 = .ok (.iconst 1, 1) := by decide +kernel
theorem dX12_heard_55 : decode cX12_heard 55 = .ok (.iand, 1) := by decide +kernel
theorem dX12_heard_56 : decode cX12_heard 56 = .ok (.if_icmp .ne 7, 3) := by decide +kernel
theorem dX12_heard_59 : decode cX12_heard 59 = .ok (.iconst 1, 1) := by decide +kernel
theorem dX12_heard_60 : decode cX12_heard 60 = .ok (.goto 4, 3) := by decide +kernel
theorem dX12_heard_63 : decode cX12_heard 63 = .ok (.iconst 0, 1) := by decide +kernel
theorem dX12_heard_64 : decode cX12_heard 64 = .ok (.istore 7, 2) := by decide +kernel
theorem dX12_heard_66 : decode cX12_heard 66 = .ok (.iinc 8 1, 3) := by decide +kernel
theorem dX12_heard_69 : decode cX12_heard 69 = .ok (.goto (-60), 3) := by decide +kernel
theorem dX12_heard_72 : decode cX12_heard 72 = .ok (.iload 7, 2) := by decide +kernel
theorem dX12_heard_74 : decode cX12_heard 74 = .ok (.ireturn, 1) := by decide +kernel
theorem dX12_begins_0 : decode cX12_begins 0 = .ok (.iconst 0, 1) := by decide +kernel
theorem dX12_begins_1 : decode cX12_begins 1 = .ok (.istore 5, 2) := by decide +kernel
theorem dX12_begins_3 : decode cX12_begins 3 = .ok (.iconst 0, 1) := by decide +kernel
theorem dX12_begins_4 : decode cX12_begins 4 = .ok (.istore 6, 2) := by decide +kernel
theorem dX12_begins_6 : decode cX12_begins 6 = .ok (.iload 6, 2) := by decide +kernel
theorem dX12_begins_8 : decode cX12_begins 8 = .ok (.aload_n 0, 1) := by decide +kernel
theorem dX12_begins_9 : decode cX12_begins 9 = .ok (.getfield 7, 3) := by decide +kernel
theorem dX12_begins_12 : decode cX12_begins 12 = .ok (.iconst 0, 1) := by decide +kernel
theorem dX12_begins_13 : decode cX12_begins 13 = .ok (.iaload, 1) := by decide +kernel
theorem dX12_begins_14 : decode cX12_begins 14 = .ok (.if_icmp .ge 36, 3) := by decide +kernel
theorem dX12_begins_17 : decode cX12_begins 17 = .ok (.iload 5, 2) := by decide +kernel
theorem dX12_begins_19 : decode cX12_begins 19 = .ok (.aload_n 0, 1) := by decide +kernel
theorem dX12_begins_20 : decode cX12_begins 20 = .ok (.iload_n 1, 1) := by decide +kernel
theorem dX12_begins_21 : decode cX12_begins 21 = .ok (.iload 6, 2) := by decide +kernel
theorem dX12_begins_23 : decode cX12_begins 23 = .ok (.iload_n 2, 1) := by decide +kernel
theorem dX12_begins_24 : decode cX12_begins 24 = .ok (.iload_n 3, 1) := by decide +kernel
theorem dX12_begins_25 : decode cX12_begins 25 = .ok (.iload 4, 2) := by decide +kernel
theorem dX12_begins_27 : decode cX12_begins 27 = .ok (.invokevirtual 203, 3) := by decide +kernel
theorem dX12_begins_30 : decode cX12_begins 30 = .ok (.ifCond .eq 10, 3) := by decide +kernel
theorem dX12_begins_33 : decode cX12_begins 33 = .ok (.iconst 1, 1) := by decide +kernel
theorem dX12_begins_34 : decode cX12_begins 34 = .ok (.iload 6, 2) := by decide +kernel
theorem dX12_begins_36 : decode cX12_begins 36 = .ok (.ishl, 1) := by decide +kernel
theorem dX12_begins_37 : decode cX12_begins 37 = .ok (.goto 4, 3) := by decide +kernel
theorem dX12_begins_40 : decode cX12_begins 40 = .ok (.iconst 0, 1) := by decide +kernel
theorem dX12_begins_41 : decode cX12_begins 41 = .ok (.ior, 1) := by decide +kernel
theorem dX12_begins_42 : decode cX12_begins 42 = .ok (.istore 5, 2) := by decide +kernel
theorem dX12_begins_44 : decode cX12_begins 44 = .ok (.iinc 6 1, 3) := by decide +kernel
theorem dX12_begins_47 : decode cX12_begins 47 = .ok (.goto (-41), 3) := by decide +kernel
theorem dX12_begins_50 : decode cX12_begins 50 = .ok (.iload 5, 2) := by decide +kernel
theorem dX12_begins_52 : decode cX12_begins 52 = .ok (.ireturn, 1) := by decide +kernel
theorem dX12_which_0 : decode cX12_which 0 = .ok (.iload_n 2, 1) := by decide +kernel
theorem dX12_which_1 : decode cX12_which 1 = .ok (.iconst 1, 1) := by decide +kernel
theorem dX12_which_2 : decode cX12_which 2 = .ok (.bipush 16, 2) := by decide +kernel
theorem dX12_which_4 : decode cX12_which 4 = .ok (.invokestatic 57, 3) := by decide +kernel
theorem dX12_which_7 : decode cX12_which 7 = .ok (.ifCond .eq 21, 3) := by decide +kernel
theorem dX12_which_10 : decode cX12_which 10 = .ok (.aload_n 0, 1) := by decide +kernel
theorem dX12_which_11 : decode cX12_which 11 = .ok (.iload_n 1, 1) := by decide +kernel
theorem dX12_which_12 : decode cX12_which 12 = .ok (.iload_n 2, 1) := by decide +kernel
theorem dX12_which_13 : decode cX12_which 13 = .ok (.invokevirtual 147, 3) := by decide +kernel
theorem dX12_which_16 : decode cX12_which 16 = .ok (.ifCond .eq 12, 3) := by decide +kernel
theorem dX12_which_19 : decode cX12_which 19 = .ok (.aload_n 0, 1) := by decide +kernel
theorem dX12_which_20 : decode cX12_which 20 = .ok (.iload_n 3, 1) := by decide +kernel
theorem dX12_which_21 : decode cX12_which 21 = .ok (.iload_n 2, 1) := by decide +kernel
theorem dX12_which_22 : decode cX12_which 22 = .ok (.invokevirtual 147, 3) := by decide +kernel
theorem dX12_which_25 : decode cX12_which 25 = .ok (.ifCond .ne 8, 3) := by decide +kernel
theorem dX12_which_28 : decode cX12_which 28 = .ok (.aload_n 0, 1) := by decide +kernel
theorem dX12_which_29 : decode cX12_which 29 = .ok (.invokevirtual 61, 3) := by decide +kernel
theorem dX12_which_32 : decode cX12_which 32 = .ok (.ireturn, 1) := by decide +kernel
theorem dX12_which_33 : decode cX12_which 33 = .ok (.iconst 0, 1) := by decide +kernel
theorem dX12_which_34 : decode cX12_which 34 = .ok (.istore 4, 2) := by decide +kernel
theorem dX12_which_36 : decode cX12_which 36 = .ok (.iconst 0, 1) := by decide +kernel
theorem dX12_which_37 : decode cX12_which 37 = .ok (.istore 5, 2) := by decide +kernel
theorem dX12_which_39 : decode cX12_which 39 = .ok (.iload 5, 2) := by decide +kernel
theorem dX12_which_41 : decode cX12_which 41 = .ok (.aload_n 0, 1) := by decide +kernel
theorem dX12_which_42 : decode cX12_which 42 = .ok (.getfield 7, 3) := by decide +kernel
theorem dX12_which_45 : decode cX12_which 45 = .ok (.bipush 6, 2) := by decide +kernel
theorem dX12_which_47 : decode cX12_which 47 = .ok (.iaload, 1) := by decide +kernel
theorem dX12_which_48 : decode cX12_which 48 = .ok (.if_icmp .ge 34, 3) := by decide +kernel
theorem dX12_which_51 : decode cX12_which 51 = .ok (.iload 4, 2) := by decide +kernel
theorem dX12_which_53 : decode cX12_which 53 = .ok (.aload_n 0, 1) := by decide +kernel
theorem dX12_which_54 : decode cX12_which 54 = .ok (.iload 5, 2) := by decide +kernel
theorem dX12_which_56 : decode cX12_which 56 = .ok (.iload_n 1, 1) := by decide +kernel
theorem dX12_which_57 : decode cX12_which 57 = .ok (.iload_n 2, 1) := by decide +kernel
theorem dX12_which_58 : decode cX12_which 58 = .ok (.iload_n 3, 1) := by decide +kernel
theorem dX12_which_59 : decode cX12_which 59 = .ok (.invokevirtual 207, 3) := by decide +kernel
theorem dX12_which_62 : decode cX12_which 62 = .ok (.ifCond .eq 10, 3) := by decide +kernel
theorem dX12_which_65 : decode cX12_which 65 = .ok (.iconst 1, 1) := by decide +kernel
theorem dX12_which_66 : decode cX12_which 66 = .ok (.iload 5, 2) := by decide +kernel
theorem dX12_which_68 : decode cX12_which 68 = .ok (.ishl, 1) := by decide +kernel
theorem dX12_which_69 : decode cX12_which 69 = .ok (.goto 4, 3) := by decide +kernel
theorem dX12_which_72 : decode cX12_which 72 = .ok (.iconst 0, 1) := by decide +kernel
theorem dX12_which_73 : decode cX12_which 73 = .ok (.ior, 1) := by decide +kernel
theorem dX12_which_74 : decode cX12_which 74 = .ok (.istore 4, 2) := by decide +kernel
theorem dX12_which_76 : decode cX12_which 76 = .ok (.iinc 5 1, 3) := by decide +kernel
theorem dX12_which_79 : decode cX12_which 79 = .ok (.goto (-40), 3) := by decide +kernel
theorem dX12_which_82 : decode cX12_which 82 = .ok (.iload 4, 2) := by decide +kernel
theorem dX12_which_84 : decode cX12_which 84 = .ok (.ireturn, 1) := by decide +kernel
theorem dX12_starts_0 : decode cX12_starts 0 = .ok (.aload_n 0, 1) := by decide +kernel
theorem dX12_starts_1 : decode cX12_starts 1 = .ok (.iload_n 1, 1) := by decide +kernel
theorem dX12_starts_2 : decode cX12_starts 2 = .ok (.invokevirtual 140, 3) := by decide +kernel
theorem dX12_starts_5 : decode cX12_starts 5 = .ok (.ifCond .eq 44, 3) := by decide +kernel
theorem dX12_starts_8 : decode cX12_starts 8 = .ok (.iload_n 3, 1) := by decide +kernel
theorem dX12_starts_9 : decode cX12_starts 9 = .ok (.iconst 1, 1) := by decide +kernel
theorem dX12_starts_10 : decode cX12_starts 10 = .ok (.bipush 16, 2) := by decide +kernel
theorem dX12_starts_12 : decode cX12_starts 12 = .ok (.invokestatic 57, 3) := by decide +kernel
theorem dX12_starts_15 : decode cX12_starts 15 = .ok (.ifCond .eq 34, 3) := by decide +kernel
theorem dX12_starts_18 : decode cX12_starts 18 = .ok (.aload_n 0, 1) := by decide +kernel
theorem dX12_starts_19 : decode cX12_starts 19 = .ok (.iload_n 2, 1) := by decide +kernel
theorem dX12_starts_20 : decode cX12_starts 20 = .ok (.iload_n 3, 1) := by decide +kernel
theorem dX12_starts_21 : decode cX12_starts 21 = .ok (.invokevirtual 147, 3) := by decide +kernel
theorem dX12_starts_24 : decode cX12_starts 24 = .ok (.ifCond .eq 25, 3) := by decide +kernel
theorem dX12_starts_27 : decode cX12_starts 27 = .ok (.aload_n 0, 1) := by decide +kernel
theorem dX12_starts_28 : decode cX12_starts 28 = .ok (.iload 4, 2) := by decide +kernel
theorem dX12_starts_30 : decode cX12_starts 30 = .ok (.iload_n 3, 1) := by decide +kernel
theorem dX12_starts_31 : decode cX12_starts 31 = .ok (.invokevirtual 147, 3) := by decide +kernel
theorem dX12_starts_34 : decode cX12_starts 34 = .ok (.ifCond .eq 15, 3) := by decide +kernel
theorem dX12_starts_37 : decode cX12_starts 37 = .ok (.aload_n 0, 1) := by decide +kernel
theorem dX12_starts_38 : decode cX12_starts 38 = .ok (.iload_n 1, 1) := by decide +kernel
theorem dX12_starts_39 : decode cX12_starts 39 = .ok (.iload_n 2, 1) := by decide +kernel
theorem dX12_starts_40 : decode cX12_starts 40 = .ok (.iload_n 3, 1) := by decide +kernel
theorem dX12_starts_41 : decode cX12_starts 41 = .ok (.iload 4, 2) := by decide +kernel
theorem dX12_starts_43 : decode cX12_starts 43 = .ok (.invokevirtual 207, 3) := by decide +kernel
theorem dX12_starts_46 : decode cX12_starts 46 = .ok (.goto 7, 3) := by decide +kernel
theorem dX12_starts_49 : decode cX12_starts 49 = .ok (.aload_n 0, 1) := by decide +kernel
theorem dX12_starts_50 : decode cX12_starts 50 = .ok (.invokevirtual 61, 3) := by decide +kernel
theorem dX12_starts_53 : decode cX12_starts 53 = .ok (.ireturn, 1) := by decide +kernel
theorem dX12_drawn_0 : decode cX12_drawn 0 = .ok (.aload_n 0, 1) := by decide +kernel
theorem dX12_drawn_1 : decode cX12_drawn 1 = .ok (.iload_n 1, 1) := by decide +kernel
theorem dX12_drawn_2 : decode cX12_drawn 2 = .ok (.invokevirtual 140, 3) := by decide +kernel
theorem dX12_drawn_5 : decode cX12_drawn 5 = .ok (.ifCond .eq 23, 3) := by decide +kernel
theorem dX12_drawn_8 : decode cX12_drawn 8 = .ok (.iload_n 2, 1) := by decide +kernel
theorem dX12_drawn_9 : decode cX12_drawn 9 = .ok (.iconst 0, 1) := by decide +kernel
theorem dX12_drawn_10 : decode cX12_drawn 10 = .ok (.bipush 12, 2) := by decide +kernel
theorem dX12_drawn_12 : decode cX12_drawn 12 = .ok (.invokestatic 57, 3) := by decide +kernel
theorem dX12_drawn_15 : decode cX12_drawn 15 = .ok (.ifCond .eq 13, 3) := by decide +kernel
theorem dX12_drawn_18 : decode cX12_drawn 18 = .ok (.iload_n 3, 1) := by decide +kernel
theorem dX12_drawn_19 : decode cX12_drawn 19 = .ok (.iconst 0, 1) := by decide +kernel
theorem dX12_drawn_20 : decode cX12_drawn 20 = .ok (.bipush 10, 2) := by decide +kernel
theorem dX12_drawn_22 : decode cX12_drawn 22 = .ok (.invokestatic 57, 3) := by decide +kernel
theorem dX12_drawn_25 : decode cX12_drawn 25 = .ok (.ifCond .ne 8, 3) := by decide +kernel
theorem dX12_drawn_28 : decode cX12_drawn 28 = .ok (.aload_n 0, 1) := by decide +kernel
theorem dX12_drawn_29 : decode cX12_drawn 29 = .ok (.invokevirtual 61, 3) := by decide +kernel
theorem dX12_drawn_32 : decode cX12_drawn 32 = .ok (.ireturn, 1) := by decide +kernel
theorem dX12_drawn_33 : decode cX12_drawn 33 = .ok (.iconst 0, 1) := by decide +kernel
theorem dX12_drawn_34 : decode cX12_drawn 34 = .ok (.istore 4, 2) := by decide +kernel
theorem dX12_drawn_36 : decode cX12_drawn 36 = .ok (.iload 4, 2) := by decide +kernel
theorem dX12_drawn_38 : decode cX12_drawn 38 = .ok (.iconst 5, 1) := by decide +kernel
theorem dX12_drawn_39 : decode cX12_drawn 39 = .ok (.if_icmp .ge 38, 3) := by decide +kernel
theorem dX12_drawn_42 : decode cX12_drawn 42 = .ok (.aload_n 0, 1) := by decide +kernel
theorem dX12_drawn_43 : decode cX12_drawn 43 = .ok (.getfield 45, 3) := by decide +kernel
theorem dX12_drawn_46 : decode cX12_drawn 46 = .ok (.iconst 5, 1) := by decide +kernel
theorem dX12_drawn_47 : decode cX12_drawn 47 = .ok (.iload_n 2, 1) := by decide +kernel
theorem dX12_drawn_48 : decode cX12_drawn 48 = .ok (.iconst 2, 1) := by decide +kernel
theorem dX12_drawn_49 : decode cX12_drawn 49 = .ok (.irem, 1) := by decide +kernel
theorem dX12_drawn_50 : decode cX12_drawn 50 = .ok (.imul, 1) := by decide +kernel
theorem dX12_drawn_51 : decode cX12_drawn 51 = .ok (.iload 4, 2) := by decide +kernel
theorem dX12_drawn_53 : decode cX12_drawn 53 = .ok (.iadd, 1) := by decide +kernel
theorem dX12_drawn_54 : decode cX12_drawn 54 = .ok (.iload 4, 2) := by decide +kernel
theorem dX12_drawn_56 : decode cX12_drawn 56 = .ok (.aload_n 0, 1) := by decide +kernel
theorem dX12_drawn_57 : decode cX12_drawn 57 = .ok (.getfield 7, 3) := by decide +kernel
theorem dX12_drawn_60 : decode cX12_drawn 60 = .ok (.iconst 2, 1) := by decide +kernel
theorem dX12_drawn_61 : decode cX12_drawn 61 = .ok (.iaload, 1) := by decide +kernel
theorem dX12_drawn_62 : decode cX12_drawn 62 = .ok (.if_icmp .ne 7, 3) := by decide +kernel
theorem dX12_drawn_65 : decode cX12_drawn 65 = .ok (.lconst 1, 1) := by decide +kernel
theorem dX12_drawn_66 : decode cX12_drawn 66 = .ok (.goto 4, 3) := by decide +kernel
theorem dX12_drawn_69 : decode cX12_drawn 69 = .ok (.lconst 0, 1) := by decide +kernel
theorem dX12_drawn_70 : decode cX12_drawn 70 = .ok (.lastore, 1) := by decide +kernel
theorem dX12_drawn_71 : decode cX12_drawn 71 = .ok (.iinc 4 1, 3) := by decide +kernel
theorem dX12_drawn_74 : decode cX12_drawn 74 = .ok (.goto (-38), 3) := by decide +kernel
theorem dX12_drawn_77 : decode cX12_drawn 77 = .ok (.aload_n 0, 1) := by decide +kernel
theorem dX12_drawn_78 : decode cX12_drawn 78 = .ok (.getfield 7, 3) := by decide +kernel
theorem dX12_drawn_81 : decode cX12_drawn 81 = .ok (.iconst 0, 1) := by decide +kernel
theorem dX12_drawn_82 : decode cX12_drawn 82 = .ok (.iaload, 1) := by decide +kernel
theorem dX12_drawn_83 : decode cX12_drawn 83 = .ok (.i2l, 1) := by decide +kernel
theorem dX12_drawn_84 : decode cX12_drawn 84 = .ok (.lstore 4, 2) := by decide +kernel
theorem dX12_drawn_86 : decode cX12_drawn 86 = .ok (.iload_n 2, 1) := by decide +kernel
theorem dX12_drawn_87 : decode cX12_drawn 87 = .ok (.iconst 1, 1) := by decide +kernel
theorem dX12_drawn_88 : decode cX12_drawn 88 = .ok (.isub, 1) := by decide +kernel
theorem dX12_drawn_89 : decode cX12_drawn 89 = .ok (.istore 6, 2) := by decide +kernel
theorem dX12_drawn_91 : decode cX12_drawn 91 = .ok (.iload 6, 2) := by decide +kernel
theorem dX12_drawn_93 : decode cX12_drawn 93 = .ok (.ifCond .lt 107, 3) := by decide +kernel
theorem dX12_drawn_96 : decode cX12_drawn 96 = .ok (.iconst 5, 1) := by decide +kernel
theorem dX12_drawn_97 : decode cX12_drawn 97 = .ok (.iload 6, 2) := by decide +kernel
theorem dX12_drawn_99 : decode cX12_drawn 99 = .ok (.iconst 1, 1) := by decide +kernel
theorem dX12_drawn_100 : decode cX12_drawn 100 = .ok (.iadd, 1) := by decide +kernel
theorem dX12_drawn_101 : decode cX12_drawn 101 = .ok (.iconst 2, 1) := by decide +kernel
theorem dX12_drawn_102 : decode cX12_drawn 102 = .ok (.irem, 1) := by decide +kernel
theorem dX12_drawn_103 : decode cX12_drawn 103 = .ok (.imul, 1) := by decide +kernel
theorem dX12_drawn_104 : decode cX12_drawn 104 = .ok (.istore 7, 2) := by decide +kernel
theorem dX12_drawn_106 : decode cX12_drawn 106 = .ok (.iconst 0, 1) := by decide +kernel
theorem dX12_drawn_107 : decode cX12_drawn 107 = .ok (.istore 8, 2) := by decide +kernel
theorem dX12_drawn_109 : decode cX12_drawn 109 = .ok (.iload 8, 2) := by decide +kernel
theorem dX12_drawn_111 : decode cX12_drawn 111 = .ok (.aload_n 0, 1) := by decide +kernel
theorem dX12_drawn_112 : decode cX12_drawn 112 = .ok (.getfield 7, 3) := by decide +kernel
theorem dX12_drawn_115 : decode cX12_drawn 115 = .ok (.iconst 0, 1) := by decide +kernel
theorem dX12_drawn_116 : decode cX12_drawn 116 = .ok (.iaload, 1) := by decide +kernel
theorem dX12_drawn_117 : decode cX12_drawn 117 = .ok (.if_icmp .ge 69, 3) := by decide +kernel
theorem dX12_drawn_120 : decode cX12_drawn 120 = .ok (.aload_n 0, 1) := by decide +kernel
theorem dX12_drawn_121 : decode cX12_drawn 121 = .ok (.getfield 45, 3) := by decide +kernel
theorem dX12_drawn_124 : decode cX12_drawn 124 = .ok (.iconst 5, 1) := by decide +kernel
theorem dX12_drawn_125 : decode cX12_drawn 125 = .ok (.iload 6, 2) := by decide +kernel
theorem dX12_drawn_127 : decode cX12_drawn 127 = .ok (.iconst 2, 1) := by decide +kernel
theorem dX12_drawn_128 : decode cX12_drawn 128 = .ok (.irem, 1) := by decide +kernel
theorem dX12_drawn_129 : decode cX12_drawn 129 = .ok (.imul, 1) := by decide +kernel
theorem dX12_drawn_130 : decode cX12_drawn 130 = .ok (.iload 8, 2) := by decide +kernel
theorem dX12_drawn_132 : decode cX12_drawn 132 = .ok (.iadd, 1) := by decide +kernel
theorem dX12_drawn_133 : decode cX12_drawn 133 = .ok (.iload_n 3, 1) := by decide +kernel
theorem dX12_drawn_134 : decode cX12_drawn 134 = .ok (.i2l, 1) := by decide +kernel
theorem dX12_drawn_135 : decode cX12_drawn 135 = .ok (.aload_n 0, 1) := by decide +kernel
theorem dX12_drawn_136 : decode cX12_drawn 136 = .ok (.getfield 45, 3) := by decide +kernel
theorem dX12_drawn_139 : decode cX12_drawn 139 = .ok (.iload 7, 2) := by decide +kernel
theorem dX12_drawn_141 : decode cX12_drawn 141 = .ok (.aload_n 0, 1) := by decide +kernel
theorem dX12_drawn_142 : decode cX12_drawn 142 = .ok (.iload_n 1, 1) := by decide +kernel
theorem dX12_drawn_143 : decode cX12_drawn 143 = .ok (.iload 8, 2) := by decide +kernel
theorem dX12_drawn_145 : decode cX12_drawn 145 = .ok (.iconst 1, 1) := by decide +kernel
theorem dX12_drawn_146 : decode cX12_drawn 146 = .ok (.iload 6, 2) := by decide +kernel
theorem dX12_drawn_148 : decode cX12_drawn 148 = .ok (.invokevirtual 143, 3) := by decide +kernel
theorem dX12_drawn_151 : decode cX12_drawn 151 = .ok (.iadd, 1) := by decide +kernel
theorem dX12_drawn_152 : decode cX12_drawn 152 = .ok (.laload, 1) := by decide +kernel
theorem dX12_drawn_153 : decode cX12_drawn 153 = .ok (.lmul, 1) := by decide +kernel
theorem dX12_drawn_154 : decode cX12_drawn 154 = .ok (.bipush 10, 2) := by decide +kernel
theorem dX12_drawn_156 : decode cX12_drawn 156 = .ok (.iload_n 3, 1) := by decide +kernel
theorem dX12_drawn_157 : decode cX12_drawn 157 = .ok (.isub, 1) := by decide +kernel
theorem dX12_drawn_158 : decode cX12_drawn 158 = .ok (.i2l, 1) := by decide +kernel
theorem dX12_drawn_159 : decode cX12_drawn 159 = .ok (.aload_n 0, 1) := by decide +kernel
theorem dX12_drawn_160 : decode cX12_drawn 160 = .ok (.getfield 45, 3) := by decide +kernel
theorem dX12_drawn_163 : decode cX12_drawn 163 = .ok (.iload 7, 2) := by decide +kernel
theorem dX12_drawn_165 : decode cX12_drawn 165 = .ok (.aload_n 0, 1) := by decide +kernel
theorem dX12_drawn_166 : decode cX12_drawn 166 = .ok (.iload_n 1, 1) := by decide +kernel
theorem dX12_drawn_167 : decode cX12_drawn 167 = .ok (.iload 8, 2) := by decide +kernel
theorem dX12_drawn_169 : decode cX12_drawn 169 = .ok (.iconst 0, 1) := by decide +kernel
theorem dX12_drawn_170 : decode cX12_drawn 170 = .ok (.iload 6, 2) := by decide +kernel
theorem dX12_drawn_172 : decode cX12_drawn 172 = .ok (.invokevirtual 143, 3) := by decide +kernel
theorem dX12_drawn_175 : decode cX12_drawn 175 = .ok (.iadd, 1) := by decide +kernel
theorem dX12_drawn_176 : decode cX12_drawn 176 = .ok (.laload, 1) := by decide +kernel
theorem dX12_drawn_177 : decode cX12_drawn 177 = .ok (.lmul, 1) := by decide +kernel
theorem dX12_drawn_178 : decode cX12_drawn 178 = .ok (.ladd, 1) := by decide +kernel
theorem dX12_drawn_179 : decode cX12_drawn 179 = .ok (.lastore, 1) := by decide +kernel
theorem dX12_drawn_180 : decode cX12_drawn 180 = .ok (.iinc 8 1, 3) := by decide +kernel
theorem dX12_drawn_183 : decode cX12_drawn 183 = .ok (.goto (-74), 3) := by decide +kernel
theorem dX12_drawn_186 : decode cX12_drawn 186 = .ok (.lload 4, 2) := by decide +kernel
theorem dX12_drawn_188 : decode cX12_drawn 188 = .ok (.ldc2_w 210, 3) := by decide +kernel
theorem dX12_drawn_191 : decode cX12_drawn 191 = .ok (.lmul, 1) := by decide +kernel
theorem dX12_drawn_192 : decode cX12_drawn 192 = .ok (.lstore 4, 2) := by decide +kernel
theorem dX12_drawn_194 : decode cX12_drawn 194 = .ok (.iinc 6 (-1), 3) := by decide +kernel
theorem dX12_drawn_197 : decode cX12_drawn 197 = .ok (.goto (-106), 3) := by decide +kernel
theorem dX12_drawn_200 : decode cX12_drawn 200 = .ok (.lconst 0, 1) := by decide +kernel
theorem dX12_drawn_201 : decode cX12_drawn 201 = .ok (.lstore 6, 2) := by decide +kernel
theorem dX12_drawn_203 : decode cX12_drawn 203 = .ok (.iconst 0, 1) := by decide +kernel
theorem dX12_drawn_204 : decode cX12_drawn 204 = .ok (.istore 8, 2) := by decide +kernel
theorem dX12_drawn_206 : decode cX12_drawn 206 = .ok (.iload 8, 2) := by decide +kernel
theorem dX12_drawn_208 : decode cX12_drawn 208 = .ok (.aload_n 0, 1) := by decide +kernel
theorem dX12_drawn_209 : decode cX12_drawn 209 = .ok (.getfield 7, 3) := by decide +kernel
theorem dX12_drawn_212 : decode cX12_drawn 212 = .ok (.iconst 0, 1) := by decide +kernel
theorem dX12_drawn_213 : decode cX12_drawn 213 = .ok (.iaload, 1) := by decide +kernel
theorem dX12_drawn_214 : decode cX12_drawn 214 = .ok (.if_icmp .ge 21, 3) := by decide +kernel
theorem dX12_drawn_217 : decode cX12_drawn 217 = .ok (.lload 6, 2) := by decide +kernel
theorem dX12_drawn_219 : decode cX12_drawn 219 = .ok (.aload_n 0, 1) := by decide +kernel
theorem dX12_drawn_220 : decode cX12_drawn 220 = .ok (.getfield 45, 3) := by decide +kernel
theorem dX12_drawn_223 : decode cX12_drawn 223 = .ok (.iload 8, 2) := by decide +kernel
theorem dX12_drawn_225 : decode cX12_drawn 225 = .ok (.laload, 1) := by decide +kernel
theorem dX12_drawn_226 : decode cX12_drawn 226 = .ok (.ladd, 1) := by decide +kernel
theorem dX12_drawn_227 : decode cX12_drawn 227 = .ok (.lstore 6, 2) := by decide +kernel
theorem dX12_drawn_229 : decode cX12_drawn 229 = .ok (.iinc 8 1, 3) := by decide +kernel
theorem dX12_drawn_232 : decode cX12_drawn 232 = .ok (.goto (-26), 3) := by decide +kernel
theorem dX12_drawn_235 : decode cX12_drawn 235 = .ok (.lload 6, 2) := by decide +kernel
theorem dX12_drawn_237 : decode cX12_drawn 237 = .ok (.lstore 8, 2) := by decide +kernel
theorem dX12_drawn_239 : decode cX12_drawn 239 = .ok (.lload 4, 2) := by decide +kernel
theorem dX12_drawn_241 : decode cX12_drawn 241 = .ok (.lstore 10, 2) := by decide +kernel
theorem dX12_drawn_243 : decode cX12_drawn 243 = .ok (.lload 8, 2) := by decide +kernel
theorem dX12_drawn_245 : decode cX12_drawn 245 = .ok (.lconst 0, 1) := by decide +kernel
theorem dX12_drawn_246 : decode cX12_drawn 246 = .ok (.lcmp, 1) := by decide +kernel
theorem dX12_drawn_247 : decode cX12_drawn 247 = .ok (.ifCond .eq 21, 3) := by decide +kernel
theorem dX12_drawn_250 : decode cX12_drawn 250 = .ok (.lload 10, 2) := by decide +kernel
theorem dX12_drawn_252 : decode cX12_drawn 252 = .ok (.lload 8, 2) := by decide +kernel
theorem dX12_drawn_254 : decode cX12_drawn 254 = .ok (.lrem, 1) := by decide +kernel
theorem dX12_drawn_255 : decode cX12_drawn 255 = .ok (.lstore 12, 2) := by decide +kernel
theorem dX12_drawn_257 : decode cX12_drawn 257 = .ok (.lload 8, 2) := by decide +kernel
theorem dX12_drawn_259 : decode cX12_drawn 259 = .ok (.lstore 10, 2) := by decide +kernel
theorem dX12_drawn_261 : decode cX12_drawn 261 = .ok (.lload 12, 2) := by decide +kernel
theorem dX12_drawn_263 : decode cX12_drawn 263 = .ok (.lstore 8, 2) := by decide +kernel
theorem dX12_drawn_265 : decode cX12_drawn 265 = .ok (.goto (-22), 3) := by decide +kernel
theorem dX12_drawn_268 : decode cX12_drawn 268 = .ok (.aload_n 0, 1) := by decide +kernel
theorem dX12_drawn_269 : decode cX12_drawn 269 = .ok (.lload 6, 2) := by decide +kernel
theorem dX12_drawn_271 : decode cX12_drawn 271 = .ok (.lload 10, 2) := by decide +kernel
theorem dX12_drawn_273 : decode cX12_drawn 273 = .ok (.ldiv, 1) := by decide +kernel
theorem dX12_drawn_274 : decode cX12_drawn 274 = .ok (.putfield 212, 3) := by decide +kernel
theorem dX12_drawn_277 : decode cX12_drawn 277 = .ok (.aload_n 0, 1) := by decide +kernel
theorem dX12_drawn_278 : decode cX12_drawn 278 = .ok (.lload 4, 2) := by decide +kernel
theorem dX12_drawn_280 : decode cX12_drawn 280 = .ok (.lload 10, 2) := by decide +kernel
theorem dX12_drawn_282 : decode cX12_drawn 282 = .ok (.ldiv, 1) := by decide +kernel
theorem dX12_drawn_283 : decode cX12_drawn 283 = .ok (.putfield 49, 3) := by decide +kernel
theorem dX12_drawn_286 : decode cX12_drawn 286 = .ok (.iconst 1, 1) := by decide +kernel
theorem dX12_drawn_287 : decode cX12_drawn 287 = .ok (.ireturn, 1) := by decide +kernel
theorem dX12_part_0 : decode cX12_part 0 = .ok (.iload_n 1, 1) := by decide +kernel
theorem dX12_part_1 : decode cX12_part 1 = .ok (.ifCond .ne 10, 3) := by decide +kernel
theorem dX12_part_4 : decode cX12_part 4 = .ok (.aload_n 0, 1) := by decide +kernel
theorem dX12_part_5 : decode cX12_part 5 = .ok (.getfield 212, 3) := by decide +kernel
theorem dX12_part_8 : decode cX12_part 8 = .ok (.goto 20, 3) := by decide +kernel
theorem dX12_part_11 : decode cX12_part 11 = .ok (.iload_n 1, 1) := by decide +kernel
theorem dX12_part_12 : decode cX12_part 12 = .ok (.iconst 1, 1) := by decide +kernel
theorem dX12_part_13 : decode cX12_part 13 = .ok (.if_icmp .ne 10, 3) := by decide +kernel
theorem dX12_part_16 : decode cX12_part 16 = .ok (.aload_n 0, 1) := by decide +kernel
theorem dX12_part_17 : decode cX12_part 17 = .ok (.getfield 49, 3) := by decide +kernel
theorem dX12_part_20 : decode cX12_part 20 = .ok (.goto 8, 3) := by decide +kernel
theorem dX12_part_23 : decode cX12_part 23 = .ok (.aload_n 0, 1) := by decide +kernel
theorem dX12_part_24 : decode cX12_part 24 = .ok (.invokevirtual 61, 3) := by decide +kernel
theorem dX12_part_27 : decode cX12_part 27 = .ok (.i2l, 1) := by decide +kernel
theorem dX12_part_28 : decode cX12_part 28 = .ok (.lreturn, 1) := by decide +kernel
theorem dX12_image_0 : decode cX12_image 0 = .ok (.iload_n 1, 1) := by decide +kernel
theorem dX12_image_1 : decode cX12_image 1 = .ok (.iconst 0, 1) := by decide +kernel
theorem dX12_image_2 : decode cX12_image 2 = .ok (.iconst 1, 1) := by decide +kernel
theorem dX12_image_3 : decode cX12_image 3 = .ok (.invokestatic 57, 3) := by decide +kernel
theorem dX12_image_6 : decode cX12_image 6 = .ok (.ifCond .ne 8, 3) := by decide +kernel
theorem dX12_image_9 : decode cX12_image 9 = .ok (.aload_n 0, 1) := by decide +kernel
theorem dX12_image_10 : decode cX12_image 10 = .ok (.invokevirtual 61, 3) := by decide +kernel
theorem dX12_image_13 : decode cX12_image 13 = .ok (.ireturn, 1) := by decide +kernel
theorem dX12_image_14 : decode cX12_image 14 = .ok (.iconst 0, 1) := by decide +kernel
theorem dX12_image_15 : decode cX12_image 15 = .ok (.istore_n 2, 1) := by decide +kernel
theorem dX12_image_16 : decode cX12_image 16 = .ok (.iload_n 2, 1) := by decide +kernel
theorem dX12_image_17 : decode cX12_image 17 = .ok (.bipush 25, 2) := by decide +kernel
theorem dX12_image_19 : decode cX12_image 19 = .ok (.if_icmp .ge 26, 3) := by decide +kernel
theorem dX12_image_22 : decode cX12_image 22 = .ok (.aload_n 0, 1) := by decide +kernel
theorem dX12_image_23 : decode cX12_image 23 = .ok (.getfield 16, 3) := by decide +kernel
theorem dX12_image_26 : decode cX12_image 26 = .ok (.bipush 25, 2) := by decide +kernel
theorem dX12_image_28 : decode cX12_image 28 = .ok (.iload_n 1, 1) := by decide +kernel
theorem dX12_image_29 : decode cX12_image 29 = .ok (.imul, 1) := by decide +kernel
theorem dX12_image_30 : decode cX12_image 30 = .ok (.iload_n 2, 1) := by decide +kernel
theorem dX12_image_31 : decode cX12_image 31 = .ok (.iadd, 1) := by decide +kernel
theorem dX12_image_32 : decode cX12_image 32 = .ok (.aload_n 0, 1) := by decide +kernel
theorem dX12_image_33 : decode cX12_image 33 = .ok (.getfield 7, 3) := by decide +kernel
theorem dX12_image_36 : decode cX12_image 36 = .ok (.iload_n 2, 1) := by decide +kernel
theorem dX12_image_37 : decode cX12_image 37 = .ok (.iaload, 1) := by decide +kernel
theorem dX12_image_38 : decode cX12_image 38 = .ok (.iastore, 1) := by decide +kernel
theorem dX12_image_39 : decode cX12_image 39 = .ok (.iinc 2 1, 3) := by decide +kernel
theorem dX12_image_42 : decode cX12_image 42 = .ok (.goto (-26), 3) := by decide +kernel
theorem dX12_image_45 : decode cX12_image 45 = .ok (.aload_n 0, 1) := by decide +kernel
theorem dX12_image_46 : decode cX12_image 46 = .ok (.getfield 19, 3) := by decide +kernel
theorem dX12_image_49 : decode cX12_image 49 = .ok (.iload_n 1, 1) := by decide +kernel
theorem dX12_image_50 : decode cX12_image 50 = .ok (.iconst 1, 1) := by decide +kernel
theorem dX12_image_51 : decode cX12_image 51 = .ok (.bastore, 1) := by decide +kernel
theorem dX12_image_52 : decode cX12_image 52 = .ok (.iconst 1, 1) := by decide +kernel
theorem dX12_image_53 : decode cX12_image 53 = .ok (.ireturn, 1) := by decide +kernel
theorem dX12_from_0 : decode cX12_from 0 = .ok (.iload_n 1, 1) := by decide +kernel
theorem dX12_from_1 : decode cX12_from 1 = .ok (.iconst 0, 1) := by decide +kernel
theorem dX12_from_2 : decode cX12_from 2 = .ok (.iconst 1, 1) := by decide +kernel
theorem dX12_from_3 : decode cX12_from 3 = .ok (.invokestatic 57, 3) := by decide +kernel
theorem dX12_from_6 : decode cX12_from 6 = .ok (.ifCond .ne 8, 3) := by decide +kernel
theorem dX12_from_9 : decode cX12_from 9 = .ok (.aload_n 0, 1) := by decide +kernel
theorem dX12_from_10 : decode cX12_from 10 = .ok (.invokevirtual 61, 3) := by decide +kernel
theorem dX12_from_13 : decode cX12_from 13 = .ok (.ireturn, 1) := by decide +kernel
theorem dX12_from_14 : decode cX12_from 14 = .ok (.aload_n 0, 1) := by decide +kernel
theorem dX12_from_15 : decode cX12_from 15 = .ok (.getfield 19, 3) := by decide +kernel
theorem dX12_from_18 : decode cX12_from 18 = .ok (.iload_n 1, 1) := by decide +kernel
theorem dX12_from_19 : decode cX12_from 19 = .ok (.baload, 1) := by decide +kernel
theorem dX12_from_20 : decode cX12_from 20 = .ok (.ifCond .ne 11, 3) := by decide +kernel
theorem dX12_from_23 : decode cX12_from 23 = .ok (.aload_n 0, 1) := by decide +kernel
theorem dX12_from_24 : decode cX12_from 24 = .ok (.iconst 1, 1) := by decide +kernel
theorem dX12_from_25 : decode cX12_from 25 = .ok (.bipush (-3), 2) := by decide +kernel
theorem dX12_from_27 : decode cX12_from 27 = .ok (.invokevirtual 53, 3) := by decide +kernel
theorem dX12_from_30 : decode cX12_from 30 = .ok (.ireturn, 1) := by decide +kernel
theorem dX12_from_31 : decode cX12_from 31 = .ok (.iconst 0, 1) := by decide +kernel
theorem dX12_from_32 : decode cX12_from 32 = .ok (.istore_n 2, 1) := by decide +kernel
theorem dX12_from_33 : decode cX12_from 33 = .ok (.iload_n 2, 1) := by decide +kernel
theorem dX12_from_34 : decode cX12_from 34 = .ok (.bipush 25, 2) := by decide +kernel
theorem dX12_from_36 : decode cX12_from 36 = .ok (.if_icmp .ge 26, 3) := by decide +kernel
theorem dX12_from_39 : decode cX12_from 39 = .ok (.aload_n 0, 1) := by decide +kernel
theorem dX12_from_40 : decode cX12_from 40 = .ok (.getfield 7, 3) := by decide +kernel
theorem dX12_from_43 : decode cX12_from 43 = .ok (.iload_n 2, 1) := by decide +kernel
theorem dX12_from_44 : decode cX12_from 44 = .ok (.aload_n 0, 1) := by decide +kernel
theorem dX12_from_45 : decode cX12_from 45 = .ok (.getfield 16, 3) := by decide +kernel
theorem dX12_from_48 : decode cX12_from 48 = .ok (.bipush 25, 2) := by decide +kernel
theorem dX12_from_50 : decode cX12_from 50 = .ok (.iload_n 1, 1) := by decide +kernel
theorem dX12_from_51 : decode cX12_from 51 = .ok (.imul, 1) := by decide +kernel
theorem dX12_from_52 : decode cX12_from 52 = .ok (.iload_n 2, 1) := by decide +kernel
theorem dX12_from_53 : decode cX12_from 53 = .ok (.iadd, 1) := by decide +kernel
theorem dX12_from_54 : decode cX12_from 54 = .ok (.iaload, 1) := by decide +kernel
theorem dX12_from_55 : decode cX12_from 55 = .ok (.iastore, 1) := by decide +kernel
theorem dX12_from_56 : decode cX12_from 56 = .ok (.iinc 2 1, 3) := by decide +kernel
theorem dX12_from_59 : decode cX12_from 59 = .ok (.goto (-26), 3) := by decide +kernel
theorem dX12_from_62 : decode cX12_from 62 = .ok (.iconst 1, 1) := by decide +kernel
theorem dX12_from_63 : decode cX12_from 63 = .ok (.ireturn, 1) := by decide +kernel
theorem dX12_status_0 : decode cX12_status 0 = .ok (.iload_n 1, 1) := by decide +kernel
theorem dX12_status_1 : decode cX12_status 1 = .ok (.iconst 0, 1) := by decide +kernel
theorem dX12_status_2 : decode cX12_status 2 = .ok (.iconst 2, 1) := by decide +kernel
theorem dX12_status_3 : decode cX12_status 3 = .ok (.invokestatic 57, 3) := by decide +kernel
theorem dX12_status_6 : decode cX12_status 6 = .ok (.ifCond .eq 12, 3) := by decide +kernel
theorem dX12_status_9 : decode cX12_status 9 = .ok (.aload_n 0, 1) := by decide +kernel
theorem dX12_status_10 : decode cX12_status 10 = .ok (.getfield 26, 3) := by decide +kernel
theorem dX12_status_13 : decode cX12_status 13 = .ok (.iload_n 1, 1) := by decide +kernel
theorem dX12_status_14 : decode cX12_status 14 = .ok (.iaload, 1) := by decide +kernel
theorem dX12_status_15 : decode cX12_status 15 = .ok (.goto 9, 3) := by decide +kernel
theorem dX12_status_18 : decode cX12_status 18 = .ok (.aload_n 0, 1) := by decide +kernel
theorem dX12_status_19 : decode cX12_status 19 = .ok (.iconst 0, 1) := by decide +kernel
theorem dX12_status_20 : decode cX12_status 20 = .ok (.iconst (-1), 1) := by decide +kernel
theorem dX12_status_21 : decode cX12_status 21 = .ok (.invokevirtual 53, 3) := by decide +kernel
theorem dX12_status_24 : decode cX12_status 24 = .ok (.ireturn, 1) := by decide +kernel
theorem dX12_counted_0 : decode cX12_counted 0 = .ok (.iload_n 1, 1) := by decide +kernel
theorem dX12_counted_1 : decode cX12_counted 1 = .ok (.ifCond .ne 12, 3) := by decide +kernel
theorem dX12_counted_4 : decode cX12_counted 4 = .ok (.aload_n 0, 1) := by decide +kernel
theorem dX12_counted_5 : decode cX12_counted 5 = .ok (.getfield 7, 3) := by decide +kernel
theorem dX12_counted_8 : decode cX12_counted 8 = .ok (.iconst 0, 1) := by decide +kernel
theorem dX12_counted_9 : decode cX12_counted 9 = .ok (.iaload, 1) := by decide +kernel
theorem dX12_counted_10 : decode cX12_counted 10 = .ok (.goto 39, 3) := by decide +kernel
theorem dX12_counted_13 : decode cX12_counted 13 = .ok (.iload_n 1, 1) := by decide +kernel
theorem dX12_counted_14 : decode cX12_counted 14 = .ok (.iconst 1, 1) := by decide +kernel
theorem dX12_counted_15 : decode cX12_counted 15 = .ok (.if_icmp .ne 13, 3) := by decide +kernel
theorem dX12_counted_18 : decode cX12_counted 18 = .ok (.aload_n 0, 1) := by decide +kernel
theorem dX12_counted_19 : decode cX12_counted 19 = .ok (.getfield 7, 3) := by decide +kernel
theorem dX12_counted_22 : decode cX12_counted 22 = .ok (.bipush 6, 2) := by decide +kernel
theorem dX12_counted_24 : decode cX12_counted 24 = .ok (.iaload, 1) := by decide +kernel
theorem dX12_counted_25 : decode cX12_counted 25 = .ok (.goto 24, 3) := by decide +kernel
theorem dX12_counted_28 : decode cX12_counted 28 = .ok (.iload_n 1, 1) := by decide +kernel
theorem dX12_counted_29 : decode cX12_counted 29 = .ok (.iconst 2, 1) := by decide +kernel
theorem dX12_counted_30 : decode cX12_counted 30 = .ok (.if_icmp .ne 15, 3) := by decide +kernel
theorem dX12_counted_33 : decode cX12_counted 33 = .ok (.aload_n 0, 1) := by decide +kernel
theorem dX12_counted_34 : decode cX12_counted 34 = .ok (.getfield 7, 3) := by decide +kernel
theorem dX12_counted_37 : decode cX12_counted 37 = .ok (.iconst 1, 1) := by decide +kernel
theorem dX12_counted_38 : decode cX12_counted 38 = .ok (.iaload, 1) := by decide +kernel
theorem dX12_counted_39 : decode cX12_counted 39 = .ok (.invokestatic 193, 3) := by decide +kernel
theorem dX12_counted_42 : decode cX12_counted 42 = .ok (.goto 7, 3) := by decide +kernel
theorem dX12_counted_45 : decode cX12_counted 45 = .ok (.aload_n 0, 1) := by decide +kernel
theorem dX12_counted_46 : decode cX12_counted 46 = .ok (.getfield 76, 3) := by decide +kernel
theorem dX12_counted_49 : decode cX12_counted 49 = .ok (.ireturn, 1) := by decide +kernel
theorem dX12_count_0 : decode cX12_count 0 = .ok (.iload_n 1, 1) := by decide +kernel
theorem dX12_count_1 : decode cX12_count 1 = .ok (.iconst 0, 1) := by decide +kernel
theorem dX12_count_2 : decode cX12_count 2 = .ok (.iconst 3, 1) := by decide +kernel
theorem dX12_count_3 : decode cX12_count 3 = .ok (.invokestatic 57, 3) := by decide +kernel
theorem dX12_count_6 : decode cX12_count 6 = .ok (.ifCond .eq 11, 3) := by decide +kernel
theorem dX12_count_9 : decode cX12_count 9 = .ok (.aload_n 0, 1) := by decide +kernel
theorem dX12_count_10 : decode cX12_count 10 = .ok (.iload_n 1, 1) := by decide +kernel
theorem dX12_count_11 : decode cX12_count 11 = .ok (.invokevirtual 215, 3) := by decide +kernel
theorem dX12_count_14 : decode cX12_count 14 = .ok (.goto 7, 3) := by decide +kernel
theorem dX12_count_17 : decode cX12_count 17 = .ok (.aload_n 0, 1) := by decide +kernel
theorem dX12_count_18 : decode cX12_count 18 = .ok (.invokevirtual 61, 3) := by decide +kernel
theorem dX12_count_21 : decode cX12_count 21 = .ok (.ireturn, 1) := by decide +kernel
theorem dX12_digest_0 : decode cX12_digest 0 = .ok (.ldc2_w 218, 3) := by decide +kernel
theorem dX12_digest_3 : decode cX12_digest 3 = .ok (.lstore_n 1, 1) := by decide +kernel
theorem dX12_digest_4 : decode cX12_digest 4 = .ok (.iconst 0, 1) := by decide +kernel
theorem dX12_digest_5 : decode cX12_digest 5 = .ok (.istore_n 3, 1) := by decide +kernel
theorem dX12_digest_6 : decode cX12_digest 6 = .ok (.iload_n 3, 1) := by decide +kernel
theorem dX12_digest_7 : decode cX12_digest 7 = .ok (.iconst 4, 1) := by decide +kernel
theorem dX12_digest_8 : decode cX12_digest 8 = .ok (.if_icmp .ge 22, 3) := by decide +kernel
theorem dX12_digest_11 : decode cX12_digest 11 = .ok (.ldc2_w 220, 3) := by decide +kernel
theorem dX12_digest_14 : decode cX12_digest 14 = .ok (.lload_n 1, 1) := by decide +kernel
theorem dX12_digest_15 : decode cX12_digest 15 = .ok (.lmul, 1) := by decide +kernel
theorem dX12_digest_16 : decode cX12_digest 16 = .ok (.aload_n 0, 1) := by decide +kernel
theorem dX12_digest_17 : decode cX12_digest 17 = .ok (.iload_n 3, 1) := by decide +kernel
theorem dX12_digest_18 : decode cX12_digest 18 = .ok (.invokevirtual 215, 3) := by decide +kernel
theorem dX12_digest_21 : decode cX12_digest 21 = .ok (.i2l, 1) := by decide +kernel
theorem dX12_digest_22 : decode cX12_digest 22 = .ok (.ladd, 1) := by decide +kernel
theorem dX12_digest_23 : decode cX12_digest 23 = .ok (.lstore_n 1, 1) := by decide +kernel
theorem dX12_digest_24 : decode cX12_digest 24 = .ok (.iinc 3 1, 3) := by decide +kernel
theorem dX12_digest_27 : decode cX12_digest 27 = .ok (.goto (-21), 3) := by decide +kernel
theorem dX12_digest_30 : decode cX12_digest 30 = .ok (.iconst 0, 1) := by decide +kernel
theorem dX12_digest_31 : decode cX12_digest 31 = .ok (.istore_n 3, 1) := by decide +kernel
theorem dX12_digest_32 : decode cX12_digest 32 = .ok (.iload_n 3, 1) := by decide +kernel
theorem dX12_digest_33 : decode cX12_digest 33 = .ok (.bipush 6, 2) := by decide +kernel
theorem dX12_digest_35 : decode cX12_digest 35 = .ok (.aload_n 0, 1) := by decide +kernel
theorem dX12_digest_36 : decode cX12_digest 36 = .ok (.getfield 7, 3) := by decide +kernel
theorem dX12_digest_39 : decode cX12_digest 39 = .ok (.bipush 6, 2) := by decide +kernel
theorem dX12_digest_41 : decode cX12_digest 41 = .ok (.iaload, 1) := by decide +kernel
theorem dX12_digest_42 : decode cX12_digest 42 = .ok (.imul, 1) := by decide +kernel
theorem dX12_digest_43 : decode cX12_digest 43 = .ok (.if_icmp .ge 26, 3) := by decide +kernel
theorem dX12_digest_46 : decode cX12_digest 46 = .ok (.ldc2_w 220, 3) := by decide +kernel
theorem dX12_digest_49 : decode cX12_digest 49 = .ok (.lload_n 1, 1) := by decide +kernel
theorem dX12_digest_50 : decode cX12_digest 50 = .ok (.lmul, 1) := by decide +kernel
theorem dX12_digest_51 : decode cX12_digest 51 = .ok (.aload_n 0, 1) := by decide +kernel
theorem dX12_digest_52 : decode cX12_digest 52 = .ok (.getfield 7, 3) := by decide +kernel
theorem dX12_digest_55 : decode cX12_digest 55 = .ok (.bipush 7, 2) := by decide +kernel
theorem dX12_digest_57 : decode cX12_digest 57 = .ok (.iload_n 3, 1) := by decide +kernel
theorem dX12_digest_58 : decode cX12_digest 58 = .ok (.iadd, 1) := by decide +kernel
theorem dX12_digest_59 : decode cX12_digest 59 = .ok (.iaload, 1) := by decide +kernel
theorem dX12_digest_60 : decode cX12_digest 60 = .ok (.i2l, 1) := by decide +kernel
theorem dX12_digest_61 : decode cX12_digest 61 = .ok (.ladd, 1) := by decide +kernel
theorem dX12_digest_62 : decode cX12_digest 62 = .ok (.lstore_n 1, 1) := by decide +kernel
theorem dX12_digest_63 : decode cX12_digest 63 = .ok (.iinc 3 1, 3) := by decide +kernel
theorem dX12_digest_66 : decode cX12_digest 66 = .ok (.goto (-34), 3) := by decide +kernel
theorem dX12_digest_69 : decode cX12_digest 69 = .ok (.iconst 1, 1) := by decide +kernel
theorem dX12_digest_70 : decode cX12_digest 70 = .ok (.istore_n 3, 1) := by decide +kernel
theorem dX12_digest_71 : decode cX12_digest 71 = .ok (.iload_n 3, 1) := by decide +kernel
theorem dX12_digest_72 : decode cX12_digest 72 = .ok (.bipush 6, 2) := by decide +kernel
theorem dX12_digest_74 : decode cX12_digest 74 = .ok (.if_icmp .ge 23, 3) := by decide +kernel
theorem dX12_digest_77 : decode cX12_digest 77 = .ok (.ldc2_w 220, 3) := by decide +kernel
theorem dX12_digest_80 : decode cX12_digest 80 = .ok (.lload_n 1, 1) := by decide +kernel
theorem dX12_digest_81 : decode cX12_digest 81 = .ok (.lmul, 1) := by decide +kernel
theorem dX12_digest_82 : decode cX12_digest 82 = .ok (.aload_n 0, 1) := by decide +kernel
theorem dX12_digest_83 : decode cX12_digest 83 = .ok (.getfield 7, 3) := by decide +kernel
theorem dX12_digest_86 : decode cX12_digest 86 = .ok (.iload_n 3, 1) := by decide +kernel
theorem dX12_digest_87 : decode cX12_digest 87 = .ok (.iaload, 1) := by decide +kernel
theorem dX12_digest_88 : decode cX12_digest 88 = .ok (.i2l, 1) := by decide +kernel
theorem dX12_digest_89 : decode cX12_digest 89 = .ok (.ladd, 1) := by decide +kernel
theorem dX12_digest_90 : decode cX12_digest 90 = .ok (.lstore_n 1, 1) := by decide +kernel
theorem dX12_digest_91 : decode cX12_digest 91 = .ok (.iinc 3 1, 3) := by decide +kernel
theorem dX12_digest_94 : decode cX12_digest 94 = .ok (.goto (-23), 3) := by decide +kernel
theorem dX12_digest_97 : decode cX12_digest 97 = .ok (.ldc2_w 220, 3) := by decide +kernel
theorem dX12_digest_100 : decode cX12_digest 100 = .ok (.lload_n 1, 1) := by decide +kernel
theorem dX12_digest_101 : decode cX12_digest 101 = .ok (.lmul, 1) := by decide +kernel
theorem dX12_digest_102 : decode cX12_digest 102 = .ok (.aload_n 0, 1) := by decide +kernel
theorem dX12_digest_103 : decode cX12_digest 103 = .ok (.getfield 212, 3) := by decide +kernel
theorem dX12_digest_106 : decode cX12_digest 106 = .ok (.ladd, 1) := by decide +kernel
theorem dX12_digest_107 : decode cX12_digest 107 = .ok (.lstore_n 1, 1) := by decide +kernel
theorem dX12_digest_108 : decode cX12_digest 108 = .ok (.ldc2_w 220, 3) := by decide +kernel
theorem dX12_digest_111 : decode cX12_digest 111 = .ok (.lload_n 1, 1) := by decide +kernel
theorem dX12_digest_112 : decode cX12_digest 112 = .ok (.lmul, 1) := by decide +kernel
theorem dX12_digest_113 : decode cX12_digest 113 = .ok (.aload_n 0, 1) := by decide +kernel
theorem dX12_digest_114 : decode cX12_digest 114 = .ok (.getfield 49, 3) := by decide +kernel
theorem dX12_digest_117 : decode cX12_digest 117 = .ok (.ladd, 1) := by decide +kernel
theorem dX12_digest_118 : decode cX12_digest 118 = .ok (.lreturn, 1) := by decide +kernel
theorem dJ6_bitCount_0f7a4_0 : decode cJ6_bitCount_0f7a4 0 = .ok (.iload_n 0, 1) := by decide +kernel
theorem dJ6_bitCount_0f7a4_1 : decode cJ6_bitCount_0f7a4 1 = .ok (.iload_n 0, 1) := by decide +kernel
theorem dJ6_bitCount_0f7a4_2 : decode cJ6_bitCount_0f7a4 2 = .ok (.iconst 1, 1) := by decide +kernel
theorem dJ6_bitCount_0f7a4_3 : decode cJ6_bitCount_0f7a4 3 = .ok (.iushr, 1) := by decide +kernel
theorem dJ6_bitCount_0f7a4_4 : decode cJ6_bitCount_0f7a4 4 = .ok (.ldc_w 265, 3) := by decide +kernel
theorem dJ6_bitCount_0f7a4_7 : decode cJ6_bitCount_0f7a4 7 = .ok (.iand, 1) := by decide +kernel
theorem dJ6_bitCount_0f7a4_8 : decode cJ6_bitCount_0f7a4 8 = .ok (.isub, 1) := by decide +kernel
theorem dJ6_bitCount_0f7a4_9 : decode cJ6_bitCount_0f7a4 9 = .ok (.istore_n 0, 1) := by decide +kernel
theorem dJ6_bitCount_0f7a4_10 : decode cJ6_bitCount_0f7a4 10 = .ok (.iload_n 0, 1) := by decide +kernel
theorem dJ6_bitCount_0f7a4_11 : decode cJ6_bitCount_0f7a4 11 = .ok (.ldc_w 266, 3) := by decide +kernel
theorem dJ6_bitCount_0f7a4_14 : decode cJ6_bitCount_0f7a4 14 = .ok (.iand, 1) := by decide +kernel
theorem dJ6_bitCount_0f7a4_15 : decode cJ6_bitCount_0f7a4 15 = .ok (.iload_n 0, 1) := by decide +kernel
theorem dJ6_bitCount_0f7a4_16 : decode cJ6_bitCount_0f7a4 16 = .ok (.iconst 2, 1) := by decide +kernel
theorem dJ6_bitCount_0f7a4_17 : decode cJ6_bitCount_0f7a4 17 = .ok (.iushr, 1) := by decide +kernel
theorem dJ6_bitCount_0f7a4_18 : decode cJ6_bitCount_0f7a4 18 = .ok (.ldc_w 266, 3) := by decide +kernel
theorem dJ6_bitCount_0f7a4_21 : decode cJ6_bitCount_0f7a4 21 = .ok (.iand, 1) := by decide +kernel
theorem dJ6_bitCount_0f7a4_22 : decode cJ6_bitCount_0f7a4 22 = .ok (.iadd, 1) := by decide +kernel
theorem dJ6_bitCount_0f7a4_23 : decode cJ6_bitCount_0f7a4 23 = .ok (.istore_n 0, 1) := by decide +kernel
theorem dJ6_bitCount_0f7a4_24 : decode cJ6_bitCount_0f7a4 24 = .ok (.iload_n 0, 1) := by decide +kernel
theorem dJ6_bitCount_0f7a4_25 : decode cJ6_bitCount_0f7a4 25 = .ok (.iload_n 0, 1) := by decide +kernel
theorem dJ6_bitCount_0f7a4_26 : decode cJ6_bitCount_0f7a4 26 = .ok (.iconst 4, 1) := by decide +kernel
theorem dJ6_bitCount_0f7a4_27 : decode cJ6_bitCount_0f7a4 27 = .ok (.iushr, 1) := by decide +kernel
theorem dJ6_bitCount_0f7a4_28 : decode cJ6_bitCount_0f7a4 28 = .ok (.iadd, 1) := by decide +kernel
theorem dJ6_bitCount_0f7a4_29 : decode cJ6_bitCount_0f7a4 29 = .ok (.ldc_w 267, 3) := by decide +kernel
theorem dJ6_bitCount_0f7a4_32 : decode cJ6_bitCount_0f7a4 32 = .ok (.iand, 1) := by decide +kernel
theorem dJ6_bitCount_0f7a4_33 : decode cJ6_bitCount_0f7a4 33 = .ok (.istore_n 0, 1) := by decide +kernel
theorem dJ6_bitCount_0f7a4_34 : decode cJ6_bitCount_0f7a4 34 = .ok (.iload_n 0, 1) := by decide +kernel
theorem dJ6_bitCount_0f7a4_35 : decode cJ6_bitCount_0f7a4 35 = .ok (.iload_n 0, 1) := by decide +kernel
theorem dJ6_bitCount_0f7a4_36 : decode cJ6_bitCount_0f7a4 36 = .ok (.bipush 8, 2) := by decide +kernel
theorem dJ6_bitCount_0f7a4_38 : decode cJ6_bitCount_0f7a4 38 = .ok (.iushr, 1) := by decide +kernel
theorem dJ6_bitCount_0f7a4_39 : decode cJ6_bitCount_0f7a4 39 = .ok (.iadd, 1) := by decide +kernel
theorem dJ6_bitCount_0f7a4_40 : decode cJ6_bitCount_0f7a4 40 = .ok (.istore_n 0, 1) := by decide +kernel
theorem dJ6_bitCount_0f7a4_41 : decode cJ6_bitCount_0f7a4 41 = .ok (.iload_n 0, 1) := by decide +kernel
theorem dJ6_bitCount_0f7a4_42 : decode cJ6_bitCount_0f7a4 42 = .ok (.iload_n 0, 1) := by decide +kernel
theorem dJ6_bitCount_0f7a4_43 : decode cJ6_bitCount_0f7a4 43 = .ok (.bipush 16, 2) := by decide +kernel
theorem dJ6_bitCount_0f7a4_45 : decode cJ6_bitCount_0f7a4 45 = .ok (.iushr, 1) := by decide +kernel
theorem dJ6_bitCount_0f7a4_46 : decode cJ6_bitCount_0f7a4 46 = .ok (.iadd, 1) := by decide +kernel
theorem dJ6_bitCount_0f7a4_47 : decode cJ6_bitCount_0f7a4 47 = .ok (.istore_n 0, 1) := by decide +kernel
theorem dJ6_bitCount_0f7a4_48 : decode cJ6_bitCount_0f7a4 48 = .ok (.iload_n 0, 1) := by decide +kernel
theorem dJ6_bitCount_0f7a4_49 : decode cJ6_bitCount_0f7a4 49 = .ok (.bipush 63, 2) := by decide +kernel
theorem dJ6_bitCount_0f7a4_51 : decode cJ6_bitCount_0f7a4 51 = .ok (.iand, 1) := by decide +kernel
theorem dJ6_bitCount_0f7a4_52 : decode cJ6_bitCount_0f7a4 52 = .ok (.ireturn, 1) := by decide +kernel
theorem dJ9_max_7cf53_0 : decode cJ9_max_7cf53 0 = .ok (.iload_n 0, 1) := by decide +kernel
theorem dJ9_max_7cf53_1 : decode cJ9_max_7cf53 1 = .ok (.iload_n 1, 1) := by decide +kernel
theorem dJ9_max_7cf53_2 : decode cJ9_max_7cf53 2 = .ok (.if_icmp .lt 7, 3) := by decide +kernel
theorem dJ9_max_7cf53_5 : decode cJ9_max_7cf53 5 = .ok (.iload_n 0, 1) := by decide +kernel
theorem dJ9_max_7cf53_6 : decode cJ9_max_7cf53 6 = .ok (.goto 4, 3) := by decide +kernel
theorem dJ9_max_7cf53_9 : decode cJ9_max_7cf53 9 = .ok (.iload_n 1, 1) := by decide +kernel
theorem dJ9_max_7cf53_10 : decode cJ9_max_7cf53 10 = .ok (.ireturn, 1) := by decide +kernel
theorem dJ9_min_7cf53_0 : decode cJ9_min_7cf53 0 = .ok (.iload_n 0, 1) := by decide +kernel
theorem dJ9_min_7cf53_1 : decode cJ9_min_7cf53 1 = .ok (.iload_n 1, 1) := by decide +kernel
theorem dJ9_min_7cf53_2 : decode cJ9_min_7cf53 2 = .ok (.if_icmp .gt 7, 3) := by decide +kernel
theorem dJ9_min_7cf53_5 : decode cJ9_min_7cf53 5 = .ok (.iload_n 0, 1) := by decide +kernel
theorem dJ9_min_7cf53_6 : decode cJ9_min_7cf53 6 = .ok (.goto 4, 3) := by decide +kernel
theorem dJ9_min_7cf53_9 : decode cJ9_min_7cf53 9 = .ok (.iload_n 1, 1) := by decide +kernel
theorem dJ9_min_7cf53_10 : decode cJ9_min_7cf53 10 = .ok (.ireturn, 1) := by decide +kernel
theorem dJ0_length_8abf5_0 : decode cJ0_length_8abf5 0 = .ok (.aload_n 0, 1) := by decide +kernel
theorem dJ0_length_8abf5_1 : decode cJ0_length_8abf5 1 = .ok (.getfield 9, 3) := by decide +kernel
theorem dJ0_length_8abf5_4 : decode cJ0_length_8abf5 4 = .ok (.arraylength, 1) := by decide +kernel
theorem dJ0_length_8abf5_5 : decode cJ0_length_8abf5 5 = .ok (.aload_n 0, 1) := by decide +kernel
theorem dJ0_length_8abf5_6 : decode cJ0_length_8abf5 6 = .ok (.invokevirtual 335, 3) := by decide +kernel
theorem dJ0_length_8abf5_9 : decode cJ0_length_8abf5 9 = .ok (.ishr, 1) := by decide +kernel
theorem dJ0_length_8abf5_10 : decode cJ0_length_8abf5 10 = .ok (.ireturn, 1) := by decide +kernel
theorem dJ0_charAt_5068e_0 : decode cJ0_charAt_5068e 0 = .ok (.aload_n 0, 1) := by decide +kernel
theorem dJ0_charAt_5068e_1 : decode cJ0_charAt_5068e 1 = .ok (.invokevirtual 492, 3) := by decide +kernel
theorem dJ0_charAt_5068e_4 : decode cJ0_charAt_5068e 4 = .ok (.ifCond .eq 12, 3) := by decide +kernel
theorem dJ0_charAt_5068e_7 : decode cJ0_charAt_5068e 7 = .ok (.aload_n 0, 1) := by decide +kernel
theorem dJ0_charAt_5068e_8 : decode cJ0_charAt_5068e 8 = .ok (.getfield 9, 3) := by decide +kernel
theorem dJ0_charAt_5068e_11 : decode cJ0_charAt_5068e 11 = .ok (.iload_n 1, 1) := by decide +kernel
theorem dJ0_charAt_5068e_12 : decode cJ0_charAt_5068e 12 = .ok (.invokestatic 495, 3) := by decide +kernel
theorem dJ0_charAt_5068e_15 : decode cJ0_charAt_5068e 15 = .ok (.ireturn, 1) := by decide +kernel
theorem dJ0_charAt_5068e_16 : decode cJ0_charAt_5068e 16 = .ok (.aload_n 0, 1) := by decide +kernel
theorem dJ0_charAt_5068e_17 : decode cJ0_charAt_5068e 17 = .ok (.getfield 9, 3) := by decide +kernel
theorem dJ0_charAt_5068e_20 : decode cJ0_charAt_5068e 20 = .ok (.iload_n 1, 1) := by decide +kernel
theorem dJ0_charAt_5068e_21 : decode cJ0_charAt_5068e 21 = .ok (.invokestatic 498, 3) := by decide +kernel
theorem dJ0_charAt_5068e_24 : decode cJ0_charAt_5068e 24 = .ok (.ireturn, 1) := by decide +kernel
theorem dJ0_coder_7d493_0 : decode cJ0_coder_7d493 0 = .ok (.getstatic 38, 3) := by decide +kernel
theorem dJ0_coder_7d493_3 : decode cJ0_coder_7d493 3 = .ok (.ifCond .eq 10, 3) := by decide +kernel
theorem dJ0_coder_7d493_6 : decode cJ0_coder_7d493 6 = .ok (.aload_n 0, 1) := by decide +kernel
theorem dJ0_coder_7d493_7 : decode cJ0_coder_7d493 7 = .ok (.getfield 15, 3) := by decide +kernel
theorem dJ0_coder_7d493_10 : decode cJ0_coder_7d493 10 = .ok (.goto 4, 3) := by decide +kernel
theorem dJ0_coder_7d493_13 : decode cJ0_coder_7d493 13 = .ok (.iconst 1, 1) := by decide +kernel
theorem dJ0_coder_7d493_14 : decode cJ0_coder_7d493 14 = .ok (.ireturn, 1) := by decide +kernel
theorem dJ0_isLatin1_aae02_0 : decode cJ0_isLatin1_aae02 0 = .ok (.getstatic 38, 3) := by decide +kernel
theorem dJ0_isLatin1_aae02_3 : decode cJ0_isLatin1_aae02 3 = .ok (.ifCond .eq 14, 3) := by decide +kernel
theorem dJ0_isLatin1_aae02_6 : decode cJ0_isLatin1_aae02 6 = .ok (.aload_n 0, 1) := by decide +kernel
theorem dJ0_isLatin1_aae02_7 : decode cJ0_isLatin1_aae02 7 = .ok (.getfield 15, 3) := by decide +kernel
theorem dJ0_isLatin1_aae02_10 : decode cJ0_isLatin1_aae02 10 = .ok (.ifCond .ne 7, 3) := by decide +kernel
theorem dJ0_isLatin1_aae02_13 : decode cJ0_isLatin1_aae02 13 = .ok (.iconst 1, 1) := by decide +kernel
theorem dJ0_isLatin1_aae02_14 : decode cJ0_isLatin1_aae02 14 = .ok (.goto 4, 3) := by decide +kernel
theorem dJ0_isLatin1_aae02_17 : decode cJ0_isLatin1_aae02 17 = .ok (.iconst 0, 1) := by decide +kernel
theorem dJ0_isLatin1_aae02_18 : decode cJ0_isLatin1_aae02 18 = .ok (.ireturn, 1) := by decide +kernel
theorem dJ0_checkIndex_df160_0 : decode cJ0_checkIndex_df160 0 = .ok (.iload_n 0, 1) := by decide +kernel
theorem dJ0_checkIndex_df160_1 : decode cJ0_checkIndex_df160 1 = .ok (.iload_n 1, 1) := by decide +kernel
theorem dJ0_checkIndex_df160_2 : decode cJ0_checkIndex_df160 2 = .ok (.getstatic 1053, 3) := by decide +kernel
theorem dJ0_checkIndex_df160_5 : decode cJ0_checkIndex_df160 5 = .ok (.invokestatic 1059, 3) := by decide +kernel
theorem dJ0_checkIndex_df160_8 : decode cJ0_checkIndex_df160 8 = .ok (.pop, 1) := by decide +kernel
theorem dJ0_checkIndex_df160_9 : decode cJ0_checkIndex_df160 9 = .ok (.return_, 1) := by decide +kernel
theorem dJ1_charAt_3b067_0 : decode cJ1_charAt_3b067 0 = .ok (.iload_n 1, 1) := by decide +kernel
theorem dJ1_charAt_3b067_1 : decode cJ1_charAt_3b067 1 = .ok (.aload_n 0, 1) := by decide +kernel
theorem dJ1_charAt_3b067_2 : decode cJ1_charAt_3b067 2 = .ok (.arraylength, 1) := by decide +kernel
theorem dJ1_charAt_3b067_3 : decode cJ1_charAt_3b067 3 = .ok (.invokestatic 9, 3) := by decide +kernel
theorem dJ1_charAt_3b067_6 : decode cJ1_charAt_3b067 6 = .ok (.aload_n 0, 1) := by decide +kernel
theorem dJ1_charAt_3b067_7 : decode cJ1_charAt_3b067 7 = .ok (.iload_n 1, 1) := by decide +kernel
theorem dJ1_charAt_3b067_8 : decode cJ1_charAt_3b067 8 = .ok (.baload, 1) := by decide +kernel
theorem dJ1_charAt_3b067_9 : decode cJ1_charAt_3b067 9 = .ok (.sipush 255, 3) := by decide +kernel
theorem dJ1_charAt_3b067_12 : decode cJ1_charAt_3b067 12 = .ok (.iand, 1) := by decide +kernel
theorem dJ1_charAt_3b067_13 : decode cJ1_charAt_3b067 13 = .ok (.i2c, 1) := by decide +kernel
theorem dJ1_charAt_3b067_14 : decode cJ1_charAt_3b067 14 = .ok (.ireturn, 1) := by decide +kernel
theorem dJ2_getChar_3b067_0 : decode cJ2_getChar_3b067 0 = .ok (.getstatic 44, 3) := by decide +kernel
theorem dJ2_getChar_3b067_3 : decode cJ2_getChar_3b067 3 = .ok (.ifCond .ne 25, 3) := by decide +kernel
theorem dJ2_getChar_3b067_6 : decode cJ2_getChar_3b067 6 = .ok (.iload_n 1, 1) := by decide +kernel
theorem dJ2_getChar_3b067_7 : decode cJ2_getChar_3b067 7 = .ok (.ifCond .lt 11, 3) := by decide +kernel
theorem dJ2_getChar_3b067_10 : decode cJ2_getChar_3b067 10 = .ok (.iload_n 1, 1) := by decide +kernel
theorem dJ2_getChar_3b067_11 : decode cJ2_getChar_3b067 11 = .ok (.aload_n 0, 1) := by decide +kernel
theorem dJ2_getChar_3b067_12 : decode cJ2_getChar_3b067 12 = .ok (.invokestatic 48, 3) := by decide +kernel
theorem dJ2_getChar_3b067_15 : decode cJ2_getChar_3b067 15 = .ok (.if_icmp .lt 13, 3) := by decide +kernel
theorem dJ2_getChar_3b067_18 : decode cJ2_getChar_3b067 18 = .ok (.new 52, 3) := by decide +kernel
theorem dJ2_getChar_3b067_21 : decode cJ2_getChar_3b067 21 = .ok (.dup, 1) := by decide +kernel
theorem dJ2_getChar_3b067_22 : decode cJ2_getChar_3b067 22 = .ok (.ldc 54, 2) := by decide +kernel
theorem dJ2_getChar_3b067_24 : decode cJ2_getChar_3b067 24 = .ok (.invokespecial 56, 3) := by decide +kernel
theorem dJ2_getChar_3b067_27 : decode cJ2_getChar_3b067 27 = .ok (.athrow, 1) := by decide +kernel
theorem dJ2_getChar_3b067_28 : decode cJ2_getChar_3b067 28 = .ok (.iload_n 1, 1) := by decide +kernel
theorem dJ2_getChar_3b067_29 : decode cJ2_getChar_3b067 29 = .ok (.iconst 1, 1) := by decide +kernel
theorem dJ2_getChar_3b067_30 : decode cJ2_getChar_3b067 30 = .ok (.ishl, 1) := by decide +kernel
theorem dJ2_getChar_3b067_31 : decode cJ2_getChar_3b067 31 = .ok (.istore_n 1, 1) := by decide +kernel
theorem dJ2_getChar_3b067_32 : decode cJ2_getChar_3b067 32 = .ok (.aload_n 0, 1) := by decide +kernel
theorem dJ2_getChar_3b067_33 : decode cJ2_getChar_3b067 33 = .ok (.iload_n 1, 1) := by decide +kernel
theorem dJ2_getChar_3b067_34 : decode cJ2_getChar_3b067 34 = .ok (.iinc 1 1, 3) := by decide +kernel
theorem dJ2_getChar_3b067_37 : decode cJ2_getChar_3b067 37 = .ok (.baload, 1) := by decide +kernel
theorem dJ2_getChar_3b067_38 : decode cJ2_getChar_3b067 38 = .ok (.sipush 255, 3) := by decide +kernel
theorem dJ2_getChar_3b067_41 : decode cJ2_getChar_3b067 41 = .ok (.iand, 1) := by decide +kernel
theorem dJ2_getChar_3b067_42 : decode cJ2_getChar_3b067 42 = .ok (.getstatic 59, 3) := by decide +kernel
theorem dJ2_getChar_3b067_45 : decode cJ2_getChar_3b067 45 = .ok (.ishl, 1) := by decide +kernel
theorem dJ2_getChar_3b067_46 : decode cJ2_getChar_3b067 46 = .ok (.aload_n 0, 1) := by decide +kernel
theorem dJ2_getChar_3b067_47 : decode cJ2_getChar_3b067 47 = .ok (.iload_n 1, 1) := by decide +kernel
theorem dJ2_getChar_3b067_48 : decode cJ2_getChar_3b067 48 = .ok (.baload, 1) := by decide +kernel
theorem dJ2_getChar_3b067_49 : decode cJ2_getChar_3b067 49 = .ok (.sipush 255, 3) := by decide +kernel
theorem dJ2_getChar_3b067_52 : decode cJ2_getChar_3b067 52 = .ok (.iand, 1) := by decide +kernel
theorem dJ2_getChar_3b067_53 : decode cJ2_getChar_3b067 53 = .ok (.getstatic 63, 3) := by decide +kernel
theorem dJ2_getChar_3b067_56 : decode cJ2_getChar_3b067 56 = .ok (.ishl, 1) := by decide +kernel
theorem dJ2_getChar_3b067_57 : decode cJ2_getChar_3b067 57 = .ok (.ior, 1) := by decide +kernel
theorem dJ2_getChar_3b067_58 : decode cJ2_getChar_3b067 58 = .ok (.i2c, 1) := by decide +kernel
theorem dJ2_getChar_3b067_59 : decode cJ2_getChar_3b067 59 = .ok (.ireturn, 1) := by decide +kernel
theorem dJ2_length_9d52b_0 : decode cJ2_length_9d52b 0 = .ok (.aload_n 0, 1) := by decide +kernel
theorem dJ2_length_9d52b_1 : decode cJ2_length_9d52b 1 = .ok (.arraylength, 1) := by decide +kernel
theorem dJ2_length_9d52b_2 : decode cJ2_length_9d52b 2 = .ok (.iconst 1, 1) := by decide +kernel
theorem dJ2_length_9d52b_3 : decode cJ2_length_9d52b 3 = .ok (.ishr, 1) := by decide +kernel
theorem dJ2_length_9d52b_4 : decode cJ2_length_9d52b 4 = .ok (.ireturn, 1) := by decide +kernel
theorem dJ2_charAt_3b067_0 : decode cJ2_charAt_3b067 0 = .ok (.iload_n 1, 1) := by decide +kernel
theorem dJ2_charAt_3b067_1 : decode cJ2_charAt_3b067 1 = .ok (.aload_n 0, 1) := by decide +kernel
theorem dJ2_charAt_3b067_2 : decode cJ2_charAt_3b067 2 = .ok (.invokestatic 67, 3) := by decide +kernel
theorem dJ2_charAt_3b067_5 : decode cJ2_charAt_3b067 5 = .ok (.aload_n 0, 1) := by decide +kernel
theorem dJ2_charAt_3b067_6 : decode cJ2_charAt_3b067 6 = .ok (.iload_n 1, 1) := by decide +kernel
theorem dJ2_charAt_3b067_7 : decode cJ2_charAt_3b067 7 = .ok (.invokestatic 71, 3) := by decide +kernel
theorem dJ2_charAt_3b067_10 : decode cJ2_charAt_3b067 10 = .ok (.ireturn, 1) := by decide +kernel
theorem dJ2_checkIndex_2214a_0 : decode cJ2_checkIndex_2214a 0 = .ok (.iload_n 0, 1) := by decide +kernel
theorem dJ2_checkIndex_2214a_1 : decode cJ2_checkIndex_2214a 1 = .ok (.aload_n 1, 1) := by decide +kernel
theorem dJ2_checkIndex_2214a_2 : decode cJ2_checkIndex_2214a 2 = .ok (.invokestatic 48, 3) := by decide +kernel
theorem dJ2_checkIndex_2214a_5 : decode cJ2_checkIndex_2214a 5 = .ok (.invokestatic 414, 3) := by decide +kernel
theorem dJ2_checkIndex_2214a_8 : decode cJ2_checkIndex_2214a 8 = .ok (.return_, 1) := by decide +kernel
theorem dJ7_fill_d0a16_0 : decode cJ7_fill_d0a16 0 = .ok (.iconst 0, 1) := by decide +kernel
theorem dJ7_fill_d0a16_1 : decode cJ7_fill_d0a16 1 = .ok (.istore_n 3, 1) := by decide +kernel
theorem dJ7_fill_d0a16_2 : decode cJ7_fill_d0a16 2 = .ok (.aload_n 0, 1) := by decide +kernel
theorem dJ7_fill_d0a16_3 : decode cJ7_fill_d0a16 3 = .ok (.arraylength, 1) := by decide +kernel
theorem dJ7_fill_d0a16_4 : decode cJ7_fill_d0a16 4 = .ok (.istore 4, 2) := by decide +kernel
theorem dJ7_fill_d0a16_6 : decode cJ7_fill_d0a16 6 = .ok (.iload_n 3, 1) := by decide +kernel
theorem dJ7_fill_d0a16_7 : decode cJ7_fill_d0a16 7 = .ok (.iload 4, 2) := by decide +kernel
theorem dJ7_fill_d0a16_9 : decode cJ7_fill_d0a16 9 = .ok (.if_icmp .ge 13, 3) := by decide +kernel
theorem dJ7_fill_d0a16_12 : decode cJ7_fill_d0a16 12 = .ok (.aload_n 0, 1) := by decide +kernel
theorem dJ7_fill_d0a16_13 : decode cJ7_fill_d0a16 13 = .ok (.iload_n 3, 1) := by decide +kernel
theorem dJ7_fill_d0a16_14 : decode cJ7_fill_d0a16 14 = .ok (.lload_n 1, 1) := by decide +kernel
theorem dJ7_fill_d0a16_15 : decode cJ7_fill_d0a16 15 = .ok (.lastore, 1) := by decide +kernel
theorem dJ7_fill_d0a16_16 : decode cJ7_fill_d0a16 16 = .ok (.iinc 3 1, 3) := by decide +kernel
theorem dJ7_fill_d0a16_19 : decode cJ7_fill_d0a16 19 = .ok (.goto (-13), 3) := by decide +kernel
theorem dJ7_fill_d0a16_22 : decode cJ7_fill_d0a16 22 = .ok (.return_, 1) := by decide +kernel
theorem dJ7_fill_53178_0 : decode cJ7_fill_53178 0 = .ok (.iconst 0, 1) := by decide +kernel
theorem dJ7_fill_53178_1 : decode cJ7_fill_53178 1 = .ok (.istore_n 2, 1) := by decide +kernel
theorem dJ7_fill_53178_2 : decode cJ7_fill_53178 2 = .ok (.aload_n 0, 1) := by decide +kernel
theorem dJ7_fill_53178_3 : decode cJ7_fill_53178 3 = .ok (.arraylength, 1) := by decide +kernel
theorem dJ7_fill_53178_4 : decode cJ7_fill_53178 4 = .ok (.istore_n 3, 1) := by decide +kernel
theorem dJ7_fill_53178_5 : decode cJ7_fill_53178 5 = .ok (.iload_n 2, 1) := by decide +kernel
theorem dJ7_fill_53178_6 : decode cJ7_fill_53178 6 = .ok (.iload_n 3, 1) := by decide +kernel
theorem dJ7_fill_53178_7 : decode cJ7_fill_53178 7 = .ok (.if_icmp .ge 13, 3) := by decide +kernel
theorem dJ7_fill_53178_10 : decode cJ7_fill_53178 10 = .ok (.aload_n 0, 1) := by decide +kernel
theorem dJ7_fill_53178_11 : decode cJ7_fill_53178 11 = .ok (.iload_n 2, 1) := by decide +kernel
theorem dJ7_fill_53178_12 : decode cJ7_fill_53178 12 = .ok (.iload_n 1, 1) := by decide +kernel
theorem dJ7_fill_53178_13 : decode cJ7_fill_53178 13 = .ok (.iastore, 1) := by decide +kernel
theorem dJ7_fill_53178_14 : decode cJ7_fill_53178 14 = .ok (.iinc 2 1, 3) := by decide +kernel
theorem dJ7_fill_53178_17 : decode cJ7_fill_53178 17 = .ok (.goto (-12), 3) := by decide +kernel
theorem dJ7_fill_53178_20 : decode cJ7_fill_53178 20 = .ok (.return_, 1) := by decide +kernel
theorem dJ7_copyOf_c38d5_0 : decode cJ7_copyOf_c38d5 0 = .ok (.iload_n 1, 1) := by decide +kernel
theorem dJ7_copyOf_c38d5_1 : decode cJ7_copyOf_c38d5 1 = .ok (.aload_n 0, 1) := by decide +kernel
theorem dJ7_copyOf_c38d5_2 : decode cJ7_copyOf_c38d5 2 = .ok (.arraylength, 1) := by decide +kernel
theorem dJ7_copyOf_c38d5_3 : decode cJ7_copyOf_c38d5 3 = .ok (.if_icmp .ne 11, 3) := by decide +kernel
theorem dJ7_copyOf_c38d5_6 : decode cJ7_copyOf_c38d5 6 = .ok (.aload_n 0, 1) := by decide +kernel
theorem dJ7_copyOf_c38d5_7 : decode cJ7_copyOf_c38d5 7 = .ok (.invokevirtual 319, 3) := by decide +kernel
theorem dJ7_copyOf_c38d5_10 : decode cJ7_copyOf_c38d5 10 = .ok (.checkcast 320, 3) := by decide +kernel
theorem dJ7_copyOf_c38d5_13 : decode cJ7_copyOf_c38d5 13 = .ok (.areturn, 1) := by decide +kernel
theorem dJ7_copyOf_c38d5_14 : decode cJ7_copyOf_c38d5 14 = .ok (.iload_n 1, 1) := by decide +kernel
theorem dJ7_copyOf_c38d5_15 : decode cJ7_copyOf_c38d5 15 = .ok (.newarray .long, 2) := by decide +kernel
theorem dJ7_copyOf_c38d5_17 : decode cJ7_copyOf_c38d5 17 = .ok (.astore_n 2, 1) := by decide +kernel
theorem dJ7_copyOf_c38d5_18 : decode cJ7_copyOf_c38d5 18 = .ok (.aload_n 0, 1) := by decide +kernel
theorem dJ7_copyOf_c38d5_19 : decode cJ7_copyOf_c38d5 19 = .ok (.iconst 0, 1) := by decide +kernel
theorem dJ7_copyOf_c38d5_20 : decode cJ7_copyOf_c38d5 20 = .ok (.aload_n 2, 1) := by decide +kernel
theorem dJ7_copyOf_c38d5_21 : decode cJ7_copyOf_c38d5 21 = .ok (.iconst 0, 1) := by decide +kernel
theorem dJ7_copyOf_c38d5_22 : decode cJ7_copyOf_c38d5 22 = .ok (.aload_n 0, 1) := by decide +kernel
theorem dJ7_copyOf_c38d5_23 : decode cJ7_copyOf_c38d5 23 = .ok (.arraylength, 1) := by decide +kernel
theorem dJ7_copyOf_c38d5_24 : decode cJ7_copyOf_c38d5 24 = .ok (.iload_n 1, 1) := by decide +kernel
theorem dJ7_copyOf_c38d5_25 : decode cJ7_copyOf_c38d5 25 = .ok (.invokestatic 304, 3) := by decide +kernel
theorem dJ7_copyOf_c38d5_28 : decode cJ7_copyOf_c38d5 28 = .ok (.invokestatic 150, 3) := by decide +kernel
theorem dJ7_copyOf_c38d5_31 : decode cJ7_copyOf_c38d5 31 = .ok (.aload_n 2, 1) := by decide +kernel
theorem dJ7_copyOf_c38d5_32 : decode cJ7_copyOf_c38d5 32 = .ok (.areturn, 1) := by decide +kernel
theorem dJ3_checkIndex_8e157_0 : decode cJ3_checkIndex_8e157 0 = .ok (.iload_n 0, 1) := by decide +kernel
theorem dJ3_checkIndex_8e157_1 : decode cJ3_checkIndex_8e157 1 = .ok (.ifCond .lt 8, 3) := by decide +kernel
theorem dJ3_checkIndex_8e157_4 : decode cJ3_checkIndex_8e157 4 = .ok (.iload_n 0, 1) := by decide +kernel
theorem dJ3_checkIndex_8e157_5 : decode cJ3_checkIndex_8e157 5 = .ok (.iload_n 1, 1) := by decide +kernel
theorem dJ3_checkIndex_8e157_6 : decode cJ3_checkIndex_8e157 6 = .ok (.if_icmp .lt 10, 3) := by decide +kernel
theorem dJ3_checkIndex_8e157_9 : decode cJ3_checkIndex_8e157 9 = .ok (.aload_n 2, 1) := by decide +kernel
theorem dJ3_checkIndex_8e157_10 : decode cJ3_checkIndex_8e157 10 = .ok (.iload_n 0, 1) := by decide +kernel
theorem dJ3_checkIndex_8e157_11 : decode cJ3_checkIndex_8e157 11 = .ok (.iload_n 1, 1) := by decide +kernel
theorem dJ3_checkIndex_8e157_12 : decode cJ3_checkIndex_8e157 12 = .ok (.invokestatic 95, 3) := by decide +kernel
theorem dJ3_checkIndex_8e157_15 : decode cJ3_checkIndex_8e157 15 = .ok (.athrow, 1) := by decide +kernel
theorem dJ3_checkIndex_8e157_16 : decode cJ3_checkIndex_8e157 16 = .ok (.iload_n 0, 1) := by decide +kernel
theorem dJ3_checkIndex_8e157_17 : decode cJ3_checkIndex_8e157 17 = .ok (.ireturn, 1) := by decide +kernel
theorem dL_law_0 : decode cL_law 0 = .ok (.new 7, 3) := by decide +kernel
theorem dL_law_3 : decode cL_law 3 = .ok (.dup, 1) := by decide +kernel
theorem dL_law_4 : decode cL_law 4 = .ok (.invokespecial 9, 3) := by decide +kernel
theorem dL_law_7 : decode cL_law 7 = .ok (.astore_n 1, 1) := by decide +kernel
theorem dL_law_8 : decode cL_law 8 = .ok (.new 10, 3) := by decide +kernel
theorem dL_law_11 : decode cL_law 11 = .ok (.dup, 1) := by decide +kernel
theorem dL_law_12 : decode cL_law 12 = .ok (.invokespecial 12, 3) := by decide +kernel
theorem dL_law_15 : decode cL_law 15 = .ok (.astore_n 2, 1) := by decide +kernel
theorem dL_law_16 : decode cL_law 16 = .ok (.iconst 0, 1) := by decide +kernel
theorem dL_law_17 : decode cL_law 17 = .ok (.istore_n 3, 1) := by decide +kernel
theorem dL_law_18 : decode cL_law 18 = .ok (.iload_n 3, 1) := by decide +kernel
theorem dL_law_19 : decode cL_law 19 = .ok (.aload_n 0, 1) := by decide +kernel
theorem dL_law_20 : decode cL_law 20 = .ok (.arraylength, 1) := by decide +kernel
theorem dL_law_21 : decode cL_law 21 = .ok (.bipush 7, 2) := by decide +kernel
theorem dL_law_23 : decode cL_law 23 = .ok (.isub, 1) := by decide +kernel
theorem dL_law_24 : decode cL_law 24 = .ok (.if_icmp .gt 1062, 3) := by decide +kernel
theorem dL_law_27 : decode cL_law 27 = .ok (.aload_n 0, 1) := by decide +kernel
theorem dL_law_28 : decode cL_law 28 = .ok (.iload_n 3, 1) := by decide +kernel
theorem dL_law_29 : decode cL_law 29 = .ok (.iaload, 1) := by decide +kernel
theorem dL_law_30 : decode cL_law 30 = .ok (.bipush 31, 2) := by decide +kernel
theorem dL_law_32 : decode cL_law 32 = .ok (.iand, 1) := by decide +kernel
theorem dL_law_33 : decode cL_law 33 = .ok (.tableswitch 1047 0 25 #[119, 142, 185, 260, 309, 342, 405, 418, 431, 484, 537, 580, 613, 636, 659, 682, 735, 778, 821, 874, 917, 941, 964, 987, 1010, 1033], 119) := by decide +kernel
theorem dL_law_152 : decode cL_law 152 = .ok (.aload_n 1, 1) := by decide +kernel
theorem dL_law_153 : decode cL_law 153 = .ok (.aload_n 0, 1) := by decide +kernel
theorem dL_law_154 : decode cL_law 154 = .ok (.iload_n 3, 1) := by decide +kernel
theorem dL_law_155 : decode cL_law 155 = .ok (.iconst 1, 1) := by decide +kernel
theorem dL_law_156 : decode cL_law 156 = .ok (.iadd, 1) := by decide +kernel
theorem dL_law_157 : decode cL_law 157 = .ok (.iaload, 1) := by decide +kernel
theorem dL_law_158 : decode cL_law 158 = .ok (.invokevirtual 13, 3) := by decide +kernel
theorem dL_law_161 : decode cL_law 161 = .ok (.aload_n 2, 1) := by decide +kernel
theorem dL_law_162 : decode cL_law 162 = .ok (.aload_n 0, 1) := by decide +kernel
theorem dL_law_163 : decode cL_law 163 = .ok (.iload_n 3, 1) := by decide +kernel
theorem dL_law_164 : decode cL_law 164 = .ok (.iconst 1, 1) := by decide +kernel
theorem dL_law_165 : decode cL_law 165 = .ok (.iadd, 1) := by decide +kernel
theorem dL_law_166 : decode cL_law 166 = .ok (.iaload, 1) := by decide +kernel
theorem dL_law_167 : decode cL_law 167 = .ok (.invokevirtual 17, 3) := by decide +kernel
theorem dL_law_170 : decode cL_law 170 = .ok (.if_icmp .eq 910, 3) := by decide +kernel
theorem dL_law_173 : decode cL_law 173 = .ok (.iconst 0, 1) := by decide +kernel
theorem dL_law_174 : decode cL_law 174 = .ok (.ireturn, 1) := by decide +kernel
theorem dL_law_175 : decode cL_law 175 = .ok (.aload_n 1, 1) := by decide +kernel
theorem dL_law_176 : decode cL_law 176 = .ok (.aload_n 0, 1) := by decide +kernel
theorem dL_law_177 : decode cL_law 177 = .ok (.iload_n 3, 1) := by decide +kernel
theorem dL_law_178 : decode cL_law 178 = .ok (.iconst 1, 1) := by decide +kernel
theorem dL_law_179 : decode cL_law 179 = .ok (.iadd, 1) := by decide +kernel
theorem dL_law_180 : decode cL_law 180 = .ok (.iaload, 1) := by decide +kernel
theorem dL_law_181 : decode cL_law 181 = .ok (.aload_n 0, 1) := by decide +kernel
theorem dL_law_182 : decode cL_law 182 = .ok (.iload_n 3, 1) := by decide +kernel
theorem dL_law_183 : decode cL_law 183 = .ok (.iconst 2, 1) := by decide +kernel
theorem dL_law_184 : decode cL_law 184 = .ok (.iadd, 1) := by decide +kernel
theorem dL_law_185 : decode cL_law 185 = .ok (.iaload, 1) := by decide +kernel
theorem dL_law_186 : decode cL_law 186 = .ok (.aload_n 0, 1) := by decide +kernel
theorem dL_law_187 : decode cL_law 187 = .ok (.iload_n 3, 1) := by decide +kernel
theorem dL_law_188 : decode cL_law 188 = .ok (.iconst 3, 1) := by decide +kernel
theorem dL_law_189 : decode cL_law 189 = .ok (.iadd, 1) := by decide +kernel
theorem dL_law_190 : decode cL_law 190 = .ok (.iaload, 1) := by decide +kernel
theorem dL_law_191 : decode cL_law 191 = .ok (.invokevirtual 18, 3) := by decide +kernel
theorem dL_law_194 : decode cL_law 194 = .ok (.aload_n 2, 1) := by decide +kernel
theorem dL_law_195 : decode cL_law 195 = .ok (.aload_n 0, 1) := by decide +kernel
theorem dL_law_196 : decode cL_law 196 = .ok (.iload_n 3, 1) := by decide +kernel
theorem dL_law_197 : decode cL_law 197 = .ok (.iconst 1, 1) := by decide +kernel
theorem dL_law_198 : decode cL_law 198 = .ok (.iadd, 1) := by decide +kernel
theorem dL_law_199 : decode cL_law 199 = .ok (.iaload, 1) := by decide +kernel
theorem dL_law_200 : decode cL_law 200 = .ok (.aload_n 0, 1) := by decide +kernel
theorem dL_law_201 : decode cL_law 201 = .ok (.iload_n 3, 1) := by decide +kernel
theorem dL_law_202 : decode cL_law 202 = .ok (.iconst 2, 1) := by decide +kernel
theorem dL_law_203 : decode cL_law 203 = .ok (.iadd, 1) := by decide +kernel
theorem dL_law_204 : decode cL_law 204 = .ok (.iaload, 1) := by decide +kernel
theorem dL_law_205 : decode cL_law 205 = .ok (.aload_n 0, 1) := by decide +kernel
theorem dL_law_206 : decode cL_law 206 = .ok (.iload_n 3, 1) := by decide +kernel
theorem dL_law_207 : decode cL_law 207 = .ok (.iconst 3, 1) := by decide +kernel
theorem dL_law_208 : decode cL_law 208 = .ok (.iadd, 1) := by decide +kernel
theorem dL_law_209 : decode cL_law 209 = .ok (.iaload, 1) := by decide +kernel
theorem dL_law_210 : decode cL_law 210 = .ok (.invokevirtual 22, 3) := by decide +kernel
theorem dL_law_213 : decode cL_law 213 = .ok (.if_icmp .eq 867, 3) := by decide +kernel
theorem dL_law_216 : decode cL_law 216 = .ok (.iconst 0, 1) := by decide +kernel
theorem dL_law_217 : decode cL_law 217 = .ok (.ireturn, 1) := by decide +kernel
theorem dL_law_218 : decode cL_law 218 = .ok (.aload_n 1, 1) := by decide +kernel
theorem dL_law_219 : decode cL_law 219 = .ok (.aload_n 0, 1) := by decide +kernel
theorem dL_law_220 : decode cL_law 220 = .ok (.iload_n 3, 1) := by decide +kernel
theorem dL_law_221 : decode cL_law 221 = .ok (.iconst 1, 1) := by decide +kernel
theorem dL_law_222 : decode cL_law 222 = .ok (.iadd, 1) := by decide +kernel
theorem dL_law_223 : decode cL_law 223 = .ok (.iaload, 1) := by decide +kernel
theorem dL_law_224 : decode cL_law 224 = .ok (.aload_n 0, 1) := by decide +kernel
theorem dL_law_225 : decode cL_law 225 = .ok (.iload_n 3, 1) := by decide +kernel
theorem dL_law_226 : decode cL_law 226 = .ok (.iconst 2, 1) := by decide +kernel
theorem dL_law_227 : decode cL_law 227 = .ok (.iadd, 1) := by decide +kernel
theorem dL_law_228 : decode cL_law 228 = .ok (.iaload, 1) := by decide +kernel
theorem dL_law_229 : decode cL_law 229 = .ok (.aload_n 0, 1) := by decide +kernel
theorem dL_law_230 : decode cL_law 230 = .ok (.iload_n 3, 1) := by decide +kernel
theorem dL_law_231 : decode cL_law 231 = .ok (.iconst 3, 1) := by decide +kernel
theorem dL_law_232 : decode cL_law 232 = .ok (.iadd, 1) := by decide +kernel
theorem dL_law_233 : decode cL_law 233 = .ok (.iaload, 1) := by decide +kernel
theorem dL_law_234 : decode cL_law 234 = .ok (.aload_n 0, 1) := by decide +kernel
theorem dL_law_235 : decode cL_law 235 = .ok (.iload_n 3, 1) := by decide +kernel
theorem dL_law_236 : decode cL_law 236 = .ok (.iconst 4, 1) := by decide +kernel
theorem dL_law_237 : decode cL_law 237 = .ok (.iadd, 1) := by decide +kernel
theorem dL_law_238 : decode cL_law 238 = .ok (.iaload, 1) := by decide +kernel
theorem dL_law_239 : decode cL_law 239 = .ok (.aload_n 0, 1) := by decide +kernel
theorem dL_law_240 : decode cL_law 240 = .ok (.iload_n 3, 1) := by decide +kernel
theorem dL_law_241 : decode cL_law 241 = .ok (.iconst 5, 1) := by decide +kernel
theorem dL_law_242 : decode cL_law 242 = .ok (.iadd, 1) := by decide +kernel
theorem dL_law_243 : decode cL_law 243 = .ok (.iaload, 1) := by decide +kernel
theorem dL_law_244 : decode cL_law 244 = .ok (.aload_n 0, 1) := by decide +kernel
theorem dL_law_245 : decode cL_law 245 = .ok (.iload_n 3, 1) := by decide +kernel
theorem dL_law_246 : decode cL_law 246 = .ok (.bipush 6, 2) := by decide +kernel
theorem dL_law_248 : decode cL_law 248 = .ok (.iadd, 1) := by decide +kernel
theorem dL_law_249 : decode cL_law 249 = .ok (.iaload, 1) := by decide +kernel
theorem dL_law_250 : decode cL_law 250 = .ok (.invokevirtual 23, 3) := by decide +kernel
theorem dL_law_253 : decode cL_law 253 = .ok (.aload_n 2, 1) := by decide +kernel
theorem dL_law_254 : decode cL_law 254 = .ok (.aload_n 0, 1) := by decide +kernel
theorem dL_law_255 : decode cL_law 255 = .ok (.iload_n 3, 1) := by decide +kernel
theorem dL_law_256 : decode cL_law 256 = .ok (.iconst 1, 1) := by decide +kernel
theorem dL_law_257 : decode cL_law 257 = .ok (.iadd, 1) := by decide +kernel
theorem dL_law_258 : decode cL_law 258 = .ok (.iaload, 1) := by decide +kernel
theorem dL_law_259 : decode cL_law 259 = .ok (.aload_n 0, 1) := by decide +kernel
theorem dL_law_260 : decode cL_law 260 = .ok (.iload_n 3, 1) := by decide +kernel
theorem dL_law_261 : decode cL_law 261 = .ok (.iconst 2, 1) := by decide +kernel
theorem dL_law_262 : decode cL_law 262 = .ok (.iadd, 1) := by decide +kernel
theorem dL_law_263 : decode cL_law 263 = .ok (.iaload, 1) := by decide +kernel
theorem dL_law_264 : decode cL_law 264 = .ok (.aload_n 0, 1) := by decide +kernel
theorem dL_law_265 : decode cL_law 265 = .ok (.iload_n 3, 1) := by decide +kernel
theorem dL_law_266 : decode cL_law 266 = .ok (.iconst 3, 1) := by decide +kernel
theorem dL_law_267 : decode cL_law 267 = .ok (.iadd, 1) := by decide +kernel
theorem dL_law_268 : decode cL_law 268 = .ok (.iaload, 1) := by decide +kernel
theorem dL_law_269 : decode cL_law 269 = .ok (.aload_n 0, 1) := by decide +kernel
theorem dL_law_270 : decode cL_law 270 = .ok (.iload_n 3, 1) := by decide +kernel
theorem dL_law_271 : decode cL_law 271 = .ok (.iconst 4, 1) := by decide +kernel
theorem dL_law_272 : decode cL_law 272 = .ok (.iadd, 1) := by decide +kernel
theorem dL_law_273 : decode cL_law 273 = .ok (.iaload, 1) := by decide +kernel
theorem dL_law_274 : decode cL_law 274 = .ok (.aload_n 0, 1) := by decide +kernel
theorem dL_law_275 : decode cL_law 275 = .ok (.iload_n 3, 1) := by decide +kernel
theorem dL_law_276 : decode cL_law 276 = .ok (.iconst 5, 1) := by decide +kernel
theorem dL_law_277 : decode cL_law 277 = .ok (.iadd, 1) := by decide +kernel
theorem dL_law_278 : decode cL_law 278 = .ok (.iaload, 1) := by decide +kernel
theorem dL_law_279 : decode cL_law 279 = .ok (.aload_n 0, 1) := by decide +kernel
theorem dL_law_280 : decode cL_law 280 = .ok (.iload_n 3, 1) := by decide +kernel
theorem dL_law_281 : decode cL_law 281 = .ok (.bipush 6, 2) := by decide +kernel
theorem dL_law_283 : decode cL_law 283 = .ok (.iadd, 1) := by decide +kernel
theorem dL_law_284 : decode cL_law 284 = .ok (.iaload, 1) := by decide +kernel
theorem dL_law_285 : decode cL_law 285 = .ok (.invokevirtual 27, 3) := by decide +kernel
theorem dL_law_288 : decode cL_law 288 = .ok (.if_icmp .eq 792, 3) := by decide +kernel
theorem dL_law_291 : decode cL_law 291 = .ok (.iconst 0, 1) := by decide +kernel
theorem dL_law_292 : decode cL_law 292 = .ok (.ireturn, 1) := by decide +kernel
theorem dL_law_293 : decode cL_law 293 = .ok (.aload_n 1, 1) := by decide +kernel
theorem dL_law_294 : decode cL_law 294 = .ok (.aload_n 0, 1) := by decide +kernel
theorem dL_law_295 : decode cL_law 295 = .ok (.iload_n 3, 1) := by decide +kernel
theorem dL_law_296 : decode cL_law 296 = .ok (.iconst 1, 1) := by decide +kernel
theorem dL_law_297 : decode cL_law 297 = .ok (.iadd, 1) := by decide +kernel
theorem dL_law_298 : decode cL_law 298 = .ok (.iaload, 1) := by decide +kernel
theorem dL_law_299 : decode cL_law 299 = .ok (.aload_n 0, 1) := by decide +kernel
theorem dL_law_300 : decode cL_law 300 = .ok (.iload_n 3, 1) := by decide +kernel
theorem dL_law_301 : decode cL_law 301 = .ok (.iconst 2, 1) := by decide +kernel
theorem dL_law_302 : decode cL_law 302 = .ok (.iadd, 1) := by decide +kernel
theorem dL_law_303 : decode cL_law 303 = .ok (.iaload, 1) := by decide +kernel
theorem dL_law_304 : decode cL_law 304 = .ok (.ifCond .eq 7, 3) := by decide +kernel
theorem dL_law_307 : decode cL_law 307 = .ok (.iconst 1, 1) := by decide +kernel
theorem dL_law_308 : decode cL_law 308 = .ok (.goto 4, 3) := by decide +kernel
theorem dL_law_311 : decode cL_law 311 = .ok (.iconst 0, 1) := by decide +kernel
theorem dL_law_312 : decode cL_law 312 = .ok (.invokevirtual 28, 3) := by decide +kernel
theorem dL_law_315 : decode cL_law 315 = .ok (.aload_n 2, 1) := by decide +kernel
theorem dL_law_316 : decode cL_law 316 = .ok (.aload_n 0, 1) := by decide +kernel
theorem dL_law_317 : decode cL_law 317 = .ok (.iload_n 3, 1) := by decide +kernel
theorem dL_law_318 : decode cL_law 318 = .ok (.iconst 1, 1) := by decide +kernel
theorem dL_law_319 : decode cL_law 319 = .ok (.iadd, 1) := by decide +kernel
theorem dL_law_320 : decode cL_law 320 = .ok (.iaload, 1) := by decide +kernel
theorem dL_law_321 : decode cL_law 321 = .ok (.aload_n 0, 1) := by decide +kernel
theorem dL_law_322 : decode cL_law 322 = .ok (.iload_n 3, 1) := by decide +kernel
theorem dL_law_323 : decode cL_law 323 = .ok (.iconst 2, 1) := by decide +kernel
theorem dL_law_324 : decode cL_law 324 = .ok (.iadd, 1) := by decide +kernel
theorem dL_law_325 : decode cL_law 325 = .ok (.iaload, 1) := by decide +kernel
theorem dL_law_326 : decode cL_law 326 = .ok (.ifCond .eq 7, 3) := by decide +kernel
theorem dL_law_329 : decode cL_law 329 = .ok (.iconst 1, 1) := by decide +kernel
theorem dL_law_330 : decode cL_law 330 = .ok (.goto 4, 3) := by decide +kernel
theorem dL_law_333 : decode cL_law 333 = .ok (.iconst 0, 1) := by decide +kernel
theorem dL_law_334 : decode cL_law 334 = .ok (.invokevirtual 32, 3) := by decide +kernel
theorem dL_law_337 : decode cL_law 337 = .ok (.if_icmp .eq 743, 3) := by decide +kernel
theorem dL_law_340 : decode cL_law 340 = .ok (.iconst 0, 1) := by decide +kernel
theorem dL_law_341 : decode cL_law 341 = .ok (.ireturn, 1) := by decide +kernel
theorem dL_law_342 : decode cL_law 342 = .ok (.aload_n 1, 1) := by decide +kernel
theorem dL_law_343 : decode cL_law 343 = .ok (.aload_n 0, 1) := by decide +kernel
theorem dL_law_344 : decode cL_law 344 = .ok (.iload_n 3, 1) := by decide +kernel
theorem dL_law_345 : decode cL_law 345 = .ok (.iconst 1, 1) := by decide +kernel
theorem dL_law_346 : decode cL_law 346 = .ok (.iadd, 1) := by decide +kernel
theorem dL_law_347 : decode cL_law 347 = .ok (.iaload, 1) := by decide +kernel
theorem dL_law_348 : decode cL_law 348 = .ok (.aload_n 0, 1) := by decide +kernel
theorem dL_law_349 : decode cL_law 349 = .ok (.iload_n 3, 1) := by decide +kernel
theorem dL_law_350 : decode cL_law 350 = .ok (.iconst 2, 1) := by decide +kernel
theorem dL_law_351 : decode cL_law 351 = .ok (.iadd, 1) := by decide +kernel
theorem dL_law_352 : decode cL_law 352 = .ok (.iaload, 1) := by decide +kernel
theorem dL_law_353 : decode cL_law 353 = .ok (.invokevirtual 33, 3) := by decide +kernel
theorem dL_law_356 : decode cL_law 356 = .ok (.aload_n 2, 1) := by decide +kernel
theorem dL_law_357 : decode cL_law 357 = .ok (.aload_n 0, 1) := by decide +kernel
theorem dL_law_358 : decode cL_law 358 = .ok (.iload_n 3, 1) := by decide +kernel
theorem dL_law_359 : decode cL_law 359 = .ok (.iconst 1, 1) := by decide +kernel
theorem dL_law_360 : decode cL_law 360 = .ok (.iadd, 1) := by decide +kernel
theorem dL_law_361 : decode cL_law 361 = .ok (.iaload, 1) := by decide +kernel
theorem dL_law_362 : decode cL_law 362 = .ok (.aload_n 0, 1) := by decide +kernel
theorem dL_law_363 : decode cL_law 363 = .ok (.iload_n 3, 1) := by decide +kernel
theorem dL_law_364 : decode cL_law 364 = .ok (.iconst 2, 1) := by decide +kernel
theorem dL_law_365 : decode cL_law 365 = .ok (.iadd, 1) := by decide +kernel
theorem dL_law_366 : decode cL_law 366 = .ok (.iaload, 1) := by decide +kernel
theorem dL_law_367 : decode cL_law 367 = .ok (.invokevirtual 37, 3) := by decide +kernel
theorem dL_law_370 : decode cL_law 370 = .ok (.if_icmp .eq 710, 3) := by decide +kernel
theorem dL_law_373 : decode cL_law 373 = .ok (.iconst 0, 1) := by decide +kernel
theorem dL_law_374 : decode cL_law 374 = .ok (.ireturn, 1) := by decide +kernel
theorem dL_law_375 : decode cL_law 375 = .ok (.aload_n 1, 1) := by decide +kernel
theorem dL_law_376 : decode cL_law 376 = .ok (.aload_n 0, 1) := by decide +kernel
theorem dL_law_377 : decode cL_law 377 = .ok (.iload_n 3, 1) := by decide +kernel
theorem dL_law_378 : decode cL_law 378 = .ok (.iconst 1, 1) := by decide +kernel
theorem dL_law_379 : decode cL_law 379 = .ok (.iadd, 1) := by decide +kernel
theorem dL_law_380 : decode cL_law 380 = .ok (.iaload, 1) := by decide +kernel
theorem dL_law_381 : decode cL_law 381 = .ok (.i2l, 1) := by decide +kernel
theorem dL_law_382 : decode cL_law 382 = .ok (.bipush 32, 2) := by decide +kernel
theorem dL_law_384 : decode cL_law 384 = .ok (.lshl, 1) := by decide +kernel
theorem dL_law_385 : decode cL_law 385 = .ok (.aload_n 0, 1) := by decide +kernel
theorem dL_law_386 : decode cL_law 386 = .ok (.iload_n 3, 1) := by decide +kernel
theorem dL_law_387 : decode cL_law 387 = .ok (.iconst 2, 1) := by decide +kernel
theorem dL_law_388 : decode cL_law 388 = .ok (.iadd, 1) := by decide +kernel
theorem dL_law_389 : decode cL_law 389 = .ok (.iaload, 1) := by decide +kernel
theorem dL_law_390 : decode cL_law 390 = .ok (.i2l, 1) := by decide +kernel
theorem dL_law_391 : decode cL_law 391 = .ok (.ldc2_w 38, 3) := by decide +kernel
theorem dL_law_394 : decode cL_law 394 = .ok (.land, 1) := by decide +kernel
theorem dL_law_395 : decode cL_law 395 = .ok (.lor, 1) := by decide +kernel
theorem dL_law_396 : decode cL_law 396 = .ok (.aload_n 0, 1) := by decide +kernel
theorem dL_law_397 : decode cL_law 397 = .ok (.iload_n 3, 1) := by decide +kernel
theorem dL_law_398 : decode cL_law 398 = .ok (.iconst 3, 1) := by decide +kernel
