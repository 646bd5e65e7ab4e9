theorem dX12_after_49 : decode cX12_after 49 = .ok (.iconst 1, 1) := by decide +kernel
theorem dX12_after_50 : decode cX12_after 50 = .ok (.iconst 5, 1) := by decide +kernel
theorem dX12_after_51 : decode cX12_after 51 = .ok (.iload 5, 2) := by decide +kernel
theorem dX12_after_53 : decode cX12_after 53 = .ok (.imul, 1) := by decide +kernel
theorem dX12_after_54 : decode cX12_after 54 = .ok (.aload_n 0, 1) := by decide +kernel
theorem dX12_after_55 : decode cX12_after 55 = .ok (.iload 5, 2) := by decide +kernel
theorem dX12_after_57 : decode cX12_after 57 = .ok (.iload 6, 2) := by decide +kernel
theorem dX12_after_59 : decode cX12_after 59 = .ok (.iload_n 2, 1) := by decide +kernel
theorem dX12_after_60 : decode cX12_after 60 = .ok (.iload_n 3, 1) := by decide +kernel
theorem dX12_after_61 : decode cX12_after 61 = .ok (.invokevirtual 143, 3) := by decide +kernel
theorem dX12_after_64 : decode cX12_after 64 = .ok (.iadd, 1) := by decide +kernel
theorem dX12_after_65 : decode cX12_after 65 = .ok (.ishl, 1) := by decide +kernel
theorem dX12_after_66 : decode cX12_after 66 = .ok (.goto 4, 3) := by decide +kernel
theorem dX12_after_69 : decode cX12_after 69 = .ok (.iconst 0, 1) := by decide +kernel
theorem dX12_after_70 : decode cX12_after 70 = .ok (.ior, 1) := by decide +kernel
theorem dX12_after_71 : decode cX12_after 71 = .ok (.istore 4, 2) := by decide +kernel
theorem dX12_after_73 : decode cX12_after 73 = .ok (.iinc 6 1, 3) := by decide +kernel
theorem dX12_after_76 : decode cX12_after 76 = .ok (.goto (-55), 3) := by decide +kernel
theorem dX12_after_79 : decode cX12_after 79 = .ok (.iinc 5 1, 3) := by decide +kernel
theorem dX12_after_82 : decode cX12_after 82 = .ok (.goto (-76), 3) := by decide +kernel
theorem dX12_after_85 : decode cX12_after 85 = .ok (.iload 4, 2) := by decide +kernel
theorem dX12_after_87 : decode cX12_after 87 = .ok (.ireturn, 1) := by decide +kernel
theorem dX12_comesTo_0 : decode cX12_comesTo 0 = .ok (.ldc 154, 2) := by decide +kernel
theorem dX12_comesTo_2 : decode cX12_comesTo 2 = .ok (.iload_n 1, 1) := by decide +kernel
theorem dX12_comesTo_3 : decode cX12_comesTo 3 = .ok (.imul, 1) := by decide +kernel
theorem dX12_comesTo_4 : decode cX12_comesTo 4 = .ok (.iload_n 2, 1) := by decide +kernel
theorem dX12_comesTo_5 : decode cX12_comesTo 5 = .ok (.iadd, 1) := by decide +kernel
theorem dX12_comesTo_6 : decode cX12_comesTo 6 = .ok (.istore 4, 2) := by decide +kernel
theorem dX12_comesTo_8 : decode cX12_comesTo 8 = .ok (.aload_n 0, 1) := by decide +kernel
theorem dX12_comesTo_9 : decode cX12_comesTo 9 = .ok (.getfield 30, 3) := by decide +kernel
theorem dX12_comesTo_12 : decode cX12_comesTo 12 = .ok (.iload 4, 2) := by decide +kernel
theorem dX12_comesTo_14 : decode cX12_comesTo 14 = .ok (.iaload, 1) := by decide +kernel
theorem dX12_comesTo_15 : decode cX12_comesTo 15 = .ok (.ifCond .ne 43, 3) := by decide +kernel
theorem dX12_comesTo_18 : decode cX12_comesTo 18 = .ok (.aload_n 0, 1) := by decide +kernel
theorem dX12_comesTo_19 : decode cX12_comesTo 19 = .ok (.getfield 33, 3) := by decide +kernel
theorem dX12_comesTo_22 : decode cX12_comesTo 22 = .ok (.ldc 154, 2) := by decide +kernel
theorem dX12_comesTo_24 : decode cX12_comesTo 24 = .ok (.iload_n 1, 1) := by decide +kernel
theorem dX12_comesTo_25 : decode cX12_comesTo 25 = .ok (.imul, 1) := by decide +kernel
theorem dX12_comesTo_26 : decode cX12_comesTo 26 = .ok (.aload_n 0, 1) := by decide +kernel
theorem dX12_comesTo_27 : decode cX12_comesTo 27 = .ok (.getfield 36, 3) := by decide +kernel
theorem dX12_comesTo_30 : decode cX12_comesTo 30 = .ok (.iload_n 1, 1) := by decide +kernel
theorem dX12_comesTo_31 : decode cX12_comesTo 31 = .ok (.iaload, 1) := by decide +kernel
theorem dX12_comesTo_32 : decode cX12_comesTo 32 = .ok (.iadd, 1) := by decide +kernel
theorem dX12_comesTo_33 : decode cX12_comesTo 33 = .ok (.iload_n 2, 1) := by decide +kernel
theorem dX12_comesTo_34 : decode cX12_comesTo 34 = .ok (.iastore, 1) := by decide +kernel
theorem dX12_comesTo_35 : decode cX12_comesTo 35 = .ok (.aload_n 0, 1) := by decide +kernel
theorem dX12_comesTo_36 : decode cX12_comesTo 36 = .ok (.getfield 36, 3) := by decide +kernel
theorem dX12_comesTo_39 : decode cX12_comesTo 39 = .ok (.iload_n 1, 1) := by decide +kernel
theorem dX12_comesTo_40 : decode cX12_comesTo 40 = .ok (.dup2, 1) := by decide +kernel
theorem dX12_comesTo_41 : decode cX12_comesTo 41 = .ok (.iaload, 1) := by decide +kernel
theorem dX12_comesTo_42 : decode cX12_comesTo 42 = .ok (.iconst 1, 1) := by decide +kernel
theorem dX12_comesTo_43 : decode cX12_comesTo 43 = .ok (.iadd, 1) := by decide +kernel
theorem dX12_comesTo_44 : decode cX12_comesTo 44 = .ok (.iastore, 1) := by decide +kernel
theorem dX12_comesTo_45 : decode cX12_comesTo 45 = .ok (.aload_n 0, 1) := by decide +kernel
theorem dX12_comesTo_46 : decode cX12_comesTo 46 = .ok (.getfield 30, 3) := by decide +kernel
theorem dX12_comesTo_49 : decode cX12_comesTo 49 = .ok (.iload 4, 2) := by decide +kernel
theorem dX12_comesTo_51 : decode cX12_comesTo 51 = .ok (.iload_n 3, 1) := by decide +kernel
theorem dX12_comesTo_52 : decode cX12_comesTo 52 = .ok (.iconst 1, 1) := by decide +kernel
theorem dX12_comesTo_53 : decode cX12_comesTo 53 = .ok (.iadd, 1) := by decide +kernel
theorem dX12_comesTo_54 : decode cX12_comesTo 54 = .ok (.iastore, 1) := by decide +kernel
theorem dX12_comesTo_55 : decode cX12_comesTo 55 = .ok (.goto 26, 3) := by decide +kernel
theorem dX12_comesTo_58 : decode cX12_comesTo 58 = .ok (.iload_n 3, 1) := by decide +kernel
theorem dX12_comesTo_59 : decode cX12_comesTo 59 = .ok (.iconst 1, 1) := by decide +kernel
theorem dX12_comesTo_60 : decode cX12_comesTo 60 = .ok (.iadd, 1) := by decide +kernel
theorem dX12_comesTo_61 : decode cX12_comesTo 61 = .ok (.aload_n 0, 1) := by decide +kernel
theorem dX12_comesTo_62 : decode cX12_comesTo 62 = .ok (.getfield 30, 3) := by decide +kernel
theorem dX12_comesTo_65 : decode cX12_comesTo 65 = .ok (.iload 4, 2) := by decide +kernel
theorem dX12_comesTo_67 : decode cX12_comesTo 67 = .ok (.iaload, 1) := by decide +kernel
theorem dX12_comesTo_68 : decode cX12_comesTo 68 = .ok (.if_icmp .ge 13, 3) := by decide +kernel
theorem dX12_comesTo_71 : decode cX12_comesTo 71 = .ok (.aload_n 0, 1) := by decide +kernel
theorem dX12_comesTo_72 : decode cX12_comesTo 72 = .ok (.getfield 30, 3) := by decide +kernel
theorem dX12_comesTo_75 : decode cX12_comesTo 75 = .ok (.iload 4, 2) := by decide +kernel
theorem dX12_comesTo_77 : decode cX12_comesTo 77 = .ok (.iload_n 3, 1) := by decide +kernel
theorem dX12_comesTo_78 : decode cX12_comesTo 78 = .ok (.iconst 1, 1) := by decide +kernel
theorem dX12_comesTo_79 : decode cX12_comesTo 79 = .ok (.iadd, 1) := by decide +kernel
theorem dX12_comesTo_80 : decode cX12_comesTo 80 = .ok (.iastore, 1) := by decide +kernel
theorem dX12_comesTo_81 : decode cX12_comesTo 81 = .ok (.return_, 1) := by decide +kernel
theorem dX12_layer_0 : decode cX12_layer 0 = .ok (.iload_n 1, 1) := by decide +kernel
theorem dX12_layer_1 : decode cX12_layer 1 = .ok (.iconst 2, 1) := by decide +kernel
theorem dX12_layer_2 : decode cX12_layer 2 = .ok (.irem, 1) := by decide +kernel
theorem dX12_layer_3 : decode cX12_layer 3 = .ok (.istore_n 3, 1) := by decide +kernel
theorem dX12_layer_4 : decode cX12_layer 4 = .ok (.iconst 0, 1) := by decide +kernel
theorem dX12_layer_5 : decode cX12_layer 5 = .ok (.istore 4, 2) := by decide +kernel
theorem dX12_layer_7 : decode cX12_layer 7 = .ok (.iload 4, 2) := by decide +kernel
theorem dX12_layer_9 : decode cX12_layer 9 = .ok (.aload_n 0, 1) := by decide +kernel
theorem dX12_layer_10 : decode cX12_layer 10 = .ok (.getfield 36, 3) := by decide +kernel
theorem dX12_layer_13 : decode cX12_layer 13 = .ok (.iload_n 3, 1) := by decide +kernel
theorem dX12_layer_14 : decode cX12_layer 14 = .ok (.iaload, 1) := by decide +kernel
theorem dX12_layer_15 : decode cX12_layer 15 = .ok (.if_icmp .ge 109, 3) := by decide +kernel
theorem dX12_layer_18 : decode cX12_layer 18 = .ok (.aload_n 0, 1) := by decide +kernel
theorem dX12_layer_19 : decode cX12_layer 19 = .ok (.getfield 33, 3) := by decide +kernel
theorem dX12_layer_22 : decode cX12_layer 22 = .ok (.ldc 154, 2) := by decide +kernel
theorem dX12_layer_24 : decode cX12_layer 24 = .ok (.iload_n 3, 1) := by decide +kernel
theorem dX12_layer_25 : decode cX12_layer 25 = .ok (.imul, 1) := by decide +kernel
theorem dX12_layer_26 : decode cX12_layer 26 = .ok (.iload 4, 2) := by decide +kernel
theorem dX12_layer_28 : decode cX12_layer 28 = .ok (.iadd, 1) := by decide +kernel
theorem dX12_layer_29 : decode cX12_layer 29 = .ok (.iaload, 1) := by decide +kernel
theorem dX12_layer_30 : decode cX12_layer 30 = .ok (.istore 5, 2) := by decide +kernel
theorem dX12_layer_32 : decode cX12_layer 32 = .ok (.aload_n 0, 1) := by decide +kernel
theorem dX12_layer_33 : decode cX12_layer 33 = .ok (.getfield 30, 3) := by decide +kernel
theorem dX12_layer_36 : decode cX12_layer 36 = .ok (.ldc 154, 2) := by decide +kernel
theorem dX12_layer_38 : decode cX12_layer 38 = .ok (.iload_n 3, 1) := by decide +kernel
theorem dX12_layer_39 : decode cX12_layer 39 = .ok (.imul, 1) := by decide +kernel
theorem dX12_layer_40 : decode cX12_layer 40 = .ok (.iload 5, 2) := by decide +kernel
theorem dX12_layer_42 : decode cX12_layer 42 = .ok (.iadd, 1) := by decide +kernel
theorem dX12_layer_43 : decode cX12_layer 43 = .ok (.iaload, 1) := by decide +kernel
theorem dX12_layer_44 : decode cX12_layer 44 = .ok (.iconst 1, 1) := by decide +kernel
theorem dX12_layer_45 : decode cX12_layer 45 = .ok (.isub, 1) := by decide +kernel
theorem dX12_layer_46 : decode cX12_layer 46 = .ok (.istore 6, 2) := by decide +kernel
theorem dX12_layer_48 : decode cX12_layer 48 = .ok (.aload_n 0, 1) := by decide +kernel
theorem dX12_layer_49 : decode cX12_layer 49 = .ok (.getfield 30, 3) := by decide +kernel
theorem dX12_layer_52 : decode cX12_layer 52 = .ok (.ldc 154, 2) := by decide +kernel
theorem dX12_layer_54 : decode cX12_layer 54 = .ok (.iload_n 3, 1) := by decide +kernel
theorem dX12_layer_55 : decode cX12_layer 55 = .ok (.imul, 1) := by decide +kernel
theorem dX12_layer_56 : decode cX12_layer 56 = .ok (.iload 5, 2) := by decide +kernel
theorem dX12_layer_58 : decode cX12_layer 58 = .ok (.iadd, 1) := by decide +kernel
theorem dX12_layer_59 : decode cX12_layer 59 = .ok (.iconst 0, 1) := by decide +kernel
theorem dX12_layer_60 : decode cX12_layer 60 = .ok (.iastore, 1) := by decide +kernel
theorem dX12_layer_61 : decode cX12_layer 61 = .ok (.iconst 0, 1) := by decide +kernel
theorem dX12_layer_62 : decode cX12_layer 62 = .ok (.istore 7, 2) := by decide +kernel
theorem dX12_layer_64 : decode cX12_layer 64 = .ok (.iload 7, 2) := by decide +kernel
theorem dX12_layer_66 : decode cX12_layer 66 = .ok (.iconst 2, 1) := by decide +kernel
theorem dX12_layer_67 : decode cX12_layer 67 = .ok (.if_icmp .ge 51, 3) := by decide +kernel
theorem dX12_layer_70 : decode cX12_layer 70 = .ok (.aload_n 0, 1) := by decide +kernel
theorem dX12_layer_71 : decode cX12_layer 71 = .ok (.iconst 1, 1) := by decide +kernel
theorem dX12_layer_72 : decode cX12_layer 72 = .ok (.iload_n 3, 1) := by decide +kernel
theorem dX12_layer_73 : decode cX12_layer 73 = .ok (.isub, 1) := by decide +kernel
theorem dX12_layer_74 : decode cX12_layer 74 = .ok (.aload_n 0, 1) := by decide +kernel
theorem dX12_layer_75 : decode cX12_layer 75 = .ok (.iload 5, 2) := by decide +kernel
theorem dX12_layer_77 : decode cX12_layer 77 = .ok (.iload 7, 2) := by decide +kernel
theorem dX12_layer_79 : decode cX12_layer 79 = .ok (.iload_n 1, 1) := by decide +kernel
theorem dX12_layer_80 : decode cX12_layer 80 = .ok (.invokevirtual 155, 3) := by decide +kernel
theorem dX12_layer_83 : decode cX12_layer 83 = .ok (.iload_n 2, 1) := by decide +kernel
theorem dX12_layer_84 : decode cX12_layer 84 = .ok (.ifCond .eq 18, 3) := by decide +kernel
theorem dX12_layer_87 : decode cX12_layer 87 = .ok (.iload 6, 2) := by decide +kernel
theorem dX12_layer_89 : decode cX12_layer 89 = .ok (.aload_n 0, 1) := by decide +kernel
theorem dX12_layer_90 : decode cX12_layer 90 = .ok (.getfield 7, 3) := by decide +kernel
theorem dX12_layer_93 : decode cX12_layer 93 = .ok (.iconst 4, 1) := by decide +kernel
theorem dX12_layer_94 : decode cX12_layer 94 = .ok (.iload 7, 2) := by decide +kernel
theorem dX12_layer_96 : decode cX12_layer 96 = .ok (.iadd, 1) := by decide +kernel
theorem dX12_layer_97 : decode cX12_layer 97 = .ok (.iaload, 1) := by decide +kernel
theorem dX12_layer_98 : decode cX12_layer 98 = .ok (.iadd, 1) := by decide +kernel
theorem dX12_layer_99 : decode cX12_layer 99 = .ok (.goto 10, 3) := by decide +kernel
theorem dX12_layer_102 : decode cX12_layer 102 = .ok (.iconst 2, 1) := by decide +kernel
theorem dX12_layer_103 : decode cX12_layer 103 = .ok (.iload 6, 2) := by decide +kernel
theorem dX12_layer_105 : decode cX12_layer 105 = .ok (.imul, 1) := by decide +kernel
theorem dX12_layer_106 : decode cX12_layer 106 = .ok (.iload 7, 2) := by decide +kernel
theorem dX12_layer_108 : decode cX12_layer 108 = .ok (.iadd, 1) := by decide +kernel
theorem dX12_layer_109 : decode cX12_layer 109 = .ok (.invokevirtual 159, 3) := by decide +kernel
theorem dX12_layer_112 : decode cX12_layer 112 = .ok (.iinc 7 1, 3) := by decide +kernel
theorem dX12_layer_115 : decode cX12_layer 115 = .ok (.goto (-51), 3) := by decide +kernel
theorem dX12_layer_118 : decode cX12_layer 118 = .ok (.iinc 4 1, 3) := by decide +kernel
theorem dX12_layer_121 : decode cX12_layer 121 = .ok (.goto (-114), 3) := by decide +kernel
theorem dX12_layer_124 : decode cX12_layer 124 = .ok (.aload_n 0, 1) := by decide +kernel
theorem dX12_layer_125 : decode cX12_layer 125 = .ok (.getfield 36, 3) := by decide +kernel
theorem dX12_layer_128 : decode cX12_layer 128 = .ok (.iload_n 3, 1) := by decide +kernel
theorem dX12_layer_129 : decode cX12_layer 129 = .ok (.iconst 0, 1) := by decide +kernel
theorem dX12_layer_130 : decode cX12_layer 130 = .ok (.iastore, 1) := by decide +kernel
theorem dX12_layer_131 : decode cX12_layer 131 = .ok (.return_, 1) := by decide +kernel
theorem dX12_empties_0 : decode cX12_empties 0 = .ok (.iconst 0, 1) := by decide +kernel
theorem dX12_empties_1 : decode cX12_empties 1 = .ok (.istore_n 1, 1) := by decide +kernel
theorem dX12_empties_2 : decode cX12_empties 2 = .ok (.iload_n 1, 1) := by decide +kernel
theorem dX12_empties_3 : decode cX12_empties 3 = .ok (.iconst 2, 1) := by decide +kernel
theorem dX12_empties_4 : decode cX12_empties 4 = .ok (.if_icmp .ge 56, 3) := by decide +kernel
theorem dX12_empties_7 : decode cX12_empties 7 = .ok (.iconst 0, 1) := by decide +kernel
theorem dX12_empties_8 : decode cX12_empties 8 = .ok (.istore_n 2, 1) := by decide +kernel
theorem dX12_empties_9 : decode cX12_empties 9 = .ok (.iload_n 2, 1) := by decide +kernel
theorem dX12_empties_10 : decode cX12_empties 10 = .ok (.aload_n 0, 1) := by decide +kernel
theorem dX12_empties_11 : decode cX12_empties 11 = .ok (.getfield 36, 3) := by decide +kernel
theorem dX12_empties_14 : decode cX12_empties 14 = .ok (.iload_n 1, 1) := by decide +kernel
theorem dX12_empties_15 : decode cX12_empties 15 = .ok (.iaload, 1) := by decide +kernel
theorem dX12_empties_16 : decode cX12_empties 16 = .ok (.if_icmp .ge 31, 3) := by decide +kernel
theorem dX12_empties_19 : decode cX12_empties 19 = .ok (.aload_n 0, 1) := by decide +kernel
theorem dX12_empties_20 : decode cX12_empties 20 = .ok (.getfield 30, 3) := by decide +kernel
theorem dX12_empties_23 : decode cX12_empties 23 = .ok (.ldc 154, 2) := by decide +kernel
theorem dX12_empties_25 : decode cX12_empties 25 = .ok (.iload_n 1, 1) := by decide +kernel
theorem dX12_empties_26 : decode cX12_empties 26 = .ok (.imul, 1) := by decide +kernel
theorem dX12_empties_27 : decode cX12_empties 27 = .ok (.aload_n 0, 1) := by decide +kernel
theorem dX12_empties_28 : decode cX12_empties 28 = .ok (.getfield 33, 3) := by decide +kernel
theorem dX12_empties_31 : decode cX12_empties 31 = .ok (.ldc 154, 2) := by decide +kernel
theorem dX12_empties_33 : decode cX12_empties 33 = .ok (.iload_n 1, 1) := by decide +kernel
theorem dX12_empties_34 : decode cX12_empties 34 = .ok (.imul, 1) := by decide +kernel
theorem dX12_empties_35 : decode cX12_empties 35 = .ok (.iload_n 2, 1) := by decide +kernel
theorem dX12_empties_36 : decode cX12_empties 36 = .ok (.iadd, 1) := by decide +kernel
theorem dX12_empties_37 : decode cX12_empties 37 = .ok (.iaload, 1) := by decide +kernel
theorem dX12_empties_38 : decode cX12_empties 38 = .ok (.iadd, 1) := by decide +kernel
theorem dX12_empties_39 : decode cX12_empties 39 = .ok (.iconst 0, 1) := by decide +kernel
theorem dX12_empties_40 : decode cX12_empties 40 = .ok (.iastore, 1) := by decide +kernel
theorem dX12_empties_41 : decode cX12_empties 41 = .ok (.iinc 2 1, 3) := by decide +kernel
theorem dX12_empties_44 : decode cX12_empties 44 = .ok (.goto (-35), 3) := by decide +kernel
theorem dX12_empties_47 : decode cX12_empties 47 = .ok (.aload_n 0, 1) := by decide +kernel
theorem dX12_empties_48 : decode cX12_empties 48 = .ok (.getfield 36, 3) := by decide +kernel
theorem dX12_empties_51 : decode cX12_empties 51 = .ok (.iload_n 1, 1) := by decide +kernel
theorem dX12_empties_52 : decode cX12_empties 52 = .ok (.iconst 0, 1) := by decide +kernel
theorem dX12_empties_53 : decode cX12_empties 53 = .ok (.iastore, 1) := by decide +kernel
theorem dX12_empties_54 : decode cX12_empties 54 = .ok (.iinc 1 1, 3) := by decide +kernel
theorem dX12_empties_57 : decode cX12_empties 57 = .ok (.goto (-55), 3) := by decide +kernel
theorem dX12_empties_60 : decode cX12_empties 60 = .ok (.return_, 1) := by decide +kernel
theorem dX12_leads_0 : decode cX12_leads 0 = .ok (.aload_n 0, 1) := by decide +kernel
theorem dX12_leads_1 : decode cX12_leads 1 = .ok (.iconst (-1), 1) := by decide +kernel
theorem dX12_leads_2 : decode cX12_leads 2 = .ok (.putfield 163, 3) := by decide +kernel
theorem dX12_leads_5 : decode cX12_leads 5 = .ok (.aload_n 0, 1) := by decide +kernel
theorem dX12_leads_6 : decode cX12_leads 6 = .ok (.iconst 0, 1) := by decide +kernel
theorem dX12_leads_7 : decode cX12_leads 7 = .ok (.iload_n 1, 1) := by decide +kernel
theorem dX12_leads_8 : decode cX12_leads 8 = .ok (.iconst 0, 1) := by decide +kernel
theorem dX12_leads_9 : decode cX12_leads 9 = .ok (.invokevirtual 159, 3) := by decide +kernel
theorem dX12_leads_12 : decode cX12_leads 12 = .ok (.iconst 0, 1) := by decide +kernel
theorem dX12_leads_13 : decode cX12_leads 13 = .ok (.istore 4, 2) := by decide +kernel
theorem dX12_leads_15 : decode cX12_leads 15 = .ok (.iload 4, 2) := by decide +kernel
theorem dX12_leads_17 : decode cX12_leads 17 = .ok (.bipush 20, 2) := by decide +kernel
theorem dX12_leads_19 : decode cX12_leads 19 = .ok (.if_icmp .gt 87, 3) := by decide +kernel
theorem dX12_leads_22 : decode cX12_leads 22 = .ok (.iload_n 3, 1) := by decide +kernel
theorem dX12_leads_23 : decode cX12_leads 23 = .ok (.ifCond .ne 11, 3) := by decide +kernel
theorem dX12_leads_26 : decode cX12_leads 26 = .ok (.aload_n 0, 1) := by decide +kernel
theorem dX12_leads_27 : decode cX12_leads 27 = .ok (.getfield 163, 3) := by decide +kernel
theorem dX12_leads_30 : decode cX12_leads 30 = .ok (.iconst (-1), 1) := by decide +kernel
theorem dX12_leads_31 : decode cX12_leads 31 = .ok (.if_icmp .ne 75, 3) := by decide +kernel
theorem dX12_leads_34 : decode cX12_leads 34 = .ok (.aload_n 0, 1) := by decide +kernel
theorem dX12_leads_35 : decode cX12_leads 35 = .ok (.getfield 30, 3) := by decide +kernel
theorem dX12_leads_38 : decode cX12_leads 38 = .ok (.ldc 154, 2) := by decide +kernel
theorem dX12_leads_40 : decode cX12_leads 40 = .ok (.iload 4, 2) := by decide +kernel
theorem dX12_leads_42 : decode cX12_leads 42 = .ok (.iconst 2, 1) := by decide +kernel
theorem dX12_leads_43 : decode cX12_leads 43 = .ok (.irem, 1) := by decide +kernel
theorem dX12_leads_44 : decode cX12_leads 44 = .ok (.imul, 1) := by decide +kernel
theorem dX12_leads_45 : decode cX12_leads 45 = .ok (.iload_n 2, 1) := by decide +kernel
theorem dX12_leads_46 : decode cX12_leads 46 = .ok (.iadd, 1) := by decide +kernel
theorem dX12_leads_47 : decode cX12_leads 47 = .ok (.iaload, 1) := by decide +kernel
theorem dX12_leads_48 : decode cX12_leads 48 = .ok (.iconst 1, 1) := by decide +kernel
theorem dX12_leads_49 : decode cX12_leads 49 = .ok (.isub, 1) := by decide +kernel
theorem dX12_leads_50 : decode cX12_leads 50 = .ok (.istore 5, 2) := by decide +kernel
theorem dX12_leads_52 : decode cX12_leads 52 = .ok (.iload 5, 2) := by decide +kernel
theorem dX12_leads_54 : decode cX12_leads 54 = .ok (.ifCond .lt 32, 3) := by decide +kernel
theorem dX12_leads_57 : decode cX12_leads 57 = .ok (.aload_n 0, 1) := by decide +kernel
theorem dX12_leads_58 : decode cX12_leads 58 = .ok (.getfield 163, 3) := by decide +kernel
theorem dX12_leads_61 : decode cX12_leads 61 = .ok (.iconst (-1), 1) := by decide +kernel
theorem dX12_leads_62 : decode cX12_leads 62 = .ok (.if_icmp .eq 12, 3) := by decide +kernel
theorem dX12_leads_65 : decode cX12_leads 65 = .ok (.iload 5, 2) := by decide +kernel
theorem dX12_leads_67 : decode cX12_leads 67 = .ok (.aload_n 0, 1) := by decide +kernel
theorem dX12_leads_68 : decode cX12_leads 68 = .ok (.getfield 166, 3) := by decide +kernel
theorem dX12_leads_71 : decode cX12_leads 71 = .ok (.if_icmp .ge 15, 3) := by decide +kernel
theorem dX12_leads_74 : decode cX12_leads 74 = .ok (.aload_n 0, 1) := by decide +kernel
theorem dX12_leads_75 : decode cX12_leads 75 = .ok (.iload 4, 2) := by decide +kernel
theorem dX12_leads_77 : decode cX12_leads 77 = .ok (.putfield 163, 3) := by decide +kernel
theorem dX12_leads_80 : decode cX12_leads 80 = .ok (.aload_n 0, 1) := by decide +kernel
theorem dX12_leads_81 : decode cX12_leads 81 = .ok (.iload 5, 2) := by decide +kernel
theorem dX12_leads_83 : decode cX12_leads 83 = .ok (.putfield 166, 3) := by decide +kernel
theorem dX12_leads_86 : decode cX12_leads 86 = .ok (.iload 4, 2) := by decide +kernel
theorem dX12_leads_88 : decode cX12_leads 88 = .ok (.bipush 20, 2) := by decide +kernel
theorem dX12_leads_90 : decode cX12_leads 90 = .ok (.if_icmp .ge 10, 3) := by decide +kernel
theorem dX12_leads_93 : decode cX12_leads 93 = .ok (.aload_n 0, 1) := by decide +kernel
theorem dX12_leads_94 : decode cX12_leads 94 = .ok (.iload 4, 2) := by decide +kernel
theorem dX12_leads_96 : decode cX12_leads 96 = .ok (.iload_n 3, 1) := by decide +kernel
theorem dX12_leads_97 : decode cX12_leads 97 = .ok (.invokevirtual 169, 3) := by decide +kernel
theorem dX12_leads_100 : decode cX12_leads 100 = .ok (.iinc 4 1, 3) := by decide +kernel
theorem dX12_leads_103 : decode cX12_leads 103 = .ok (.goto (-88), 3) := by decide +kernel
theorem dX12_leads_106 : decode cX12_leads 106 = .ok (.aload_n 0, 1) := by decide +kernel
theorem dX12_leads_107 : decode cX12_leads 107 = .ok (.invokevirtual 173, 3) := by decide +kernel
theorem dX12_leads_110 : decode cX12_leads 110 = .ok (.aload_n 0, 1) := by decide +kernel
theorem dX12_leads_111 : decode cX12_leads 111 = .ok (.getfield 163, 3) := by decide +kernel
theorem dX12_leads_114 : decode cX12_leads 114 = .ok (.iconst (-1), 1) := by decide +kernel
theorem dX12_leads_115 : decode cX12_leads 115 = .ok (.if_icmp .eq 7, 3) := by decide +kernel
theorem dX12_leads_118 : decode cX12_leads 118 = .ok (.iconst 1, 1) := by decide +kernel
theorem dX12_leads_119 : decode cX12_leads 119 = .ok (.goto 4, 3) := by decide +kernel
theorem dX12_leads_122 : decode cX12_leads 122 = .ok (.iconst 0, 1) := by decide +kernel
theorem dX12_leads_123 : decode cX12_leads 123 = .ok (.ireturn, 1) := by decide +kernel
theorem dX12_all_0 : decode cX12_all 0 = .ok (.iconst 0, 1) := by decide +kernel
theorem dX12_all_1 : decode cX12_all 1 = .ok (.istore_n 3, 1) := by decide +kernel
theorem dX12_all_2 : decode cX12_all 2 = .ok (.iconst 0, 1) := by decide +kernel
theorem dX12_all_3 : decode cX12_all 3 = .ok (.istore 4, 2) := by decide +kernel
theorem dX12_all_5 : decode cX12_all 5 = .ok (.iload 4, 2) := by decide +kernel
theorem dX12_all_7 : decode cX12_all 7 = .ok (.aload_n 0, 1) := by decide +kernel
theorem dX12_all_8 : decode cX12_all 8 = .ok (.getfield 7, 3) := by decide +kernel
theorem dX12_all_11 : decode cX12_all 11 = .ok (.bipush 6, 2) := by decide +kernel
theorem dX12_all_13 : decode cX12_all 13 = .ok (.iaload, 1) := by decide +kernel
theorem dX12_all_14 : decode cX12_all 14 = .ok (.if_icmp .ge 32, 3) := by decide +kernel
theorem dX12_all_17 : decode cX12_all 17 = .ok (.iload_n 3, 1) := by decide +kernel
theorem dX12_all_18 : decode cX12_all 18 = .ok (.iload_n 1, 1) := by decide +kernel
theorem dX12_all_19 : decode cX12_all 19 = .ok (.iload 4, 2) := by decide +kernel
theorem dX12_all_21 : decode cX12_all 21 = .ok (.ishr, 1) := by decide +kernel
theorem dX12_all_22 : decode cX12_all 22 = .ok (.iconst 1, 1) := by decide +kernel
theorem dX12_all_23 : decode cX12_all 23 = .ok (.iand, 1) := by decide +kernel
theorem dX12_all_24 : decode cX12_all 24 = .ok (.iconst 1, 1) := by decide +kernel
theorem dX12_all_25 : decode cX12_all 25 = .ok (.if_icmp .ne 12, 3) := by decide +kernel
theorem dX12_all_28 : decode cX12_all 28 = .ok (.iload_n 2, 1) := by decide +kernel
theorem dX12_all_29 : decode cX12_all 29 = .ok (.iconst 5, 1) := by decide +kernel
theorem dX12_all_30 : decode cX12_all 30 = .ok (.iload 4, 2) := by decide +kernel
theorem dX12_all_32 : decode cX12_all 32 = .ok (.imul, 1) := by decide +kernel
theorem dX12_all_33 : decode cX12_all 33 = .ok (.ishl, 1) := by decide +kernel
theorem dX12_all_34 : decode cX12_all 34 = .ok (.goto 4, 3) := by decide +kernel
theorem dX12_all_37 : decode cX12_all 37 = .ok (.iconst 0, 1) := by decide +kernel
theorem dX12_all_38 : decode cX12_all 38 = .ok (.ior, 1) := by decide +kernel
theorem dX12_all_39 : decode cX12_all 39 = .ok (.istore_n 3, 1) := by decide +kernel
theorem dX12_all_40 : decode cX12_all 40 = .ok (.iinc 4 1, 3) := by decide +kernel
theorem dX12_all_43 : decode cX12_all 43 = .ok (.goto (-38), 3) := by decide +kernel
theorem dX12_all_46 : decode cX12_all 46 = .ok (.iload_n 3, 1) := by decide +kernel
theorem dX12_all_47 : decode cX12_all 47 = .ok (.ireturn, 1) := by decide +kernel
theorem dX12_tames_0 : decode cX12_tames 0 = .ok (.aload_n 0, 1) := by decide +kernel
theorem dX12_tames_1 : decode cX12_tames 1 = .ok (.aload_n 0, 1) := by decide +kernel
theorem dX12_tames_2 : decode cX12_tames 2 = .ok (.iload_n 1, 1) := by decide +kernel
theorem dX12_tames_3 : decode cX12_tames 3 = .ok (.iconst 1, 1) := by decide +kernel
theorem dX12_tames_4 : decode cX12_tames 4 = .ok (.aload_n 0, 1) := by decide +kernel
theorem dX12_tames_5 : decode cX12_tames 5 = .ok (.getfield 7, 3) := by decide +kernel
theorem dX12_tames_8 : decode cX12_tames 8 = .ok (.iconst 0, 1) := by decide +kernel
theorem dX12_tames_9 : decode cX12_tames 9 = .ok (.iaload, 1) := by decide +kernel
theorem dX12_tames_10 : decode cX12_tames 10 = .ok (.ishl, 1) := by decide +kernel
theorem dX12_tames_11 : decode cX12_tames 11 = .ok (.iconst 1, 1) := by decide +kernel
theorem dX12_tames_12 : decode cX12_tames 12 = .ok (.isub, 1) := by decide +kernel
theorem dX12_tames_13 : decode cX12_tames 13 = .ok (.invokevirtual 176, 3) := by decide +kernel
theorem dX12_tames_16 : decode cX12_tames 16 = .ok (.aload_n 0, 1) := by decide +kernel
theorem dX12_tames_17 : decode cX12_tames 17 = .ok (.iload_n 1, 1) := by decide +kernel
theorem dX12_tames_18 : decode cX12_tames 18 = .ok (.iconst 1, 1) := by decide +kernel
theorem dX12_tames_19 : decode cX12_tames 19 = .ok (.aload_n 0, 1) := by decide +kernel
theorem dX12_tames_20 : decode cX12_tames 20 = .ok (.getfield 7, 3) := by decide +kernel
theorem dX12_tames_23 : decode cX12_tames 23 = .ok (.iconst 2, 1) := by decide +kernel
theorem dX12_tames_24 : decode cX12_tames 24 = .ok (.iaload, 1) := by decide +kernel
theorem dX12_tames_25 : decode cX12_tames 25 = .ok (.ishl, 1) := by decide +kernel
theorem dX12_tames_26 : decode cX12_tames 26 = .ok (.invokevirtual 176, 3) := by decide +kernel
theorem dX12_tames_29 : decode cX12_tames 29 = .ok (.iload_n 2, 1) := by decide +kernel
theorem dX12_tames_30 : decode cX12_tames 30 = .ok (.invokevirtual 179, 3) := by decide +kernel
theorem dX12_tames_33 : decode cX12_tames 33 = .ok (.ireturn, 1) := by decide +kernel
theorem dX12_tune_0 : decode cX12_tune 0 = .ok (.iconst 0, 1) := by decide +kernel
theorem dX12_tune_1 : decode cX12_tune 1 = .ok (.istore_n 1, 1) := by decide +kernel
theorem dX12_tune_2 : decode cX12_tune 2 = .ok (.iconst 0, 1) := by decide +kernel
theorem dX12_tune_3 : decode cX12_tune 3 = .ok (.istore_n 2, 1) := by decide +kernel
theorem dX12_tune_4 : decode cX12_tune 4 = .ok (.iload_n 2, 1) := by decide +kernel
theorem dX12_tune_5 : decode cX12_tune 5 = .ok (.aload_n 0, 1) := by decide +kernel
theorem dX12_tune_6 : decode cX12_tune 6 = .ok (.getfield 163, 3) := by decide +kernel
theorem dX12_tune_9 : decode cX12_tune 9 = .ok (.if_icmp .ge 22, 3) := by decide +kernel
theorem dX12_tune_12 : decode cX12_tune 12 = .ok (.iconst 2, 1) := by decide +kernel
theorem dX12_tune_13 : decode cX12_tune 13 = .ok (.iload_n 1, 1) := by decide +kernel
theorem dX12_tune_14 : decode cX12_tune 14 = .ok (.imul, 1) := by decide +kernel
theorem dX12_tune_15 : decode cX12_tune 15 = .ok (.aload_n 0, 1) := by decide +kernel
theorem dX12_tune_16 : decode cX12_tune 16 = .ok (.getfield 166, 3) := by decide +kernel
theorem dX12_tune_19 : decode cX12_tune 19 = .ok (.iload_n 2, 1) := by decide +kernel
theorem dX12_tune_20 : decode cX12_tune 20 = .ok (.ishr, 1) := by decide +kernel
theorem dX12_tune_21 : decode cX12_tune 21 = .ok (.iconst 1, 1) := by decide +kernel
theorem dX12_tune_22 : decode cX12_tune 22 = .ok (.iand, 1) := by decide +kernel
theorem dX12_tune_23 : decode cX12_tune 23 = .ok (.iadd, 1) := by decide +kernel
theorem dX12_tune_24 : decode cX12_tune 24 = .ok (.istore_n 1, 1) := by decide +kernel
theorem dX12_tune_25 : decode cX12_tune 25 = .ok (.iinc 2 1, 3) := by decide +kernel
theorem dX12_tune_28 : decode cX12_tune 28 = .ok (.goto (-24), 3) := by decide +kernel
theorem dX12_tune_31 : decode cX12_tune 31 = .ok (.iload_n 1, 1) := by decide +kernel
theorem dX12_tune_32 : decode cX12_tune 32 = .ok (.ireturn, 1) := by decide +kernel
theorem dX12_tame_0 : decode cX12_tame 0 = .ok (.aload_n 0, 1) := by decide +kernel
theorem dX12_tame_1 : decode cX12_tame 1 = .ok (.iload_n 1, 1) := by decide +kernel
theorem dX12_tame_2 : decode cX12_tame 2 = .ok (.invokevirtual 183, 3) := by decide +kernel
theorem dX12_tame_5 : decode cX12_tame 5 = .ok (.ifCond .eq 12, 3) := by decide +kernel
theorem dX12_tame_8 : decode cX12_tame 8 = .ok (.iload_n 2, 1) := by decide +kernel
theorem dX12_tame_9 : decode cX12_tame 9 = .ok (.iconst 0, 1) := by decide +kernel
theorem dX12_tame_10 : decode cX12_tame 10 = .ok (.iconst 1, 1) := by decide +kernel
theorem dX12_tame_11 : decode cX12_tame 11 = .ok (.invokestatic 57, 3) := by decide +kernel
theorem dX12_tame_14 : decode cX12_tame 14 = .ok (.ifCond .ne 11, 3) := by decide +kernel
theorem dX12_tame_17 : decode cX12_tame 17 = .ok (.aload_n 0, 1) := by decide +kernel
theorem dX12_tame_18 : decode cX12_tame 18 = .ok (.iconst 0, 1) := by decide +kernel
theorem dX12_tame_19 : decode cX12_tame 19 = .ok (.bipush (-10), 2) := by decide +kernel
theorem dX12_tame_21 : decode cX12_tame 21 = .ok (.invokevirtual 53, 3) := by decide +kernel
theorem dX12_tame_24 : decode cX12_tame 24 = .ok (.ireturn, 1) := by decide +kernel
theorem dX12_tame_25 : decode cX12_tame 25 = .ok (.aload_n 0, 1) := by decide +kernel
theorem dX12_tame_26 : decode cX12_tame 26 = .ok (.iload_n 1, 1) := by decide +kernel
theorem dX12_tame_27 : decode cX12_tame 27 = .ok (.iconst 0, 1) := by decide +kernel
theorem dX12_tame_28 : decode cX12_tame 28 = .ok (.invokevirtual 186, 3) := by decide +kernel
theorem dX12_tame_31 : decode cX12_tame 31 = .ok (.ifCond .ne 7, 3) := by decide +kernel
theorem dX12_tame_34 : decode cX12_tame 34 = .ok (.iconst (-1), 1) := by decide +kernel
theorem dX12_tame_35 : decode cX12_tame 35 = .ok (.goto 18, 3) := by decide +kernel
theorem dX12_tame_38 : decode cX12_tame 38 = .ok (.iload_n 2, 1) := by decide +kernel
theorem dX12_tame_39 : decode cX12_tame 39 = .ok (.ifCond .ne 10, 3) := by decide +kernel
theorem dX12_tame_42 : decode cX12_tame 42 = .ok (.aload_n 0, 1) := by decide +kernel
theorem dX12_tame_43 : decode cX12_tame 43 = .ok (.getfield 163, 3) := by decide +kernel
theorem dX12_tame_46 : decode cX12_tame 46 = .ok (.goto 7, 3) := by decide +kernel
theorem dX12_tame_49 : decode cX12_tame 49 = .ok (.aload_n 0, 1) := by decide +kernel
theorem dX12_tame_50 : decode cX12_tame 50 = .ok (.invokevirtual 190, 3) := by decide +kernel
theorem dX12_tame_53 : decode cX12_tame 53 = .ok (.ireturn, 1) := by decide +kernel
theorem dX12_quiet_0 : decode cX12_quiet 0 = .ok (.aload_n 0, 1) := by decide +kernel
theorem dX12_quiet_1 : decode cX12_quiet 1 = .ok (.iload_n 1, 1) := by decide +kernel
theorem dX12_quiet_2 : decode cX12_quiet 2 = .ok (.invokevirtual 183, 3) := by decide +kernel
theorem dX12_quiet_5 : decode cX12_quiet 5 = .ok (.ifCond .ne 10, 3) := by decide +kernel
theorem dX12_quiet_8 : decode cX12_quiet 8 = .ok (.aload_n 0, 1) := by decide +kernel
theorem dX12_quiet_9 : decode cX12_quiet 9 = .ok (.invokevirtual 61, 3) := by decide +kernel
theorem dX12_quiet_12 : decode cX12_quiet 12 = .ok (.goto 20, 3) := by decide +kernel
theorem dX12_quiet_15 : decode cX12_quiet 15 = .ok (.aload_n 0, 1) := by decide +kernel
theorem dX12_quiet_16 : decode cX12_quiet 16 = .ok (.iload_n 1, 1) := by decide +kernel
theorem dX12_quiet_17 : decode cX12_quiet 17 = .ok (.iconst 1, 1) := by decide +kernel
theorem dX12_quiet_18 : decode cX12_quiet 18 = .ok (.invokevirtual 186, 3) := by decide +kernel
theorem dX12_quiet_21 : decode cX12_quiet 21 = .ok (.ifCond .eq 10, 3) := by decide +kernel
theorem dX12_quiet_24 : decode cX12_quiet 24 = .ok (.aload_n 0, 1) := by decide +kernel
theorem dX12_quiet_25 : decode cX12_quiet 25 = .ok (.getfield 166, 3) := by decide +kernel
theorem dX12_quiet_28 : decode cX12_quiet 28 = .ok (.goto 4, 3) := by decide +kernel
theorem dX12_quiet_31 : decode cX12_quiet 31 = .ok (.iconst (-1), 1) := by decide +kernel
theorem dX12_quiet_32 : decode cX12_quiet 32 = .ok (.ireturn, 1) := by decide +kernel
theorem dX12_shuts_0 : decode cX12_shuts 0 = .ok (.aload_n 0, 1) := by decide +kernel
theorem dX12_shuts_1 : decode cX12_shuts 1 = .ok (.iload_n 1, 1) := by decide +kernel
theorem dX12_shuts_2 : decode cX12_shuts 2 = .ok (.invokevirtual 183, 3) := by decide +kernel
theorem dX12_shuts_5 : decode cX12_shuts 5 = .ok (.ifCond .ne 8, 3) := by decide +kernel
theorem dX12_shuts_8 : decode cX12_shuts 8 = .ok (.aload_n 0, 1) := by decide +kernel
theorem dX12_shuts_9 : decode cX12_shuts 9 = .ok (.invokevirtual 61, 3) := by decide +kernel
theorem dX12_shuts_12 : decode cX12_shuts 12 = .ok (.ireturn, 1) := by decide +kernel
theorem dX12_shuts_13 : decode cX12_shuts 13 = .ok (.aload_n 0, 1) := by decide +kernel
theorem dX12_shuts_14 : decode cX12_shuts 14 = .ok (.getfield 7, 3) := by decide +kernel
theorem dX12_shuts_17 : decode cX12_shuts 17 = .ok (.iconst 1, 1) := by decide +kernel
theorem dX12_shuts_18 : decode cX12_shuts 18 = .ok (.iaload, 1) := by decide +kernel
theorem dX12_shuts_19 : decode cX12_shuts 19 = .ok (.istore_n 2, 1) := by decide +kernel
theorem dX12_shuts_20 : decode cX12_shuts 20 = .ok (.iconst (-1), 1) := by decide +kernel
theorem dX12_shuts_21 : decode cX12_shuts 21 = .ok (.istore_n 3, 1) := by decide +kernel
theorem dX12_shuts_22 : decode cX12_shuts 22 = .ok (.iconst 0, 1) := by decide +kernel
theorem dX12_shuts_23 : decode cX12_shuts 23 = .ok (.istore 4, 2) := by decide +kernel
theorem dX12_shuts_25 : decode cX12_shuts 25 = .ok (.iload 4, 2) := by decide +kernel
theorem dX12_shuts_27 : decode cX12_shuts 27 = .ok (.aload_n 0, 1) := by decide +kernel
theorem dX12_shuts_28 : decode cX12_shuts 28 = .ok (.getfield 7, 3) := by decide +kernel
theorem dX12_shuts_31 : decode cX12_shuts 31 = .ok (.iconst 0, 1) := by decide +kernel
theorem dX12_shuts_32 : decode cX12_shuts 32 = .ok (.iaload, 1) := by decide +kernel
theorem dX12_shuts_33 : decode cX12_shuts 33 = .ok (.if_icmp .ge 89, 3) := by decide +kernel
theorem dX12_shuts_36 : decode cX12_shuts 36 = .ok (.iload_n 3, 1) := by decide +kernel
theorem dX12_shuts_37 : decode cX12_shuts 37 = .ok (.iconst (-1), 1) := by decide +kernel
theorem dX12_shuts_38 : decode cX12_shuts 38 = .ok (.if_icmp .ne 84, 3) := by decide +kernel
theorem dX12_shuts_41 : decode cX12_shuts 41 = .ok (.iconst 0, 1) := by decide +kernel
theorem dX12_shuts_42 : decode cX12_shuts 42 = .ok (.istore 5, 2) := by decide +kernel
theorem dX12_shuts_44 : decode cX12_shuts 44 = .ok (.iload 5, 2) := by decide +kernel
theorem dX12_shuts_46 : decode cX12_shuts 46 = .ok (.iconst 1, 1) := by decide +kernel
theorem dX12_shuts_47 : decode cX12_shuts 47 = .ok (.aload_n 0, 1) := by decide +kernel
theorem dX12_shuts_48 : decode cX12_shuts 48 = .ok (.getfield 7, 3) := by decide +kernel
theorem dX12_shuts_51 : decode cX12_shuts 51 = .ok (.iconst 0, 1) := by decide +kernel
theorem dX12_shuts_52 : decode cX12_shuts 52 = .ok (.iaload, 1) := by decide +kernel
theorem dX12_shuts_53 : decode cX12_shuts 53 = .ok (.ishl, 1) := by decide +kernel
theorem dX12_shuts_54 : decode cX12_shuts 54 = .ok (.if_icmp .ge 62, 3) := by decide +kernel
theorem dX12_shuts_57 : decode cX12_shuts 57 = .ok (.iload_n 3, 1) := by decide +kernel
theorem dX12_shuts_58 : decode cX12_shuts 58 = .ok (.iconst (-1), 1) := by decide +kernel
theorem dX12_shuts_59 : decode cX12_shuts 59 = .ok (.if_icmp .ne 57, 3) := by decide +kernel
theorem dX12_shuts_62 : decode cX12_shuts 62 = .ok (.iload 5, 2) := by decide +kernel
theorem dX12_shuts_64 : decode cX12_shuts 64 = .ok (.invokestatic 193, 3) := by decide +kernel
theorem dX12_shuts_67 : decode cX12_shuts 67 = .ok (.iload 4, 2) := by decide +kernel
theorem dX12_shuts_69 : decode cX12_shuts 69 = .ok (.if_icmp .ne 41, 3) := by decide +kernel
theorem dX12_shuts_72 : decode cX12_shuts 72 = .ok (.iload 5, 2) := by decide +kernel
theorem dX12_shuts_74 : decode cX12_shuts 74 = .ok (.aload_n 0, 1) := by decide +kernel
theorem dX12_shuts_75 : decode cX12_shuts 75 = .ok (.getfield 7, 3) := by decide +kernel
theorem dX12_shuts_78 : decode cX12_shuts 78 = .ok (.iconst 2, 1) := by decide +kernel
theorem dX12_shuts_79 : decode cX12_shuts 79 = .ok (.iaload, 1) := by decide +kernel
theorem dX12_shuts_80 : decode cX12_shuts 80 = .ok (.ishr, 1) := by decide +kernel
theorem dX12_shuts_81 : decode cX12_shuts 81 = .ok (.iconst 1, 1) := by decide +kernel
theorem dX12_shuts_82 : decode cX12_shuts 82 = .ok (.iand, 1) := by decide +kernel
theorem dX12_shuts_83 : decode cX12_shuts 83 = .ok (.ifCond .ne 27, 3) := by decide +kernel
theorem dX12_shuts_86 : decode cX12_shuts 86 = .ok (.aload_n 0, 1) := by decide +kernel
theorem dX12_shuts_87 : decode cX12_shuts 87 = .ok (.getfield 7, 3) := by decide +kernel
theorem dX12_shuts_90 : decode cX12_shuts 90 = .ok (.iconst 1, 1) := by decide +kernel
theorem dX12_shuts_91 : decode cX12_shuts 91 = .ok (.iload 5, 2) := by decide +kernel
theorem dX12_shuts_93 : decode cX12_shuts 93 = .ok (.iastore, 1) := by decide +kernel
theorem dX12_shuts_94 : decode cX12_shuts 94 = .ok (.aload_n 0, 1) := by decide +kernel
theorem dX12_shuts_95 : decode cX12_shuts 95 = .ok (.iload_n 1, 1) := by decide +kernel
theorem dX12_shuts_96 : decode cX12_shuts 96 = .ok (.iconst 0, 1) := by decide +kernel
theorem dX12_shuts_97 : decode cX12_shuts 97 = .ok (.invokevirtual 186, 3) := by decide +kernel
theorem dX12_shuts_100 : decode cX12_shuts 100 = .ok (.ifCond .eq 8, 3) := by decide +kernel
theorem dX12_shuts_103 : decode cX12_shuts 103 = .ok (.iload 5, 2) := by decide +kernel
theorem dX12_shuts_105 : decode cX12_shuts 105 = .ok (.goto 4, 3) := by decide +kernel
theorem dX12_shuts_108 : decode cX12_shuts 108 = .ok (.iconst (-1), 1) := by decide +kernel
theorem dX12_shuts_109 : decode cX12_shuts 109 = .ok (.istore_n 3, 1) := by decide +kernel
theorem dX12_shuts_110 : decode cX12_shuts 110 = .ok (.iinc 5 1, 3) := by decide +kernel
theorem dX12_shuts_113 : decode cX12_shuts 113 = .ok (.goto (-69), 3) := by decide +kernel
theorem dX12_shuts_116 : decode cX12_shuts 116 = .ok (.iinc 4 1, 3) := by decide +kernel
theorem dX12_shuts_119 : decode cX12_shuts 119 = .ok (.goto (-94), 3) := by decide +kernel
theorem dX12_shuts_122 : decode cX12_shuts 122 = .ok (.aload_n 0, 1) := by decide +kernel
theorem dX12_shuts_123 : decode cX12_shuts 123 = .ok (.getfield 7, 3) := by decide +kernel
theorem dX12_shuts_126 : decode cX12_shuts 126 = .ok (.iconst 1, 1) := by decide +kernel
theorem dX12_shuts_127 : decode cX12_shuts 127 = .ok (.iload_n 2, 1) := by decide +kernel
theorem dX12_shuts_128 : decode cX12_shuts 128 = .ok (.iastore, 1) := by decide +kernel
theorem dX12_shuts_129 : decode cX12_shuts 129 = .ok (.iload_n 3, 1) := by decide +kernel
theorem dX12_shuts_130 : decode cX12_shuts 130 = .ok (.ireturn, 1) := by decide +kernel
theorem dX12_neighbour_0 : decode cX12_neighbour 0 = .ok (.aload_n 0, 1) := by decide +kernel
theorem dX12_neighbour_1 : decode cX12_neighbour 1 = .ok (.iload_n 1, 1) := by decide +kernel
theorem dX12_neighbour_2 : decode cX12_neighbour 2 = .ok (.invokevirtual 183, 3) := by decide +kernel
theorem dX12_neighbour_5 : decode cX12_neighbour 5 = .ok (.ifCond .eq 38, 3) := by decide +kernel
theorem dX12_neighbour_8 : decode cX12_neighbour 8 = .ok (.aload_n 0, 1) := by decide +kernel
theorem dX12_neighbour_9 : decode cX12_neighbour 9 = .ok (.iload_n 2, 1) := by decide +kernel
theorem dX12_neighbour_10 : decode cX12_neighbour 10 = .ok (.invokevirtual 140, 3) := by decide +kernel
theorem dX12_neighbour_13 : decode cX12_neighbour 13 = .ok (.ifCond .eq 30, 3) := by decide +kernel
theorem dX12_neighbour_16 : decode cX12_neighbour 16 = .ok (.aload_n 0, 1) := by decide +kernel
theorem dX12_neighbour_17 : decode cX12_neighbour 17 = .ok (.iload_n 3, 1) := by decide +kernel
theorem dX12_neighbour_18 : decode cX12_neighbour 18 = .ok (.invokevirtual 73, 3) := by decide +kernel
theorem dX12_neighbour_21 : decode cX12_neighbour 21 = .ok (.ifCond .eq 22, 3) := by decide +kernel
theorem dX12_neighbour_24 : decode cX12_neighbour 24 = .ok (.iload 4, 2) := by decide +kernel
theorem dX12_neighbour_26 : decode cX12_neighbour 26 = .ok (.iconst 0, 1) := by decide +kernel
theorem dX12_neighbour_27 : decode cX12_neighbour 27 = .ok (.iconst 1, 1) := by decide +kernel
theorem dX12_neighbour_28 : decode cX12_neighbour 28 = .ok (.invokestatic 57, 3) := by decide +kernel
theorem dX12_neighbour_31 : decode cX12_neighbour 31 = .ok (.ifCond .eq 12, 3) := by decide +kernel
theorem dX12_neighbour_34 : decode cX12_neighbour 34 = .ok (.iload_n 1, 1) := by decide +kernel
theorem dX12_neighbour_35 : decode cX12_neighbour 35 = .ok (.iload_n 2, 1) := by decide +kernel
theorem dX12_neighbour_36 : decode cX12_neighbour 36 = .ok (.ishr, 1) := by decide +kernel
theorem dX12_neighbour_37 : decode cX12_neighbour 37 = .ok (.iconst 1, 1) := by decide +kernel
theorem dX12_neighbour_38 : decode cX12_neighbour 38 = .ok (.iand, 1) := by decide +kernel
theorem dX12_neighbour_39 : decode cX12_neighbour 39 = .ok (.iconst 1, 1) := by decide +kernel
theorem dX12_neighbour_40 : decode cX12_neighbour 40 = .ok (.if_icmp .ne 11, 3) := by decide +kernel
theorem dX12_neighbour_43 : decode cX12_neighbour 43 = .ok (.aload_n 0, 1) := by decide +kernel
theorem dX12_neighbour_44 : decode cX12_neighbour 44 = .ok (.iconst 0, 1) := by decide +kernel
theorem dX12_neighbour_45 : decode cX12_neighbour 45 = .ok (.bipush (-10), 2) := by decide +kernel
theorem dX12_neighbour_47 : decode cX12_neighbour 47 = .ok (.invokevirtual 53, 3) := by decide +kernel
theorem dX12_neighbour_50 : decode cX12_neighbour 50 = .ok (.ireturn, 1) := by decide +kernel
theorem dX12_neighbour_51 : decode cX12_neighbour 51 = .ok (.iconst 1, 1) := by decide +kernel
theorem dX12_neighbour_52 : decode cX12_neighbour 52 = .ok (.iconst 5, 1) := by decide +kernel
theorem dX12_neighbour_53 : decode cX12_neighbour 53 = .ok (.iload_n 2, 1) := by decide +kernel
theorem dX12_neighbour_54 : decode cX12_neighbour 54 = .ok (.imul, 1) := by decide +kernel
theorem dX12_neighbour_55 : decode cX12_neighbour 55 = .ok (.iload_n 3, 1) := by decide +kernel
theorem dX12_neighbour_56 : decode cX12_neighbour 56 = .ok (.iadd, 1) := by decide +kernel
theorem dX12_neighbour_57 : decode cX12_neighbour 57 = .ok (.ishl, 1) := by decide +kernel
theorem dX12_neighbour_58 : decode cX12_neighbour 58 = .ok (.istore 5, 2) := by decide +kernel
theorem dX12_neighbour_60 : decode cX12_neighbour 60 = .ok (.aload_n 0, 1) := by decide +kernel
theorem dX12_neighbour_61 : decode cX12_neighbour 61 = .ok (.iload_n 1, 1) := by decide +kernel
theorem dX12_neighbour_62 : decode cX12_neighbour 62 = .ok (.iconst 1, 1) := by decide +kernel
theorem dX12_neighbour_63 : decode cX12_neighbour 63 = .ok (.aload_n 0, 1) := by decide +kernel
theorem dX12_neighbour_64 : decode cX12_neighbour 64 = .ok (.getfield 7, 3) := by decide +kernel
theorem dX12_neighbour_67 : decode cX12_neighbour 67 = .ok (.iconst 0, 1) := by decide +kernel
theorem dX12_neighbour_68 : decode cX12_neighbour 68 = .ok (.iaload, 1) := by decide +kernel
theorem dX12_neighbour_69 : decode cX12_neighbour 69 = .ok (.ishl, 1) := by decide +kernel
theorem dX12_neighbour_70 : decode cX12_neighbour 70 = .ok (.iconst 1, 1) := by decide +kernel
theorem dX12_neighbour_71 : decode cX12_neighbour 71 = .ok (.isub, 1) := by decide +kernel
theorem dX12_neighbour_72 : decode cX12_neighbour 72 = .ok (.invokevirtual 176, 3) := by decide +kernel
theorem dX12_neighbour_75 : decode cX12_neighbour 75 = .ok (.iload 5, 2) := by decide +kernel
theorem dX12_neighbour_77 : decode cX12_neighbour 77 = .ok (.ior, 1) := by decide +kernel
theorem dX12_neighbour_78 : decode cX12_neighbour 78 = .ok (.istore 6, 2) := by decide +kernel
theorem dX12_neighbour_80 : decode cX12_neighbour 80 = .ok (.aload_n 0, 1) := by decide +kernel
theorem dX12_neighbour_81 : decode cX12_neighbour 81 = .ok (.iload_n 1, 1) := by decide +kernel
theorem dX12_neighbour_82 : decode cX12_neighbour 82 = .ok (.iconst 1, 1) := by decide +kernel
theorem dX12_neighbour_83 : decode cX12_neighbour 83 = .ok (.aload_n 0, 1) := by decide +kernel
theorem dX12_neighbour_84 : decode cX12_neighbour 84 = .ok (.getfield 7, 3) := by decide +kernel
theorem dX12_neighbour_87 : decode cX12_neighbour 87 = .ok (.iconst 2, 1) := by decide +kernel
theorem dX12_neighbour_88 : decode cX12_neighbour 88 = .ok (.iaload, 1) := by decide +kernel
theorem dX12_neighbour_89 : decode cX12_neighbour 89 = .ok (.ishl, 1) := by decide +kernel
theorem dX12_neighbour_90 : decode cX12_neighbour 90 = .ok (.invokevirtual 176, 3) := by decide +kernel
theorem dX12_neighbour_93 : decode cX12_neighbour 93 = .ok (.iload 5, 2) := by decide +kernel
theorem dX12_neighbour_95 : decode cX12_neighbour 95 = .ok (.ior, 1) := by decide +kernel
theorem dX12_neighbour_96 : decode cX12_neighbour 96 = .ok (.istore 7, 2) := by decide +kernel
theorem dX12_neighbour_98 : decode cX12_neighbour 98 = .ok (.aload_n 0, 1) := by decide +kernel
theorem dX12_neighbour_99 : decode cX12_neighbour 99 = .ok (.iload 6, 2) := by decide +kernel
theorem dX12_neighbour_101 : decode cX12_neighbour 101 = .ok (.iload 7, 2) := by decide +kernel
theorem dX12_neighbour_103 : decode cX12_neighbour 103 = .ok (.iconst 0, 1) := by decide +kernel
theorem dX12_neighbour_104 : decode cX12_neighbour 104 = .ok (.invokevirtual 179, 3) := by decide +kernel
theorem dX12_neighbour_107 : decode cX12_neighbour 107 = .ok (.ifCond .ne 7, 3) := by decide +kernel
theorem dX12_neighbour_110 : decode cX12_neighbour 110 = .ok (.iconst (-1), 1) := by decide +kernel
theorem dX12_neighbour_111 : decode cX12_neighbour 111 = .ok (.goto 19, 3) := by decide +kernel
theorem dX12_neighbour_114 : decode cX12_neighbour 114 = .ok (.iload 4, 2) := by decide +kernel
theorem dX12_neighbour_116 : decode cX12_neighbour 116 = .ok (.ifCond .ne 10, 3) := by decide +kernel
theorem dX12_neighbour_119 : decode cX12_neighbour 119 = .ok (.aload_n 0, 1) := by decide +kernel
theorem dX12_neighbour_120 : decode cX12_neighbour 120 = .ok (.getfield 163, 3) := by decide +kernel
theorem dX12_neighbour_123 : decode cX12_neighbour 123 = .ok (.goto 7, 3) := by decide +kernel
theorem dX12_neighbour_126 : decode cX12_neighbour 126 = .ok (.aload_n 0, 1) := by decide +kernel
theorem dX12_neighbour_127 : decode cX12_neighbour 127 = .ok (.invokevirtual 190, 3) := by decide +kernel
theorem dX12_neighbour_130 : decode cX12_neighbour 130 = .ok (.ireturn, 1) := by decide +kernel
theorem dX12_bits_0 : decode cX12_bits 0 = .ok (.iconst 0, 1) := by decide +kernel
theorem dX12_bits_1 : decode cX12_bits 1 = .ok (.istore_n 1, 1) := by decide +kernel
theorem dX12_bits_2 : decode cX12_bits 2 = .ok (.iconst 0, 1) := by decide +kernel
theorem dX12_bits_3 : decode cX12_bits 3 = .ok (.istore_n 2, 1) := by decide +kernel
theorem dX12_bits_4 : decode cX12_bits 4 = .ok (.iload_n 2, 1) := by decide +kernel
theorem dX12_bits_5 : decode cX12_bits 5 = .ok (.iconst 5, 1) := by decide +kernel
theorem dX12_bits_6 : decode cX12_bits 6 = .ok (.if_icmp .ge 17, 3) := by decide +kernel
theorem dX12_bits_9 : decode cX12_bits 9 = .ok (.iload_n 1, 1) := by decide +kernel
theorem dX12_bits_10 : decode cX12_bits 10 = .ok (.iload_n 0, 1) := by decide +kernel
theorem dX12_bits_11 : decode cX12_bits 11 = .ok (.iload_n 2, 1) := by decide +kernel
theorem dX12_bits_12 : decode cX12_bits 12 = .ok (.ishr, 1) := by decide +kernel
theorem dX12_bits_13 : decode cX12_bits 13 = .ok (.iconst 1, 1) := by decide +kernel
theorem dX12_bits_14 : decode cX12_bits 14 = .ok (.iand, 1) := by decide +kernel
theorem dX12_bits_15 : decode cX12_bits 15 = .ok (.iadd, 1) := by decide +kernel
theorem dX12_bits_16 : decode cX12_bits 16 = .ok (.istore_n 1, 1) := by decide +kernel
theorem dX12_bits_17 : decode cX12_bits 17 = .ok (.iinc 2 1, 3) := by decide +kernel
theorem dX12_bits_20 : decode cX12_bits 20 = .ok (.goto (-16), 3) := by decide +kernel
theorem dX12_bits_23 : decode cX12_bits 23 = .ok (.iload_n 1, 1) := by decide +kernel
theorem dX12_bits_24 : decode cX12_bits 24 = .ok (.ireturn, 1) := by decide +kernel
theorem dX12_apart_0 : decode cX12_apart 0 = .ok (.aload_n 0, 1) := by decide +kernel
theorem dX12_apart_1 : decode cX12_apart 1 = .ok (.iload_n 1, 1) := by decide +kernel
theorem dX12_apart_2 : decode cX12_apart 2 = .ok (.invokevirtual 140, 3) := by decide +kernel
theorem dX12_apart_5 : decode cX12_apart 5 = .ok (.ifCond .ne 8, 3) := by decide +kernel
theorem dX12_apart_8 : decode cX12_apart 8 = .ok (.aload_n 0, 1) := by decide +kernel
theorem dX12_apart_9 : decode cX12_apart 9 = .ok (.invokevirtual 61, 3) := by decide +kernel
theorem dX12_apart_12 : decode cX12_apart 12 = .ok (.ireturn, 1) := by decide +kernel
theorem dX12_apart_13 : decode cX12_apart 13 = .ok (.aload_n 0, 1) := by decide +kernel
theorem dX12_apart_14 : decode cX12_apart 14 = .ok (.getfield 7, 3) := by decide +kernel
theorem dX12_apart_17 : decode cX12_apart 17 = .ok (.iconst 0, 1) := by decide +kernel
theorem dX12_apart_18 : decode cX12_apart 18 = .ok (.iaload, 1) := by decide +kernel
theorem dX12_apart_19 : decode cX12_apart 19 = .ok (.istore_n 2, 1) := by decide +kernel
theorem dX12_apart_20 : decode cX12_apart 20 = .ok (.iconst 0, 1) := by decide +kernel
theorem dX12_apart_21 : decode cX12_apart 21 = .ok (.istore_n 3, 1) := by decide +kernel
theorem dX12_apart_22 : decode cX12_apart 22 = .ok (.iload_n 3, 1) := by decide +kernel
theorem dX12_apart_23 : decode cX12_apart 23 = .ok (.bipush 125, 2) := by decide +kernel
theorem dX12_apart_25 : decode cX12_apart 25 = .ok (.if_icmp .ge 32, 3) := by decide +kernel
theorem dX12_apart_28 : decode cX12_apart 28 = .ok (.aload_n 0, 1) := by decide +kernel
theorem dX12_apart_29 : decode cX12_apart 29 = .ok (.getfield 39, 3) := by decide +kernel
theorem dX12_apart_32 : decode cX12_apart 32 = .ok (.iload_n 3, 1) := by decide +kernel
theorem dX12_apart_33 : decode cX12_apart 33 = .ok (.iload_n 3, 1) := by decide +kernel
theorem dX12_apart_34 : decode cX12_apart 34 = .ok (.bipush 25, 2) := by decide +kernel
theorem dX12_apart_36 : decode cX12_apart 36 = .ok (.irem, 1) := by decide +kernel
theorem dX12_apart_37 : decode cX12_apart 37 = .ok (.iconst 5, 1) := by decide +kernel
theorem dX12_apart_38 : decode cX12_apart 38 = .ok (.idiv, 1) := by decide +kernel
theorem dX12_apart_39 : decode cX12_apart 39 = .ok (.iload_n 3, 1) := by decide +kernel
theorem dX12_apart_40 : decode cX12_apart 40 = .ok (.iconst 5, 1) := by decide +kernel
theorem dX12_apart_41 : decode cX12_apart 41 = .ok (.irem, 1) := by decide +kernel
theorem dX12_apart_42 : decode cX12_apart 42 = .ok (.if_icmp .ne 7, 3) := by decide +kernel
theorem dX12_apart_45 : decode cX12_apart 45 = .ok (.iconst 1, 1) := by decide +kernel
theorem dX12_apart_46 : decode cX12_apart 46 = .ok (.goto 4, 3) := by decide +kernel
theorem dX12_apart_49 : decode cX12_apart 49 = .ok (.iconst 0, 1) := by decide +kernel
theorem dX12_apart_50 : decode cX12_apart 50 = .ok (.bastore, 1) := by decide +kernel
theorem dX12_apart_51 : decode cX12_apart 51 = .ok (.iinc 3 1, 3) := by decide +kernel
theorem dX12_apart_54 : decode cX12_apart 54 = .ok (.goto (-32), 3) := by decide +kernel
theorem dX12_apart_57 : decode cX12_apart 57 = .ok (.iconst 1, 1) := by decide +kernel
theorem dX12_apart_58 : decode cX12_apart 58 = .ok (.istore_n 3, 1) := by decide +kernel
theorem dX12_apart_59 : decode cX12_apart 59 = .ok (.iload_n 3, 1) := by decide +kernel
theorem dX12_apart_60 : decode cX12_apart 60 = .ok (.ifCond .eq 215, 3) := by decide +kernel
theorem dX12_apart_63 : decode cX12_apart 63 = .ok (.iconst 0, 1) := by decide +kernel
theorem dX12_apart_64 : decode cX12_apart 64 = .ok (.istore_n 3, 1) := by decide +kernel
theorem dX12_apart_65 : decode cX12_apart 65 = .ok (.iconst 4, 1) := by decide +kernel
theorem dX12_apart_66 : decode cX12_apart 66 = .ok (.istore 4, 2) := by decide +kernel
theorem dX12_apart_68 : decode cX12_apart 68 = .ok (.iload 4, 2) := by decide +kernel
theorem dX12_apart_70 : decode cX12_apart 70 = .ok (.ifCond .lt 202, 3) := by decide +kernel
theorem dX12_apart_73 : decode cX12_apart 73 = .ok (.iload 4, 2) := by decide +kernel
theorem dX12_apart_75 : decode cX12_apart 75 = .ok (.iconst 4, 1) := by decide +kernel
theorem dX12_apart_76 : decode cX12_apart 76 = .ok (.if_icmp .ne 7, 3) := by decide +kernel
theorem dX12_apart_79 : decode cX12_apart 79 = .ok (.iconst 3, 1) := by decide +kernel
theorem dX12_apart_80 : decode cX12_apart 80 = .ok (.goto 7, 3) := by decide +kernel
theorem dX12_apart_83 : decode cX12_apart 83 = .ok (.iload 4, 2) := by decide +kernel
theorem dX12_apart_85 : decode cX12_apart 85 = .ok (.iconst 1, 1) := by decide +kernel
theorem dX12_apart_86 : decode cX12_apart 86 = .ok (.iadd, 1) := by decide +kernel
theorem dX12_apart_87 : decode cX12_apart 87 = .ok (.istore 5, 2) := by decide +kernel
theorem dX12_apart_89 : decode cX12_apart 89 = .ok (.iconst 0, 1) := by decide +kernel
theorem dX12_apart_90 : decode cX12_apart 90 = .ok (.istore 6, 2) := by decide +kernel
theorem dX12_apart_92 : decode cX12_apart 92 = .ok (.iload 6, 2) := by decide +kernel
theorem dX12_apart_94 : decode cX12_apart 94 = .ok (.iload_n 2, 1) := by decide +kernel
theorem dX12_apart_95 : decode cX12_apart 95 = .ok (.iload_n 2, 1) := by decide +kernel
theorem dX12_apart_96 : decode cX12_apart 96 = .ok (.imul, 1) := by decide +kernel
theorem dX12_apart_97 : decode cX12_apart 97 = .ok (.if_icmp .ge 169, 3) := by decide +kernel
theorem dX12_apart_100 : decode cX12_apart 100 = .ok (.iload 6, 2) := by decide +kernel
theorem dX12_apart_102 : decode cX12_apart 102 = .ok (.iload_n 2, 1) := by decide +kernel
theorem dX12_apart_103 : decode cX12_apart 103 = .ok (.idiv, 1) := by decide +kernel
theorem dX12_apart_104 : decode cX12_apart 104 = .ok (.istore 7, 2) := by decide +kernel
theorem dX12_apart_106 : decode cX12_apart 106 = .ok (.iload 6, 2) := by decide +kernel
theorem dX12_apart_108 : decode cX12_apart 108 = .ok (.iload_n 2, 1) := by decide +kernel
theorem dX12_apart_109 : decode cX12_apart 109 = .ok (.irem, 1) := by decide +kernel
theorem dX12_apart_110 : decode cX12_apart 110 = .ok (.istore 8, 2) := by decide +kernel
theorem dX12_apart_112 : decode cX12_apart 112 = .ok (.bipush 25, 2) := by decide +kernel
theorem dX12_apart_114 : decode cX12_apart 114 = .ok (.iload 4, 2) := by decide +kernel
theorem dX12_apart_116 : decode cX12_apart 116 = .ok (.imul, 1) := by decide +kernel
theorem dX12_apart_117 : decode cX12_apart 117 = .ok (.iconst 5, 1) := by decide +kernel
theorem dX12_apart_118 : decode cX12_apart 118 = .ok (.iload 7, 2) := by decide +kernel
theorem dX12_apart_120 : decode cX12_apart 120 = .ok (.imul, 1) := by decide +kernel
theorem dX12_apart_121 : decode cX12_apart 121 = .ok (.iadd, 1) := by decide +kernel
theorem dX12_apart_122 : decode cX12_apart 122 = .ok (.iload 8, 2) := by decide +kernel
theorem dX12_apart_124 : decode cX12_apart 124 = .ok (.iadd, 1) := by decide +kernel
theorem dX12_apart_125 : decode cX12_apart 125 = .ok (.istore 9, 2) := by decide +kernel
theorem dX12_apart_127 : decode cX12_apart 127 = .ok (.aload_n 0, 1) := by decide +kernel
theorem dX12_apart_128 : decode cX12_apart 128 = .ok (.getfield 39, 3) := by decide +kernel
theorem dX12_apart_131 : decode cX12_apart 131 = .ok (.bipush 25, 2) := by decide +kernel
theorem dX12_apart_133 : decode cX12_apart 133 = .ok (.iload 5, 2) := by decide +kernel
theorem dX12_apart_135 : decode cX12_apart 135 = .ok (.imul, 1) := by decide +kernel
theorem dX12_apart_136 : decode cX12_apart 136 = .ok (.iconst 5, 1) := by decide +kernel
theorem dX12_apart_137 : decode cX12_apart 137 = .ok (.aload_n 0, 1) := by decide +kernel
theorem dX12_apart_138 : decode cX12_apart 138 = .ok (.iload_n 1, 1) := by decide +kernel
theorem dX12_apart_139 : decode cX12_apart 139 = .ok (.iload 7, 2) := by decide +kernel
theorem dX12_apart_141 : decode cX12_apart 141 = .ok (.iconst 0, 1) := by decide +kernel
theorem dX12_apart_142 : decode cX12_apart 142 = .ok (.iload 4, 2) := by decide +kernel
theorem dX12_apart_144 : decode cX12_apart 144 = .ok (.invokevirtual 143, 3) := by decide +kernel
theorem dX12_apart_147 : decode cX12_apart 147 = .ok (.imul, 1) := by decide +kernel
theorem dX12_apart_148 : decode cX12_apart 148 = .ok (.iadd, 1) := by decide +kernel
theorem dX12_apart_149 : decode cX12_apart 149 = .ok (.aload_n 0, 1) := by decide +kernel
theorem dX12_apart_150 : decode cX12_apart 150 = .ok (.iload_n 1, 1) := by decide +kernel
theorem dX12_apart_151 : decode cX12_apart 151 = .ok (.iload 8, 2) := by decide +kernel
theorem dX12_apart_153 : decode cX12_apart 153 = .ok (.iconst 0, 1) := by decide +kernel
theorem dX12_apart_154 : decode cX12_apart 154 = .ok (.iload 4, 2) := by decide +kernel
theorem dX12_apart_156 : decode cX12_apart 156 = .ok (.invokevirtual 143, 3) := by decide +kernel
theorem dX12_apart_159 : decode cX12_apart 159 = .ok (.iadd, 1) := by decide +kernel
theorem dX12_apart_160 : decode cX12_apart 160 = .ok (.baload, 1) := by decide +kernel
theorem dX12_apart_161 : decode cX12_apart 161 = .ok (.ifCond .ne 40, 3) := by decide +kernel
theorem dX12_apart_164 : decode cX12_apart 164 = .ok (.aload_n 0, 1) := by decide +kernel
theorem dX12_apart_165 : decode cX12_apart 165 = .ok (.getfield 39, 3) := by decide +kernel
theorem dX12_apart_168 : decode cX12_apart 168 = .ok (.bipush 25, 2) := by decide +kernel
theorem dX12_apart_170 : decode cX12_apart 170 = .ok (.iload 5, 2) := by decide +kernel
theorem dX12_apart_172 : decode cX12_apart 172 = .ok (.imul, 1) := by decide +kernel
theorem dX12_apart_173 : decode cX12_apart 173 = .ok (.iconst 5, 1) := by decide +kernel
theorem dX12_apart_174 : decode cX12_apart 174 = .ok (.aload_n 0, 1) := by decide +kernel
theorem dX12_apart_175 : decode cX12_apart 175 = .ok (.iload_n 1, 1) := by decide +kernel
theorem dX12_apart_176 : decode cX12_apart 176 = .ok (.iload 7, 2) := by decide +kernel
theorem dX12_apart_178 : decode cX12_apart 178 = .ok (.iconst 1, 1) := by decide +kernel
theorem dX12_apart_179 : decode cX12_apart 179 = .ok (.iload 4, 2) := by decide +kernel
theorem dX12_apart_181 : decode cX12_apart 181 = .ok (.invokevirtual 143, 3) := by decide +kernel
theorem dX12_apart_184 : decode cX12_apart 184 = .ok (.imul, 1) := by decide +kernel
theorem dX12_apart_185 : decode cX12_apart 185 = .ok (.iadd, 1) := by decide +kernel
theorem dX12_apart_186 : decode cX12_apart 186 = .ok (.aload_n 0, 1) := by decide +kernel
theorem dX12_apart_187 : decode cX12_apart 187 = .ok (.iload_n 1, 1) := by decide +kernel
theorem dX12_apart_188 : decode cX12_apart 188 = .ok (.iload 8, 2) := by decide +kernel
theorem dX12_apart_190 : decode cX12_apart 190 = .ok (.iconst 1, 1) := by decide +kernel
theorem dX12_apart_191 : decode cX12_apart 191 = .ok (.iload 4, 2) := by decide +kernel
theorem dX12_apart_193 : decode cX12_apart 193 = .ok (.invokevirtual 143, 3) := by decide +kernel
theorem dX12_apart_196 : decode cX12_apart 196 = .ok (.iadd, 1) := by decide +kernel
theorem dX12_apart_197 : decode cX12_apart 197 = .ok (.baload, 1) := by decide +kernel
theorem dX12_apart_198 : decode cX12_apart 198 = .ok (.ifCond .eq 7, 3) := by decide +kernel
theorem dX12_apart_201 : decode cX12_apart 201 = .ok (.iconst 1, 1) := by decide +kernel
theorem dX12_apart_202 : decode cX12_apart 202 = .ok (.goto 4, 3) := by decide +kernel
theorem dX12_apart_205 : decode cX12_apart 205 = .ok (.iconst 0, 1) := by decide +kernel
theorem dX12_apart_206 : decode cX12_apart 206 = .ok (.istore 10, 2) := by decide +kernel
theorem dX12_apart_208 : decode cX12_apart 208 = .ok (.iload_n 3, 1) := by decide +kernel
theorem dX12_apart_209 : decode cX12_apart 209 = .ok (.ifCond .ne 18, 3) := by decide +kernel
theorem dX12_apart_212 : decode cX12_apart 212 = .ok (.iload 10, 2) := by decide +kernel
theorem dX12_apart_214 : decode cX12_apart 214 = .ok (.ifCond .eq 17, 3) := by decide +kernel
theorem dX12_apart_217 : decode cX12_apart 217 = .ok (.aload_n 0, 1) := by decide +kernel
theorem dX12_apart_218 : decode cX12_apart 218 = .ok (.getfield 39, 3) := by decide +kernel
theorem dX12_apart_221 : decode cX12_apart 221 = .ok (.iload 9, 2) := by decide +kernel
theorem dX12_apart_223 : decode cX12_apart 223 = .ok (.baload, 1) := by decide +kernel
theorem dX12_apart_224 : decode cX12_apart 224 = .ok (.ifCond .ne 7, 3) := by decide +kernel
theorem dX12_apart_227 : decode cX12_apart 227 = .ok (.iconst 1, 1) := by decide +kernel
theorem dX12_apart_228 : decode cX12_apart 228 = .ok (.goto 4, 3) := by decide +kernel
theorem dX12_apart_231 : decode cX12_apart 231 = .ok (.iconst 0, 1) := by decide +kernel
theorem dX12_apart_232 : decode cX12_apart 232 = .ok (.istore_n 3, 1) := by decide +kernel
theorem dX12_apart_233 : decode cX12_apart 233 = .ok (.aload_n 0, 1) := by decide +kernel
theorem dX12_apart_234 : decode cX12_apart 234 = .ok (.getfield 39, 3) := by decide +kernel
theorem dX12_apart_237 : decode cX12_apart 237 = .ok (.iload 9, 2) := by decide +kernel
theorem dX12_apart_239 : decode cX12_apart 239 = .ok (.aload_n 0, 1) := by decide +kernel
theorem dX12_apart_240 : decode cX12_apart 240 = .ok (.getfield 39, 3) := by decide +kernel
theorem dX12_apart_243 : decode cX12_apart 243 = .ok (.iload 9, 2) := by decide +kernel
theorem dX12_apart_245 : decode cX12_apart 245 = .ok (.baload, 1) := by decide +kernel
theorem dX12_apart_246 : decode cX12_apart 246 = .ok (.ifCond .ne 8, 3) := by decide +kernel
theorem dX12_apart_249 : decode cX12_apart 249 = .ok (.iload 10, 2) := by decide +kernel
theorem dX12_apart_251 : decode cX12_apart 251 = .ok (.ifCond .eq 7, 3) := by decide +kernel
theorem dX12_apart_254 : decode cX12_apart 254 = .ok (.iconst 1, 1) := by decide +kernel
theorem dX12_apart_255 : decode cX12_apart 255 = .ok (.goto 4, 3) := by decide +kernel
theorem dX12_apart_258 : decode cX12_apart 258 = .ok (.iconst 0, 1) := by decide +kernel
theorem dX12_apart_259 : decode cX12_apart 259 = .ok (.bastore, 1) := by decide +kernel
theorem dX12_apart_260 : decode cX12_apart 260 = .ok (.iinc 6 1, 3) := by decide +kernel
theorem dX12_apart_263 : decode cX12_apart 263 = .ok (.goto (-171), 3) := by decide +kernel
theorem dX12_apart_266 : decode cX12_apart 266 = .ok (.iinc 4 (-1), 3) := by decide +kernel
theorem dX12_apart_269 : decode cX12_apart 269 = .ok (.goto (-201), 3) := by decide +kernel
theorem dX12_apart_272 : decode cX12_apart 272 = .ok (.goto (-213), 3) := by decide +kernel
theorem dX12_apart_275 : decode cX12_apart 275 = .ok (.iconst 0, 1) := by decide +kernel
theorem dX12_apart_276 : decode cX12_apart 276 = .ok (.istore 4, 2) := by decide +kernel
theorem dX12_apart_278 : decode cX12_apart 278 = .ok (.iload 4, 2) := by decide +kernel
theorem dX12_apart_280 : decode cX12_apart 280 = .ok (.iload_n 2, 1) := by decide +kernel
theorem dX12_apart_281 : decode cX12_apart 281 = .ok (.if_icmp .ge 51, 3) := by decide +kernel
theorem dX12_apart_284 : decode cX12_apart 284 = .ok (.iload 4, 2) := by decide +kernel
theorem dX12_apart_286 : decode cX12_apart 286 = .ok (.iconst 1, 1) := by decide +kernel
theorem dX12_apart_287 : decode cX12_apart 287 = .ok (.iadd, 1) := by decide +kernel
theorem dX12_apart_288 : decode cX12_apart 288 = .ok (.istore 5, 2) := by decide +kernel
theorem dX12_apart_290 : decode cX12_apart 290 = .ok (.iload 5, 2) := by decide +kernel
theorem dX12_apart_292 : decode cX12_apart 292 = .ok (.iload_n 2, 1) := by decide +kernel
theorem dX12_apart_293 : decode cX12_apart 293 = .ok (.if_icmp .ge 33, 3) := by decide +kernel
theorem dX12_apart_296 : decode cX12_apart 296 = .ok (.aload_n 0, 1) := by decide +kernel
theorem dX12_apart_297 : decode cX12_apart 297 = .ok (.getfield 39, 3) := by decide +kernel
theorem dX12_apart_300 : decode cX12_apart 300 = .ok (.iconst 5, 1) := by decide +kernel
theorem dX12_apart_301 : decode cX12_apart 301 = .ok (.iload 4, 2) := by decide +kernel
theorem dX12_apart_303 : decode cX12_apart 303 = .ok (.imul, 1) := by decide +kernel
theorem dX12_apart_304 : decode cX12_apart 304 = .ok (.iload 5, 2) := by decide +kernel
theorem dX12_apart_306 : decode cX12_apart 306 = .ok (.iadd, 1) := by decide +kernel
theorem dX12_apart_307 : decode cX12_apart 307 = .ok (.baload, 1) := by decide +kernel
theorem dX12_apart_308 : decode cX12_apart 308 = .ok (.ifCond .ne 12, 3) := by decide +kernel
theorem dX12_apart_311 : decode cX12_apart 311 = .ok (.bipush 10, 2) := by decide +kernel
theorem dX12_apart_313 : decode cX12_apart 313 = .ok (.iload 4, 2) := by decide +kernel
theorem dX12_apart_315 : decode cX12_apart 315 = .ok (.imul, 1) := by decide +kernel
theorem dX12_apart_316 : decode cX12_apart 316 = .ok (.iload 5, 2) := by decide +kernel
theorem dX12_apart_318 : decode cX12_apart 318 = .ok (.iadd, 1) := by decide +kernel
theorem dX12_apart_319 : decode cX12_apart 319 = .ok (.ireturn, 1) := by decide +kernel
theorem dX12_apart_320 : decode cX12_apart 320 = .ok (.iinc 5 1, 3) := by decide +kernel
theorem dX12_apart_323 : decode cX12_apart 323 = .ok (.goto (-33), 3) := by decide +kernel
theorem dX12_apart_326 : decode cX12_apart 326 = .ok (.iinc 4 1, 3) := by decide +kernel
theorem dX12_apart_329 : decode cX12_apart 329 = .ok (.goto (-51), 3) := by decide +kernel
theorem dX12_apart_332 : decode cX12_apart 332 = .ok (.iconst (-1), 1) := by decide +kernel
theorem dX12_apart_333 : decode cX12_apart 333 = .ok (.ireturn, 1) := by decide +kernel
theorem dX12_takesBy_0 : decode cX12_takesBy 0 = .ok (.iconst 0, 1) := by decide +kernel
theorem dX12_takesBy_1 : decode cX12_takesBy 1 = .ok (.istore 5, 2) := by decide +kernel
theorem dX12_takesBy_3 : decode cX12_takesBy 3 = .ok (.iconst 0, 1) := by decide +kernel
theorem dX12_takesBy_4 : decode cX12_takesBy 4 = .ok (.istore 6, 2) := by decide +kernel
theorem dX12_takesBy_6 : decode cX12_takesBy 6 = .ok (.iload 6, 2) := by decide +kernel
theorem dX12_takesBy_8 : decode cX12_takesBy 8 = .ok (.aload_n 0, 1) := by decide +kernel
theorem dX12_takesBy_9 : decode cX12_takesBy 9 = .ok (.getfield 7, 3) := by decide +kernel
theorem dX12_takesBy_12 : decode cX12_takesBy 12 = .ok (.iconst 0, 1) := by decide +kernel
theorem dX12_takesBy_13 : decode cX12_takesBy 13 = .ok (.iaload, 1) := by decide +kernel
theorem dX12_takesBy_14 : decode cX12_takesBy 14 = .ok (.if_icmp .ge 51, 3) := by decide +kernel
theorem dX12_takesBy_17 : decode cX12_takesBy 17 = .ok (.iload_n 2, 1) := by decide +kernel
theorem dX12_takesBy_18 : decode cX12_takesBy 18 = .ok (.iload 6, 2) := by decide +kernel
theorem dX12_takesBy_20 : decode cX12_takesBy 20 = .ok (.ishr, 1) := by decide +kernel
theorem dX12_takesBy_21 : decode cX12_takesBy 21 = .ok (.iconst 1, 1) := by decide +kernel
theorem dX12_takesBy_22 : decode cX12_takesBy 22 = .ok (.iand, 1) := by decide +kernel
theorem dX12_takesBy_23 : decode cX12_takesBy 23 = .ok (.iconst 1, 1) := by decide +kernel
theorem dX12_takesBy_24 : decode cX12_takesBy 24 = .ok (.if_icmp .ne 35, 3) := by decide +kernel
theorem dX12_takesBy_27 : decode cX12_takesBy 27 = .ok (.iconst 1, 1) := by decide +kernel
theorem dX12_takesBy_28 : decode cX12_takesBy 28 = .ok (.aload_n 0, 1) := by decide +kernel
theorem dX12_takesBy_29 : decode cX12_takesBy 29 = .ok (.iload_n 1, 1) := by decide +kernel
theorem dX12_takesBy_30 : decode cX12_takesBy 30 = .ok (.iload 6, 2) := by decide +kernel
theorem dX12_takesBy_32 : decode cX12_takesBy 32 = .ok (.iload_n 3, 1) := by decide +kernel
theorem dX12_takesBy_33 : decode cX12_takesBy 33 = .ok (.iload 4, 2) := by decide +kernel
theorem dX12_takesBy_35 : decode cX12_takesBy 35 = .ok (.invokevirtual 143, 3) := by decide +kernel
theorem dX12_takesBy_38 : decode cX12_takesBy 38 = .ok (.ishl, 1) := by decide +kernel
theorem dX12_takesBy_39 : decode cX12_takesBy 39 = .ok (.istore 7, 2) := by decide +kernel
theorem dX12_takesBy_41 : decode cX12_takesBy 41 = .ok (.iload 5, 2) := by decide +kernel
theorem dX12_takesBy_43 : decode cX12_takesBy 43 = .ok (.iload 7, 2) := by decide +kernel
theorem dX12_takesBy_45 : decode cX12_takesBy 45 = .ok (.iand, 1) := by decide +kernel
theorem dX12_takesBy_46 : decode cX12_takesBy 46 = .ok (.ifCond .eq 6, 3) := by decide +kernel
theorem dX12_takesBy_49 : decode cX12_takesBy 49 = .ok (.bipush 99, 2) := by decide +kernel
theorem dX12_takesBy_51 : decode cX12_takesBy 51 = .ok (.ireturn, 1) := by decide +kernel
theorem dX12_takesBy_52 : decode cX12_takesBy 52 = .ok (.iload 5, 2) := by decide +kernel
theorem dX12_takesBy_54 : decode cX12_takesBy 54 = .ok (.iload 7, 2) := by decide +kernel
theorem dX12_takesBy_56 : decode cX12_takesBy 56 = .ok (.ior, 1) := by decide +kernel
theorem dX12_takesBy_57 : decode cX12_takesBy 57 = .ok (.istore 5, 2) := by decide +kernel
theorem dX12_takesBy_59 : decode cX12_takesBy 59 = .ok (.iinc 6 1, 3) := by decide +kernel
theorem dX12_takesBy_62 : decode cX12_takesBy 62 = .ok (.goto (-56), 3) := by decide +kernel
theorem dX12_takesBy_65 : decode cX12_takesBy 65 = .ok (.aload_n 0, 1) := by decide +kernel
theorem dX12_takesBy_66 : decode cX12_takesBy 66 = .ok (.getfield 42, 3) := by decide +kernel
theorem dX12_takesBy_69 : decode cX12_takesBy 69 = .ok (.bipush 32, 2) := by decide +kernel
theorem dX12_takesBy_71 : decode cX12_takesBy 71 = .ok (.iload 4, 2) := by decide +kernel
theorem dX12_takesBy_73 : decode cX12_takesBy 73 = .ok (.iconst 1, 1) := by decide +kernel
theorem dX12_takesBy_74 : decode cX12_takesBy 74 = .ok (.iadd, 1) := by decide +kernel
theorem dX12_takesBy_75 : decode cX12_takesBy 75 = .ok (.imul, 1) := by decide +kernel
theorem dX12_takesBy_76 : decode cX12_takesBy 76 = .ok (.iload 5, 2) := by decide +kernel
theorem dX12_takesBy_78 : decode cX12_takesBy 78 = .ok (.aload_n 0, 1) := by decide +kernel
theorem dX12_takesBy_79 : decode cX12_takesBy 79 = .ok (.getfield 7, 3) := by decide +kernel
theorem dX12_takesBy_82 : decode cX12_takesBy 82 = .ok (.iconst 3, 1) := by decide +kernel
theorem dX12_takesBy_83 : decode cX12_takesBy 83 = .ok (.iaload, 1) := by decide +kernel
theorem dX12_takesBy_84 : decode cX12_takesBy 84 = .ok (.iand, 1) := by decide +kernel
theorem dX12_takesBy_85 : decode cX12_takesBy 85 = .ok (.iadd, 1) := by decide +kernel
theorem dX12_takesBy_86 : decode cX12_takesBy 86 = .ok (.iaload, 1) := by decide +kernel
theorem dX12_takesBy_87 : decode cX12_takesBy 87 = .ok (.istore 6, 2) := by decide +kernel
theorem dX12_takesBy_89 : decode cX12_takesBy 89 = .ok (.aload_n 0, 1) := by decide +kernel
theorem dX12_takesBy_90 : decode cX12_takesBy 90 = .ok (.getfield 42, 3) := by decide +kernel
theorem dX12_takesBy_93 : decode cX12_takesBy 93 = .ok (.bipush 32, 2) := by decide +kernel
theorem dX12_takesBy_95 : decode cX12_takesBy 95 = .ok (.iload 4, 2) := by decide +kernel
theorem dX12_takesBy_97 : decode cX12_takesBy 97 = .ok (.iconst 1, 1) := by decide +kernel
theorem dX12_takesBy_98 : decode cX12_takesBy 98 = .ok (.iadd, 1) := by decide +kernel
theorem dX12_takesBy_99 : decode cX12_takesBy 99 = .ok (.imul, 1) := by decide +kernel
theorem dX12_takesBy_100 : decode cX12_takesBy 100 = .ok (.iload 5, 2) := by decide +kernel
theorem dX12_takesBy_102 : decode cX12_takesBy 102 = .ok (.aload_n 0, 1) := by decide +kernel
theorem dX12_takesBy_103 : decode cX12_takesBy 103 = .ok (.getfield 7, 3) := by decide +kernel
theorem dX12_takesBy_106 : decode cX12_takesBy 106 = .ok (.iconst 3, 1) := by decide +kernel
theorem dX12_takesBy_107 : decode cX12_takesBy 107 = .ok (.iaload, 1) := by decide +kernel
theorem dX12_takesBy_108 : decode cX12_takesBy 108 = .ok (.iconst (-1), 1) := by decide +kernel
theorem dX12_takesBy_109 : decode cX12_takesBy 109 = .ok (.ixor, 1) := by decide +kernel
theorem dX12_takesBy_110 : decode cX12_takesBy 110 = .ok (.iand, 1) := by decide +kernel
theorem dX12_takesBy_111 : decode cX12_takesBy 111 = .ok (.iadd, 1) := by decide +kernel
theorem dX12_takesBy_112 : decode cX12_takesBy 112 = .ok (.iaload, 1) := by decide +kernel
theorem dX12_takesBy_113 : decode cX12_takesBy 113 = .ok (.istore 7, 2) := by decide +kernel
theorem dX12_takesBy_115 : decode cX12_takesBy 115 = .ok (.iload 6, 2) := by decide +kernel
theorem dX12_takesBy_117 : decode cX12_takesBy 117 = .ok (.iload 7, 2) := by decide +kernel
theorem dX12_takesBy_119 : decode cX12_takesBy 119 = .ok (.if_icmp .le 8, 3) := by decide +kernel
theorem dX12_takesBy_122 : decode cX12_takesBy 122 = .ok (.iload 6, 2) := by decide +kernel
theorem dX12_takesBy_124 : decode cX12_takesBy 124 = .ok (.goto 5, 3) := by decide +kernel
theorem dX12_takesBy_127 : decode cX12_takesBy 127 = .ok (.iload 7, 2) := by decide +kernel
theorem dX12_takesBy_129 : decode cX12_takesBy 129 = .ok (.istore 8, 2) := by decide +kernel
theorem dX12_takesBy_131 : decode cX12_takesBy 131 = .ok (.iload 8, 2) := by decide +kernel
theorem dX12_takesBy_133 : decode cX12_takesBy 133 = .ok (.bipush 99, 2) := by decide +kernel
theorem dX12_takesBy_135 : decode cX12_takesBy 135 = .ok (.if_icmp .ne 8, 3) := by decide +kernel
theorem dX12_takesBy_138 : decode cX12_takesBy 138 = .ok (.bipush 99, 2) := by decide +kernel
theorem dX12_takesBy_140 : decode cX12_takesBy 140 = .ok (.goto 7, 3) := by decide +kernel
theorem dX12_takesBy_143 : decode cX12_takesBy 143 = .ok (.iload 8, 2) := by decide +kernel
theorem dX12_takesBy_145 : decode cX12_takesBy 145 = .ok (.iconst 1, 1) := by decide +kernel
theorem dX12_takesBy_146 : decode cX12_takesBy 146 = .ok (.iadd, 1) := by decide +kernel
theorem dX12_takesBy_147 : decode cX12_takesBy 147 = .ok (.ireturn, 1) := by decide +kernel
theorem dX12_allTakes_0 : decode cX12_allTakes 0 = .ok (.bipush 8, 2) := by decide +kernel
theorem dX12_allTakes_2 : decode cX12_allTakes 2 = .ok (.istore_n 2, 1) := by decide +kernel
theorem dX12_allTakes_3 : decode cX12_allTakes 3 = .ok (.iload_n 2, 1) := by decide +kernel
theorem dX12_allTakes_4 : decode cX12_allTakes 4 = .ok (.ifCond .lt 111, 3) := by decide +kernel
theorem dX12_allTakes_7 : decode cX12_allTakes 7 = .ok (.iconst 0, 1) := by decide +kernel
theorem dX12_allTakes_8 : decode cX12_allTakes 8 = .ok (.istore_n 3, 1) := by decide +kernel
theorem dX12_allTakes_9 : decode cX12_allTakes 9 = .ok (.iload_n 3, 1) := by decide +kernel
theorem dX12_allTakes_10 : decode cX12_allTakes 10 = .ok (.iconst 1, 1) := by decide +kernel
theorem dX12_allTakes_11 : decode cX12_allTakes 11 = .ok (.aload_n 0, 1) := by decide +kernel
theorem dX12_allTakes_12 : decode cX12_allTakes 12 = .ok (.getfield 7, 3) := by decide +kernel
theorem dX12_allTakes_15 : decode cX12_allTakes 15 = .ok (.iconst 0, 1) := by decide +kernel
theorem dX12_allTakes_16 : decode cX12_allTakes 16 = .ok (.iaload, 1) := by decide +kernel
theorem dX12_allTakes_17 : decode cX12_allTakes 17 = .ok (.ishl, 1) := by decide +kernel
theorem dX12_allTakes_18 : decode cX12_allTakes 18 = .ok (.if_icmp .ge 91, 3) := by decide +kernel
theorem dX12_allTakes_21 : decode cX12_allTakes 21 = .ok (.iload_n 3, 1) := by decide +kernel
theorem dX12_allTakes_22 : decode cX12_allTakes 22 = .ok (.invokestatic 193, 3) := by decide +kernel
theorem dX12_allTakes_25 : decode cX12_allTakes 25 = .ok (.iconst 2, 1) := by decide +kernel
theorem dX12_allTakes_26 : decode cX12_allTakes 26 = .ok (.if_icmp .ge 7, 3) := by decide +kernel
theorem dX12_allTakes_29 : decode cX12_allTakes 29 = .ok (.iconst 0, 1) := by decide +kernel
theorem dX12_allTakes_30 : decode cX12_allTakes 30 = .ok (.goto 5, 3) := by decide +kernel
theorem dX12_allTakes_33 : decode cX12_allTakes 33 = .ok (.bipush 99, 2) := by decide +kernel
theorem dX12_allTakes_35 : decode cX12_allTakes 35 = .ok (.istore 4, 2) := by decide +kernel
theorem dX12_allTakes_37 : decode cX12_allTakes 37 = .ok (.iconst 0, 1) := by decide +kernel
theorem dX12_allTakes_38 : decode cX12_allTakes 38 = .ok (.istore 5, 2) := by decide +kernel
theorem dX12_allTakes_40 : decode cX12_allTakes 40 = .ok (.iload 5, 2) := by decide +kernel
theorem dX12_allTakes_42 : decode cX12_allTakes 42 = .ok (.iconst 2, 1) := by decide +kernel
theorem dX12_allTakes_43 : decode cX12_allTakes 43 = .ok (.if_icmp .ge 47, 3) := by decide +kernel
theorem dX12_allTakes_46 : decode cX12_allTakes 46 = .ok (.iload 4, 2) := by decide +kernel
theorem dX12_allTakes_48 : decode cX12_allTakes 48 = .ok (.ifCond .le 42, 3) := by decide +kernel
theorem dX12_allTakes_51 : decode cX12_allTakes 51 = .ok (.iload_n 2, 1) := by decide +kernel
theorem dX12_allTakes_52 : decode cX12_allTakes 52 = .ok (.bipush 8, 2) := by decide +kernel
theorem dX12_allTakes_54 : decode cX12_allTakes 54 = .ok (.if_icmp .ge 36, 3) := by decide +kernel
theorem dX12_allTakes_57 : decode cX12_allTakes 57 = .ok (.aload_n 0, 1) := by decide +kernel
theorem dX12_allTakes_58 : decode cX12_allTakes 58 = .ok (.iload_n 1, 1) := by decide +kernel
theorem dX12_allTakes_59 : decode cX12_allTakes 59 = .ok (.iload_n 3, 1) := by decide +kernel
theorem dX12_allTakes_60 : decode cX12_allTakes 60 = .ok (.iload 5, 2) := by decide +kernel
theorem dX12_allTakes_62 : decode cX12_allTakes 62 = .ok (.iload_n 2, 1) := by decide +kernel
theorem dX12_allTakes_63 : decode cX12_allTakes 63 = .ok (.invokevirtual 196, 3) := by decide +kernel
theorem dX12_allTakes_66 : decode cX12_allTakes 66 = .ok (.istore 6, 2) := by decide +kernel
theorem dX12_allTakes_68 : decode cX12_allTakes 68 = .ok (.iload 6, 2) := by decide +kernel
theorem dX12_allTakes_70 : decode cX12_allTakes 70 = .ok (.iload 4, 2) := by decide +kernel
theorem dX12_allTakes_72 : decode cX12_allTakes 72 = .ok (.if_icmp .ge 8, 3) := by decide +kernel
theorem dX12_allTakes_75 : decode cX12_allTakes 75 = .ok (.iload 6, 2) := by decide +kernel
theorem dX12_allTakes_77 : decode cX12_allTakes 77 = .ok (.goto 5, 3) := by decide +kernel
theorem dX12_allTakes_80 : decode cX12_allTakes 80 = .ok (.iload 4, 2) := by decide +kernel
theorem dX12_allTakes_82 : decode cX12_allTakes 82 = .ok (.istore 4, 2) := by decide +kernel
theorem dX12_allTakes_84 : decode cX12_allTakes 84 = .ok (.iinc 5 1, 3) := by decide +kernel
theorem dX12_allTakes_87 : decode cX12_allTakes 87 = .ok (.goto (-47), 3) := by decide +kernel
theorem dX12_allTakes_90 : decode cX12_allTakes 90 = .ok (.aload_n 0, 1) := by decide +kernel
theorem dX12_allTakes_91 : decode cX12_allTakes 91 = .ok (.getfield 42, 3) := by decide +kernel
theorem dX12_allTakes_94 : decode cX12_allTakes 94 = .ok (.bipush 32, 2) := by decide +kernel
theorem dX12_allTakes_96 : decode cX12_allTakes 96 = .ok (.iload_n 2, 1) := by decide +kernel
theorem dX12_allTakes_97 : decode cX12_allTakes 97 = .ok (.imul, 1) := by decide +kernel
theorem dX12_allTakes_98 : decode cX12_allTakes 98 = .ok (.iload_n 3, 1) := by decide +kernel
theorem dX12_allTakes_99 : decode cX12_allTakes 99 = .ok (.iadd, 1) := by decide +kernel
theorem dX12_allTakes_100 : decode cX12_allTakes 100 = .ok (.iload 4, 2) := by decide +kernel
theorem dX12_allTakes_102 : decode cX12_allTakes 102 = .ok (.iastore, 1) := by decide +kernel
theorem dX12_allTakes_103 : decode cX12_allTakes 103 = .ok (.iinc 3 1, 3) := by decide +kernel
theorem dX12_allTakes_106 : decode cX12_allTakes 106 = .ok (.goto (-97), 3) := by decide +kernel
theorem dX12_allTakes_109 : decode cX12_allTakes 109 = .ok (.iinc 2 (-1), 3) := by decide +kernel
theorem dX12_allTakes_112 : decode cX12_allTakes 112 = .ok (.goto (-109), 3) := by decide +kernel
theorem dX12_allTakes_115 : decode cX12_allTakes 115 = .ok (.return_, 1) := by decide +kernel
theorem dX12_tells_0 : decode cX12_tells 0 = .ok (.aload_n 0, 1) := by decide +kernel
theorem dX12_tells_1 : decode cX12_tells 1 = .ok (.iload_n 1, 1) := by decide +kernel
theorem dX12_tells_2 : decode cX12_tells 2 = .ok (.invokevirtual 140, 3) := by decide +kernel
theorem dX12_tells_5 : decode cX12_tells 5 = .ok (.ifCond .eq 30, 3) := by decide +kernel
theorem dX12_tells_8 : decode cX12_tells 8 = .ok (.iload_n 2, 1) := by decide +kernel
theorem dX12_tells_9 : decode cX12_tells 9 = .ok (.iconst 1, 1) := by decide +kernel
theorem dX12_tells_10 : decode cX12_tells 10 = .ok (.iconst 1, 1) := by decide +kernel
theorem dX12_tells_11 : decode cX12_tells 11 = .ok (.aload_n 0, 1) := by decide +kernel
theorem dX12_tells_12 : decode cX12_tells 12 = .ok (.getfield 7, 3) := by decide +kernel
theorem dX12_tells_15 : decode cX12_tells 15 = .ok (.iconst 0, 1) := by decide +kernel
theorem dX12_tells_16 : decode cX12_tells 16 = .ok (.iaload, 1) := by decide +kernel
theorem dX12_tells_17 : decode cX12_tells 17 = .ok (.ishl, 1) := by decide +kernel
theorem dX12_tells_18 : decode cX12_tells 18 = .ok (.iconst 1, 1) := by decide +kernel
theorem dX12_tells_19 : decode cX12_tells 19 = .ok (.isub, 1) := by decide +kernel
theorem dX12_tells_20 : decode cX12_tells 20 = .ok (.invokestatic 57, 3) := by decide +kernel
theorem dX12_tells_23 : decode cX12_tells 23 = .ok (.ifCond .eq 12, 3) := by decide +kernel
theorem dX12_tells_26 : decode cX12_tells 26 = .ok (.iload_n 3, 1) := by decide +kernel
theorem dX12_tells_27 : decode cX12_tells 27 = .ok (.iconst 0, 1) := by decide +kernel
theorem dX12_tells_28 : decode cX12_tells 28 = .ok (.iconst 2, 1) := by decide +kernel
theorem dX12_tells_29 : decode cX12_tells 29 = .ok (.invokestatic 57, 3) := by decide +kernel
theorem dX12_tells_32 : decode cX12_tells 32 = .ok (.ifCond .ne 11, 3) := by decide +kernel
theorem dX12_tells_35 : decode cX12_tells 35 = .ok (.aload_n 0, 1) := by decide +kernel
theorem dX12_tells_36 : decode cX12_tells 36 = .ok (.iconst 0, 1) := by decide +kernel
theorem dX12_tells_37 : decode cX12_tells 37 = .ok (.bipush (-10), 2) := by decide +kernel
theorem dX12_tells_39 : decode cX12_tells 39 = .ok (.invokevirtual 53, 3) := by decide +kernel
theorem dX12_tells_42 : decode cX12_tells 42 = .ok (.ireturn, 1) := by decide +kernel
theorem dX12_tells_43 : decode cX12_tells 43 = .ok (.aload_n 0, 1) := by decide +kernel
theorem dX12_tells_44 : decode cX12_tells 44 = .ok (.iload_n 1, 1) := by decide +kernel
theorem dX12_tells_45 : decode cX12_tells 45 = .ok (.invokevirtual 199, 3) := by decide +kernel
theorem dX12_tells_48 : decode cX12_tells 48 = .ok (.iload_n 2, 1) := by decide +kernel
theorem dX12_tells_49 : decode cX12_tells 49 = .ok (.aload_n 0, 1) := by decide +kernel
theorem dX12_tells_50 : decode cX12_tells 50 = .ok (.getfield 7, 3) := by decide +kernel
theorem dX12_tells_53 : decode cX12_tells 53 = .ok (.iconst 3, 1) := by decide +kernel
theorem dX12_tells_54 : decode cX12_tells 54 = .ok (.iaload, 1) := by decide +kernel
theorem dX12_tells_55 : decode cX12_tells 55 = .ok (.iand, 1) := by decide +kernel
theorem dX12_tells_56 : decode cX12_tells 56 = .ok (.istore 4, 2) := by decide +kernel
theorem dX12_tells_58 : decode cX12_tells 58 = .ok (.iload_n 2, 1) := by decide +kernel
theorem dX12_tells_59 : decode cX12_tells 59 = .ok (.aload_n 0, 1) := by decide +kernel
theorem dX12_tells_60 : decode cX12_tells 60 = .ok (.getfield 7, 3) := by decide +kernel
theorem dX12_tells_63 : decode cX12_tells 63 = .ok (.iconst 3, 1) := by decide +kernel
theorem dX12_tells_64 : decode cX12_tells 64 = .ok (.iaload, 1) := by decide +kernel
theorem dX12_tells_65 : decode cX12_tells 65 = .ok (.iconst (-1), 1) := by decide +kernel
theorem dX12_tells_66 : decode cX12_tells 66 = .ok (.ixor, 1) := by decide +kernel
theorem dX12_tells_67 : decode cX12_tells 67 = .ok (.iand, 1) := by decide +kernel
theorem dX12_tells_68 : decode cX12_tells 68 = .ok (.istore 5, 2) := by decide +kernel
theorem dX12_tells_70 : decode cX12_tells 70 = .ok (.iload_n 3, 1) := by decide +kernel
theorem dX12_tells_71 : decode cX12_tells 71 = .ok (.ifCond .ne 53, 3) := by decide +kernel
theorem dX12_tells_74 : decode cX12_tells 74 = .ok (.aload_n 0, 1) := by decide +kernel
theorem dX12_tells_75 : decode cX12_tells 75 = .ok (.getfield 42, 3) := by decide +kernel
theorem dX12_tells_78 : decode cX12_tells 78 = .ok (.iload 4, 2) := by decide +kernel
theorem dX12_tells_80 : decode cX12_tells 80 = .ok (.iaload, 1) := by decide +kernel
theorem dX12_tells_81 : decode cX12_tells 81 = .ok (.aload_n 0, 1) := by decide +kernel
theorem dX12_tells_82 : decode cX12_tells 82 = .ok (.getfield 42, 3) := by decide +kernel
theorem dX12_tells_85 : decode cX12_tells 85 = .ok (.iload 5, 2) := by decide +kernel
theorem dX12_tells_87 : decode cX12_tells 87 = .ok (.iaload, 1) := by decide +kernel
theorem dX12_tells_88 : decode cX12_tells 88 = .ok (.if_icmp .le 13, 3) := by decide +kernel
theorem dX12_tells_91 : decode cX12_tells 91 = .ok (.aload_n 0, 1) := by decide +kernel
theorem dX12_tells_92 : decode cX12_tells 92 = .ok (.getfield 42, 3) := by decide +kernel
theorem dX12_tells_95 : decode cX12_tells 95 = .ok (.iload 4, 2) := by decide +kernel
theorem dX12_tells_97 : decode cX12_tells 97 = .ok (.iaload, 1) := by decide +kernel
theorem dX12_tells_98 : decode cX12_tells 98 = .ok (.goto 10, 3) := by decide +kernel
theorem dX12_tells_101 : decode cX12_tells 101 = .ok (.aload_n 0, 1) := by decide +kernel
theorem dX12_tells_102 : decode cX12_tells 102 = .ok (.getfield 42, 3) := by decide +kernel
theorem dX12_tells_105 : decode cX12_tells 105 = .ok (.iload 5, 2) := by decide +kernel
theorem dX12_tells_107 : decode cX12_tells 107 = .ok (.iaload, 1) := by decide +kernel
theorem dX12_tells_108 : decode cX12_tells 108 = .ok (.istore 6, 2) := by decide +kernel
theorem dX12_tells_110 : decode cX12_tells 110 = .ok (.iload 6, 2) := by decide +kernel
theorem dX12_tells_112 : decode cX12_tells 112 = .ok (.bipush 99, 2) := by decide +kernel
theorem dX12_tells_114 : decode cX12_tells 114 = .ok (.if_icmp .ne 7, 3) := by decide +kernel
theorem dX12_tells_117 : decode cX12_tells 117 = .ok (.iconst (-1), 1) := by decide +kernel
theorem dX12_tells_118 : decode cX12_tells 118 = .ok (.goto 5, 3) := by decide +kernel
theorem dX12_tells_121 : decode cX12_tells 121 = .ok (.iload 6, 2) := by decide +kernel
theorem dX12_tells_123 : decode cX12_tells 123 = .ok (.ireturn, 1) := by decide +kernel
theorem dX12_tells_124 : decode cX12_tells 124 = .ok (.iload_n 3, 1) := by decide +kernel
theorem dX12_tells_125 : decode cX12_tells 125 = .ok (.iconst 1, 1) := by decide +kernel
theorem dX12_tells_126 : decode cX12_tells 126 = .ok (.if_icmp .ne 8, 3) := by decide +kernel
theorem dX12_tells_129 : decode cX12_tells 129 = .ok (.iload 4, 2) := by decide +kernel
theorem dX12_tells_131 : decode cX12_tells 131 = .ok (.goto 5, 3) := by decide +kernel
theorem dX12_tells_134 : decode cX12_tells 134 = .ok (.iload 5, 2) := by decide +kernel
theorem dX12_tells_136 : decode cX12_tells 136 = .ok (.istore 6, 2) := by decide +kernel
theorem dX12_tells_138 : decode cX12_tells 138 = .ok (.iload 6, 2) := by decide +kernel
theorem dX12_tells_140 : decode cX12_tells 140 = .ok (.invokestatic 193, 3) := by decide +kernel
theorem dX12_tells_143 : decode cX12_tells 143 = .ok (.iconst 2, 1) := by decide +kernel
theorem dX12_tells_144 : decode cX12_tells 144 = .ok (.if_icmp .ge 5, 3) := by decide +kernel
theorem dX12_tells_147 : decode cX12_tells 147 = .ok (.iconst (-1), 1) := by decide +kernel
theorem dX12_tells_148 : decode cX12_tells 148 = .ok (.ireturn, 1) := by decide +kernel
theorem dX12_tells_149 : decode cX12_tells 149 = .ok (.aload_n 0, 1) := by decide +kernel
theorem dX12_tells_150 : decode cX12_tells 150 = .ok (.getfield 42, 3) := by decide +kernel
theorem dX12_tells_153 : decode cX12_tells 153 = .ok (.iload 6, 2) := by decide +kernel
theorem dX12_tells_155 : decode cX12_tells 155 = .ok (.iaload, 1) := by decide +kernel
theorem dX12_tells_156 : decode cX12_tells 156 = .ok (.bipush 99, 2) := by decide +kernel
theorem dX12_tells_158 : decode cX12_tells 158 = .ok (.if_icmp .ne 8, 3) := by decide +kernel
theorem dX12_tells_161 : decode cX12_tells 161 = .ok (.bipush (-5), 2) := by decide +kernel
