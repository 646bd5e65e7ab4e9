theorem dX11_starts_17 : decode cX11_starts 17 = .ok (.iload 4, 2) := by decide +kernel
theorem dX11_starts_19 : decode cX11_starts 19 = .ok (.invokestatic 229, 3) := by decide +kernel
theorem dX11_starts_22 : decode cX11_starts 22 = .ok (.ifCond .ne 10, 3) := by decide +kernel
theorem dX11_starts_25 : decode cX11_starts 25 = .ok (.aload_n 0, 1) := by decide +kernel
theorem dX11_starts_26 : decode cX11_starts 26 = .ok (.bipush (-2), 2) := by decide +kernel
theorem dX11_starts_28 : decode cX11_starts 28 = .ok (.invokevirtual 72, 3) := by decide +kernel
theorem dX11_starts_31 : decode cX11_starts 31 = .ok (.ireturn, 1) := by decide +kernel
theorem dX11_starts_32 : decode cX11_starts 32 = .ok (.aload_n 0, 1) := by decide +kernel
theorem dX11_starts_33 : decode cX11_starts 33 = .ok (.aload 5, 2) := by decide +kernel
theorem dX11_starts_35 : decode cX11_starts 35 = .ok (.iload_n 2, 1) := by decide +kernel
theorem dX11_starts_36 : decode cX11_starts 36 = .ok (.iload_n 3, 1) := by decide +kernel
theorem dX11_starts_37 : decode cX11_starts 37 = .ok (.iload 4, 2) := by decide +kernel
theorem dX11_starts_39 : decode cX11_starts 39 = .ok (.invokevirtual 233, 3) := by decide +kernel
theorem dX11_starts_42 : decode cX11_starts 42 = .ok (.ireturn, 1) := by decide +kernel
theorem dX11_drawn_0 : decode cX11_drawn 0 = .ok (.aload_n 0, 1) := by decide +kernel
theorem dX11_drawn_1 : decode cX11_drawn 1 = .ok (.getfield 12, 3) := by decide +kernel
theorem dX11_drawn_4 : decode cX11_drawn 4 = .ok (.iload_n 1, 1) := by decide +kernel
theorem dX11_drawn_5 : decode cX11_drawn 5 = .ok (.invokevirtual 158, 3) := by decide +kernel
theorem dX11_drawn_8 : decode cX11_drawn 8 = .ok (.astore 4, 2) := by decide +kernel
theorem dX11_drawn_10 : decode cX11_drawn 10 = .ok (.aload 4, 2) := by decide +kernel
theorem dX11_drawn_12 : decode cX11_drawn 12 = .ok (.ifnull 23, 3) := by decide +kernel
theorem dX11_drawn_15 : decode cX11_drawn 15 = .ok (.iload_n 2, 1) := by decide +kernel
theorem dX11_drawn_16 : decode cX11_drawn 16 = .ok (.ifCond .lt 19, 3) := by decide +kernel
theorem dX11_drawn_19 : decode cX11_drawn 19 = .ok (.iload_n 2, 1) := by decide +kernel
theorem dX11_drawn_20 : decode cX11_drawn 20 = .ok (.bipush 12, 2) := by decide +kernel
theorem dX11_drawn_22 : decode cX11_drawn 22 = .ok (.if_icmp .gt 13, 3) := by decide +kernel
theorem dX11_drawn_25 : decode cX11_drawn 25 = .ok (.iload_n 3, 1) := by decide +kernel
theorem dX11_drawn_26 : decode cX11_drawn 26 = .ok (.ifCond .lt 9, 3) := by decide +kernel
theorem dX11_drawn_29 : decode cX11_drawn 29 = .ok (.iload_n 3, 1) := by decide +kernel
theorem dX11_drawn_30 : decode cX11_drawn 30 = .ok (.bipush 10, 2) := by decide +kernel
theorem dX11_drawn_32 : decode cX11_drawn 32 = .ok (.if_icmp .le 10, 3) := by decide +kernel
theorem dX11_drawn_35 : decode cX11_drawn 35 = .ok (.aload_n 0, 1) := by decide +kernel
theorem dX11_drawn_36 : decode cX11_drawn 36 = .ok (.bipush (-2), 2) := by decide +kernel
theorem dX11_drawn_38 : decode cX11_drawn 38 = .ok (.invokevirtual 72, 3) := by decide +kernel
theorem dX11_drawn_41 : decode cX11_drawn 41 = .ok (.ireturn, 1) := by decide +kernel
theorem dX11_drawn_42 : decode cX11_drawn 42 = .ok (.aload_n 0, 1) := by decide +kernel
theorem dX11_drawn_43 : decode cX11_drawn 43 = .ok (.getfield 12, 3) := by decide +kernel
theorem dX11_drawn_46 : decode cX11_drawn 46 = .ok (.getfield 76, 3) := by decide +kernel
theorem dX11_drawn_49 : decode cX11_drawn 49 = .ok (.i2l, 1) := by decide +kernel
theorem dX11_drawn_50 : decode cX11_drawn 50 = .ok (.lstore 5, 2) := by decide +kernel
theorem dX11_drawn_52 : decode cX11_drawn 52 = .ok (.aload_n 0, 1) := by decide +kernel
theorem dX11_drawn_53 : decode cX11_drawn 53 = .ok (.getfield 65, 3) := by decide +kernel
theorem dX11_drawn_56 : decode cX11_drawn 56 = .ok (.lconst 1, 1) := by decide +kernel
theorem dX11_drawn_57 : decode cX11_drawn 57 = .ok (.invokestatic 237, 3) := by decide +kernel
theorem dX11_drawn_60 : decode cX11_drawn 60 = .ok (.iconst 0, 1) := by decide +kernel
theorem dX11_drawn_61 : decode cX11_drawn 61 = .ok (.istore 7, 2) := by decide +kernel
theorem dX11_drawn_63 : decode cX11_drawn 63 = .ok (.iload 7, 2) := by decide +kernel
theorem dX11_drawn_65 : decode cX11_drawn 65 = .ok (.iload_n 2, 1) := by decide +kernel
theorem dX11_drawn_66 : decode cX11_drawn 66 = .ok (.if_icmp .ge 26, 3) := by decide +kernel
theorem dX11_drawn_69 : decode cX11_drawn 69 = .ok (.aload_n 0, 1) := by decide +kernel
theorem dX11_drawn_70 : decode cX11_drawn 70 = .ok (.aload 4, 2) := by decide +kernel
theorem dX11_drawn_72 : decode cX11_drawn 72 = .ok (.iload 7, 2) := by decide +kernel
theorem dX11_drawn_74 : decode cX11_drawn 74 = .ok (.iload_n 3, 1) := by decide +kernel
theorem dX11_drawn_75 : decode cX11_drawn 75 = .ok (.invokevirtual 243, 3) := by decide +kernel
theorem dX11_drawn_78 : decode cX11_drawn 78 = .ok (.lload 5, 2) := by decide +kernel
theorem dX11_drawn_80 : decode cX11_drawn 80 = .ok (.ldc2_w 246, 3) := by decide +kernel
theorem dX11_drawn_83 : decode cX11_drawn 83 = .ok (.lmul, 1) := by decide +kernel
theorem dX11_drawn_84 : decode cX11_drawn 84 = .ok (.lstore 5, 2) := by decide +kernel
theorem dX11_drawn_86 : decode cX11_drawn 86 = .ok (.iinc 7 1, 3) := by decide +kernel
theorem dX11_drawn_89 : decode cX11_drawn 89 = .ok (.goto (-26), 3) := by decide +kernel
theorem dX11_drawn_92 : decode cX11_drawn 92 = .ok (.aload_n 0, 1) := by decide +kernel
theorem dX11_drawn_93 : decode cX11_drawn 93 = .ok (.aload_n 0, 1) := by decide +kernel
theorem dX11_drawn_94 : decode cX11_drawn 94 = .ok (.getfield 12, 3) := by decide +kernel
theorem dX11_drawn_97 : decode cX11_drawn 97 = .ok (.aload_n 0, 1) := by decide +kernel
theorem dX11_drawn_98 : decode cX11_drawn 98 = .ok (.getfield 12, 3) := by decide +kernel
theorem dX11_drawn_101 : decode cX11_drawn 101 = .ok (.getfield 129, 3) := by decide +kernel
theorem dX11_drawn_104 : decode cX11_drawn 104 = .ok (.invokevirtual 113, 3) := by decide +kernel
theorem dX11_drawn_107 : decode cX11_drawn 107 = .ok (.ifCond .eq 18, 3) := by decide +kernel
theorem dX11_drawn_110 : decode cX11_drawn 110 = .ok (.aload_n 0, 1) := by decide +kernel
theorem dX11_drawn_111 : decode cX11_drawn 111 = .ok (.getfield 65, 3) := by decide +kernel
theorem dX11_drawn_114 : decode cX11_drawn 114 = .ok (.aload_n 0, 1) := by decide +kernel
theorem dX11_drawn_115 : decode cX11_drawn 115 = .ok (.getfield 12, 3) := by decide +kernel
theorem dX11_drawn_118 : decode cX11_drawn 118 = .ok (.getfield 129, 3) := by decide +kernel
theorem dX11_drawn_121 : decode cX11_drawn 121 = .ok (.laload, 1) := by decide +kernel
theorem dX11_drawn_122 : decode cX11_drawn 122 = .ok (.goto 4, 3) := by decide +kernel
theorem dX11_drawn_125 : decode cX11_drawn 125 = .ok (.lconst 0, 1) := by decide +kernel
theorem dX11_drawn_126 : decode cX11_drawn 126 = .ok (.lload 5, 2) := by decide +kernel
theorem dX11_drawn_128 : decode cX11_drawn 128 = .ok (.invokevirtual 248, 3) := by decide +kernel
theorem dX11_drawn_131 : decode cX11_drawn 131 = .ok (.iconst 1, 1) := by decide +kernel
theorem dX11_drawn_132 : decode cX11_drawn 132 = .ok (.ireturn, 1) := by decide +kernel
theorem dX11_part_0 : decode cX11_part 0 = .ok (.iload_n 1, 1) := by decide +kernel
theorem dX11_part_1 : decode cX11_part 1 = .ok (.ifCond .lt 8, 3) := by decide +kernel
theorem dX11_part_4 : decode cX11_part 4 = .ok (.iload_n 1, 1) := by decide +kernel
theorem dX11_part_5 : decode cX11_part 5 = .ok (.iconst 1, 1) := by decide +kernel
theorem dX11_part_6 : decode cX11_part 6 = .ok (.if_icmp .le 11, 3) := by decide +kernel
theorem dX11_part_9 : decode cX11_part 9 = .ok (.aload_n 0, 1) := by decide +kernel
theorem dX11_part_10 : decode cX11_part 10 = .ok (.bipush (-2), 2) := by decide +kernel
theorem dX11_part_12 : decode cX11_part 12 = .ok (.invokevirtual 72, 3) := by decide +kernel
theorem dX11_part_15 : decode cX11_part 15 = .ok (.i2l, 1) := by decide +kernel
theorem dX11_part_16 : decode cX11_part 16 = .ok (.lreturn, 1) := by decide +kernel
theorem dX11_part_17 : decode cX11_part 17 = .ok (.iload_n 1, 1) := by decide +kernel
theorem dX11_part_18 : decode cX11_part 18 = .ok (.ifCond .ne 10, 3) := by decide +kernel
theorem dX11_part_21 : decode cX11_part 21 = .ok (.aload_n 0, 1) := by decide +kernel
theorem dX11_part_22 : decode cX11_part 22 = .ok (.getfield 28, 3) := by decide +kernel
theorem dX11_part_25 : decode cX11_part 25 = .ok (.goto 7, 3) := by decide +kernel
theorem dX11_part_28 : decode cX11_part 28 = .ok (.aload_n 0, 1) := by decide +kernel
theorem dX11_part_29 : decode cX11_part 29 = .ok (.getfield 32, 3) := by decide +kernel
theorem dX11_part_32 : decode cX11_part 32 = .ok (.lreturn, 1) := by decide +kernel
theorem dX11_image_0 : decode cX11_image 0 = .ok (.iload_n 1, 1) := by decide +kernel
theorem dX11_image_1 : decode cX11_image 1 = .ok (.ifCond .lt 8, 3) := by decide +kernel
theorem dX11_image_4 : decode cX11_image 4 = .ok (.iload_n 1, 1) := by decide +kernel
theorem dX11_image_5 : decode cX11_image 5 = .ok (.iconst 2, 1) := by decide +kernel
theorem dX11_image_6 : decode cX11_image 6 = .ok (.if_icmp .lt 10, 3) := by decide +kernel
theorem dX11_image_9 : decode cX11_image 9 = .ok (.aload_n 0, 1) := by decide +kernel
theorem dX11_image_10 : decode cX11_image 10 = .ok (.bipush (-2), 2) := by decide +kernel
theorem dX11_image_12 : decode cX11_image 12 = .ok (.invokevirtual 72, 3) := by decide +kernel
theorem dX11_image_15 : decode cX11_image 15 = .ok (.ireturn, 1) := by decide +kernel
theorem dX11_image_16 : decode cX11_image 16 = .ok (.aload_n 0, 1) := by decide +kernel
theorem dX11_image_17 : decode cX11_image 17 = .ok (.getfield 16, 3) := by decide +kernel
theorem dX11_image_20 : decode cX11_image 20 = .ok (.iload_n 1, 1) := by decide +kernel
theorem dX11_image_21 : decode cX11_image 21 = .ok (.aload_n 0, 1) := by decide +kernel
theorem dX11_image_22 : decode cX11_image 22 = .ok (.getfield 12, 3) := by decide +kernel
theorem dX11_image_25 : decode cX11_image 25 = .ok (.invokevirtual 252, 3) := by decide +kernel
theorem dX11_image_28 : decode cX11_image 28 = .ok (.aastore, 1) := by decide +kernel
theorem dX11_image_29 : decode cX11_image 29 = .ok (.iconst 1, 1) := by decide +kernel
theorem dX11_image_30 : decode cX11_image 30 = .ok (.ireturn, 1) := by decide +kernel
theorem dX11_from_0 : decode cX11_from 0 = .ok (.iload_n 1, 1) := by decide +kernel
theorem dX11_from_1 : decode cX11_from 1 = .ok (.ifCond .lt 8, 3) := by decide +kernel
theorem dX11_from_4 : decode cX11_from 4 = .ok (.iload_n 1, 1) := by decide +kernel
theorem dX11_from_5 : decode cX11_from 5 = .ok (.iconst 2, 1) := by decide +kernel
theorem dX11_from_6 : decode cX11_from 6 = .ok (.if_icmp .lt 10, 3) := by decide +kernel
theorem dX11_from_9 : decode cX11_from 9 = .ok (.aload_n 0, 1) := by decide +kernel
theorem dX11_from_10 : decode cX11_from 10 = .ok (.bipush (-2), 2) := by decide +kernel
theorem dX11_from_12 : decode cX11_from 12 = .ok (.invokevirtual 72, 3) := by decide +kernel
theorem dX11_from_15 : decode cX11_from 15 = .ok (.ireturn, 1) := by decide +kernel
theorem dX11_from_16 : decode cX11_from 16 = .ok (.aload_n 0, 1) := by decide +kernel
theorem dX11_from_17 : decode cX11_from 17 = .ok (.getfield 16, 3) := by decide +kernel
theorem dX11_from_20 : decode cX11_from 20 = .ok (.iload_n 1, 1) := by decide +kernel
theorem dX11_from_21 : decode cX11_from 21 = .ok (.aaload, 1) := by decide +kernel
theorem dX11_from_22 : decode cX11_from 22 = .ok (.astore_n 2, 1) := by decide +kernel
theorem dX11_from_23 : decode cX11_from 23 = .ok (.aload_n 2, 1) := by decide +kernel
theorem dX11_from_24 : decode cX11_from 24 = .ok (.ifnonnull 8, 3) := by decide +kernel
theorem dX11_from_27 : decode cX11_from 27 = .ok (.aload_n 0, 1) := by decide +kernel
theorem dX11_from_28 : decode cX11_from 28 = .ok (.invokevirtual 123, 3) := by decide +kernel
theorem dX11_from_31 : decode cX11_from 31 = .ok (.ireturn, 1) := by decide +kernel
theorem dX11_from_32 : decode cX11_from 32 = .ok (.aload_n 0, 1) := by decide +kernel
theorem dX11_from_33 : decode cX11_from 33 = .ok (.aload_n 2, 1) := by decide +kernel
theorem dX11_from_34 : decode cX11_from 34 = .ok (.invokevirtual 252, 3) := by decide +kernel
theorem dX11_from_37 : decode cX11_from 37 = .ok (.putfield 12, 3) := by decide +kernel
theorem dX11_from_40 : decode cX11_from 40 = .ok (.iconst 1, 1) := by decide +kernel
theorem dX11_from_41 : decode cX11_from 41 = .ok (.ireturn, 1) := by decide +kernel
theorem dX11_status_0 : decode cX11_status 0 = .ok (.iload_n 1, 1) := by decide +kernel
theorem dX11_status_1 : decode cX11_status 1 = .ok (.tableswitch 42 0 2 #[27, 32, 37], 27) := by decide +kernel
theorem dX11_status_28 : decode cX11_status 28 = .ok (.aload_n 0, 1) := by decide +kernel
theorem dX11_status_29 : decode cX11_status 29 = .ok (.getfield 35, 3) := by decide +kernel
theorem dX11_status_32 : decode cX11_status 32 = .ok (.ireturn, 1) := by decide +kernel
theorem dX11_status_33 : decode cX11_status 33 = .ok (.aload_n 0, 1) := by decide +kernel
theorem dX11_status_34 : decode cX11_status 34 = .ok (.getfield 38, 3) := by decide +kernel
theorem dX11_status_37 : decode cX11_status 37 = .ok (.ireturn, 1) := by decide +kernel
theorem dX11_status_38 : decode cX11_status 38 = .ok (.aload_n 0, 1) := by decide +kernel
theorem dX11_status_39 : decode cX11_status 39 = .ok (.getfield 41, 3) := by decide +kernel
theorem dX11_status_42 : decode cX11_status 42 = .ok (.ireturn, 1) := by decide +kernel
theorem dX11_status_43 : decode cX11_status 43 = .ok (.aload_n 0, 1) := by decide +kernel
theorem dX11_status_44 : decode cX11_status 44 = .ok (.iconst (-1), 1) := by decide +kernel
theorem dX11_status_45 : decode cX11_status 45 = .ok (.invokevirtual 72, 3) := by decide +kernel
theorem dX11_status_48 : decode cX11_status 48 = .ok (.ireturn, 1) := by decide +kernel
theorem dX11_count_0 : decode cX11_count 0 = .ok (.iload_n 1, 1) := by decide +kernel
theorem dX11_count_1 : decode cX11_count 1 = .ok (.tableswitch 63 0 3 #[31, 39, 47, 58], 31) := by decide +kernel
theorem dX11_count_32 : decode cX11_count 32 = .ok (.aload_n 0, 1) := by decide +kernel
theorem dX11_count_33 : decode cX11_count 33 = .ok (.getfield 12, 3) := by decide +kernel
theorem dX11_count_36 : decode cX11_count 36 = .ok (.getfield 76, 3) := by decide +kernel
theorem dX11_count_39 : decode cX11_count 39 = .ok (.ireturn, 1) := by decide +kernel
theorem dX11_count_40 : decode cX11_count 40 = .ok (.aload_n 0, 1) := by decide +kernel
theorem dX11_count_41 : decode cX11_count 41 = .ok (.getfield 12, 3) := by decide +kernel
theorem dX11_count_44 : decode cX11_count 44 = .ok (.getfield 155, 3) := by decide +kernel
theorem dX11_count_47 : decode cX11_count 47 = .ok (.ireturn, 1) := by decide +kernel
theorem dX11_count_48 : decode cX11_count 48 = .ok (.aload_n 0, 1) := by decide +kernel
theorem dX11_count_49 : decode cX11_count 49 = .ok (.getfield 12, 3) := by decide +kernel
theorem dX11_count_52 : decode cX11_count 52 = .ok (.getfield 116, 3) := by decide +kernel
theorem dX11_count_55 : decode cX11_count 55 = .ok (.invokestatic 203, 3) := by decide +kernel
theorem dX11_count_58 : decode cX11_count 58 = .ok (.ireturn, 1) := by decide +kernel
theorem dX11_count_59 : decode cX11_count 59 = .ok (.aload_n 0, 1) := by decide +kernel
theorem dX11_count_60 : decode cX11_count 60 = .ok (.getfield 24, 3) := by decide +kernel
theorem dX11_count_63 : decode cX11_count 63 = .ok (.ireturn, 1) := by decide +kernel
theorem dX11_count_64 : decode cX11_count 64 = .ok (.aload_n 0, 1) := by decide +kernel
theorem dX11_count_65 : decode cX11_count 65 = .ok (.bipush (-2), 2) := by decide +kernel
theorem dX11_count_67 : decode cX11_count 67 = .ok (.invokevirtual 72, 3) := by decide +kernel
theorem dX11_count_70 : decode cX11_count 70 = .ok (.ireturn, 1) := by decide +kernel
theorem dX11_digest_0 : decode cX11_digest 0 = .ok (.ldc2_w 256, 3) := by decide +kernel
theorem dX11_digest_3 : decode cX11_digest 3 = .ok (.lstore_n 1, 1) := by decide +kernel
theorem dX11_digest_4 : decode cX11_digest 4 = .ok (.ldc2_w 258, 3) := by decide +kernel
theorem dX11_digest_7 : decode cX11_digest 7 = .ok (.lload_n 1, 1) := by decide +kernel
theorem dX11_digest_8 : decode cX11_digest 8 = .ok (.lmul, 1) := by decide +kernel
theorem dX11_digest_9 : decode cX11_digest 9 = .ok (.aload_n 0, 1) := by decide +kernel
theorem dX11_digest_10 : decode cX11_digest 10 = .ok (.getfield 12, 3) := by decide +kernel
theorem dX11_digest_13 : decode cX11_digest 13 = .ok (.getfield 76, 3) := by decide +kernel
theorem dX11_digest_16 : decode cX11_digest 16 = .ok (.i2l, 1) := by decide +kernel
theorem dX11_digest_17 : decode cX11_digest 17 = .ok (.ladd, 1) := by decide +kernel
theorem dX11_digest_18 : decode cX11_digest 18 = .ok (.lstore_n 1, 1) := by decide +kernel
theorem dX11_digest_19 : decode cX11_digest 19 = .ok (.ldc2_w 258, 3) := by decide +kernel
theorem dX11_digest_22 : decode cX11_digest 22 = .ok (.lload_n 1, 1) := by decide +kernel
theorem dX11_digest_23 : decode cX11_digest 23 = .ok (.lmul, 1) := by decide +kernel
theorem dX11_digest_24 : decode cX11_digest 24 = .ok (.aload_n 0, 1) := by decide +kernel
theorem dX11_digest_25 : decode cX11_digest 25 = .ok (.getfield 12, 3) := by decide +kernel
theorem dX11_digest_28 : decode cX11_digest 28 = .ok (.getfield 155, 3) := by decide +kernel
theorem dX11_digest_31 : decode cX11_digest 31 = .ok (.i2l, 1) := by decide +kernel
theorem dX11_digest_32 : decode cX11_digest 32 = .ok (.ladd, 1) := by decide +kernel
theorem dX11_digest_33 : decode cX11_digest 33 = .ok (.lstore_n 1, 1) := by decide +kernel
theorem dX11_digest_34 : decode cX11_digest 34 = .ok (.ldc2_w 258, 3) := by decide +kernel
theorem dX11_digest_37 : decode cX11_digest 37 = .ok (.lload_n 1, 1) := by decide +kernel
theorem dX11_digest_38 : decode cX11_digest 38 = .ok (.lmul, 1) := by decide +kernel
theorem dX11_digest_39 : decode cX11_digest 39 = .ok (.aload_n 0, 1) := by decide +kernel
theorem dX11_digest_40 : decode cX11_digest 40 = .ok (.getfield 12, 3) := by decide +kernel
theorem dX11_digest_43 : decode cX11_digest 43 = .ok (.getfield 116, 3) := by decide +kernel
theorem dX11_digest_46 : decode cX11_digest 46 = .ok (.invokestatic 203, 3) := by decide +kernel
theorem dX11_digest_49 : decode cX11_digest 49 = .ok (.i2l, 1) := by decide +kernel
theorem dX11_digest_50 : decode cX11_digest 50 = .ok (.ladd, 1) := by decide +kernel
theorem dX11_digest_51 : decode cX11_digest 51 = .ok (.lstore_n 1, 1) := by decide +kernel
theorem dX11_digest_52 : decode cX11_digest 52 = .ok (.ldc2_w 258, 3) := by decide +kernel
theorem dX11_digest_55 : decode cX11_digest 55 = .ok (.lload_n 1, 1) := by decide +kernel
theorem dX11_digest_56 : decode cX11_digest 56 = .ok (.lmul, 1) := by decide +kernel
theorem dX11_digest_57 : decode cX11_digest 57 = .ok (.aload_n 0, 1) := by decide +kernel
theorem dX11_digest_58 : decode cX11_digest 58 = .ok (.getfield 24, 3) := by decide +kernel
theorem dX11_digest_61 : decode cX11_digest 61 = .ok (.i2l, 1) := by decide +kernel
theorem dX11_digest_62 : decode cX11_digest 62 = .ok (.ladd, 1) := by decide +kernel
theorem dX11_digest_63 : decode cX11_digest 63 = .ok (.lstore_n 1, 1) := by decide +kernel
theorem dX11_digest_64 : decode cX11_digest 64 = .ok (.iconst 0, 1) := by decide +kernel
theorem dX11_digest_65 : decode cX11_digest 65 = .ok (.istore_n 3, 1) := by decide +kernel
theorem dX11_digest_66 : decode cX11_digest 66 = .ok (.iload_n 3, 1) := by decide +kernel
theorem dX11_digest_67 : decode cX11_digest 67 = .ok (.aload_n 0, 1) := by decide +kernel
theorem dX11_digest_68 : decode cX11_digest 68 = .ok (.getfield 12, 3) := by decide +kernel
theorem dX11_digest_71 : decode cX11_digest 71 = .ok (.getfield 155, 3) := by decide +kernel
theorem dX11_digest_74 : decode cX11_digest 74 = .ok (.if_icmp .ge 31, 3) := by decide +kernel
theorem dX11_digest_77 : decode cX11_digest 77 = .ok (.aload_n 0, 1) := by decide +kernel
theorem dX11_digest_78 : decode cX11_digest 78 = .ok (.getfield 12, 3) := by decide +kernel
theorem dX11_digest_81 : decode cX11_digest 81 = .ok (.iload_n 3, 1) := by decide +kernel
theorem dX11_digest_82 : decode cX11_digest 82 = .ok (.invokevirtual 158, 3) := by decide +kernel
theorem dX11_digest_85 : decode cX11_digest 85 = .ok (.astore 4, 2) := by decide +kernel
theorem dX11_digest_87 : decode cX11_digest 87 = .ok (.aload 4, 2) := by decide +kernel
theorem dX11_digest_89 : decode cX11_digest 89 = .ok (.ifnull 10, 3) := by decide +kernel
theorem dX11_digest_92 : decode cX11_digest 92 = .ok (.aload 4, 2) := by decide +kernel
theorem dX11_digest_94 : decode cX11_digest 94 = .ok (.lload_n 1, 1) := by decide +kernel
theorem dX11_digest_95 : decode cX11_digest 95 = .ok (.invokevirtual 260, 3) := by decide +kernel
theorem dX11_digest_98 : decode cX11_digest 98 = .ok (.lstore_n 1, 1) := by decide +kernel
theorem dX11_digest_99 : decode cX11_digest 99 = .ok (.iinc 3 1, 3) := by decide +kernel
theorem dX11_digest_102 : decode cX11_digest 102 = .ok (.goto (-36), 3) := by decide +kernel
theorem dX11_digest_105 : decode cX11_digest 105 = .ok (.ldc2_w 258, 3) := by decide +kernel
theorem dX11_digest_108 : decode cX11_digest 108 = .ok (.lload_n 1, 1) := by decide +kernel
theorem dX11_digest_109 : decode cX11_digest 109 = .ok (.lmul, 1) := by decide +kernel
theorem dX11_digest_110 : decode cX11_digest 110 = .ok (.aload_n 0, 1) := by decide +kernel
theorem dX11_digest_111 : decode cX11_digest 111 = .ok (.getfield 12, 3) := by decide +kernel
theorem dX11_digest_114 : decode cX11_digest 114 = .ok (.getfield 116, 3) := by decide +kernel
theorem dX11_digest_117 : decode cX11_digest 117 = .ok (.i2l, 1) := by decide +kernel
theorem dX11_digest_118 : decode cX11_digest 118 = .ok (.ladd, 1) := by decide +kernel
theorem dX11_digest_119 : decode cX11_digest 119 = .ok (.lstore_n 1, 1) := by decide +kernel
theorem dX11_digest_120 : decode cX11_digest 120 = .ok (.ldc2_w 258, 3) := by decide +kernel
theorem dX11_digest_123 : decode cX11_digest 123 = .ok (.lload_n 1, 1) := by decide +kernel
theorem dX11_digest_124 : decode cX11_digest 124 = .ok (.lmul, 1) := by decide +kernel
theorem dX11_digest_125 : decode cX11_digest 125 = .ok (.aload_n 0, 1) := by decide +kernel
theorem dX11_digest_126 : decode cX11_digest 126 = .ok (.getfield 12, 3) := by decide +kernel
theorem dX11_digest_129 : decode cX11_digest 129 = .ok (.getfield 129, 3) := by decide +kernel
theorem dX11_digest_132 : decode cX11_digest 132 = .ok (.i2l, 1) := by decide +kernel
theorem dX11_digest_133 : decode cX11_digest 133 = .ok (.ladd, 1) := by decide +kernel
theorem dX11_digest_134 : decode cX11_digest 134 = .ok (.lstore_n 1, 1) := by decide +kernel
theorem dX11_digest_135 : decode cX11_digest 135 = .ok (.ldc2_w 258, 3) := by decide +kernel
theorem dX11_digest_138 : decode cX11_digest 138 = .ok (.lload_n 1, 1) := by decide +kernel
theorem dX11_digest_139 : decode cX11_digest 139 = .ok (.lmul, 1) := by decide +kernel
theorem dX11_digest_140 : decode cX11_digest 140 = .ok (.aload_n 0, 1) := by decide +kernel
theorem dX11_digest_141 : decode cX11_digest 141 = .ok (.getfield 12, 3) := by decide +kernel
theorem dX11_digest_144 : decode cX11_digest 144 = .ok (.getfield 132, 3) := by decide +kernel
theorem dX11_digest_147 : decode cX11_digest 147 = .ok (.i2l, 1) := by decide +kernel
theorem dX11_digest_148 : decode cX11_digest 148 = .ok (.ladd, 1) := by decide +kernel
theorem dX11_digest_149 : decode cX11_digest 149 = .ok (.lstore_n 1, 1) := by decide +kernel
theorem dX11_digest_150 : decode cX11_digest 150 = .ok (.ldc2_w 258, 3) := by decide +kernel
theorem dX11_digest_153 : decode cX11_digest 153 = .ok (.lload_n 1, 1) := by decide +kernel
theorem dX11_digest_154 : decode cX11_digest 154 = .ok (.lmul, 1) := by decide +kernel
theorem dX11_digest_155 : decode cX11_digest 155 = .ok (.aload_n 0, 1) := by decide +kernel
theorem dX11_digest_156 : decode cX11_digest 156 = .ok (.getfield 12, 3) := by decide +kernel
theorem dX11_digest_159 : decode cX11_digest 159 = .ok (.getfield 135, 3) := by decide +kernel
theorem dX11_digest_162 : decode cX11_digest 162 = .ok (.i2l, 1) := by decide +kernel
theorem dX11_digest_163 : decode cX11_digest 163 = .ok (.ladd, 1) := by decide +kernel
theorem dX11_digest_164 : decode cX11_digest 164 = .ok (.lstore_n 1, 1) := by decide +kernel
theorem dX11_digest_165 : decode cX11_digest 165 = .ok (.ldc2_w 258, 3) := by decide +kernel
theorem dX11_digest_168 : decode cX11_digest 168 = .ok (.lload_n 1, 1) := by decide +kernel
theorem dX11_digest_169 : decode cX11_digest 169 = .ok (.lmul, 1) := by decide +kernel
theorem dX11_digest_170 : decode cX11_digest 170 = .ok (.aload_n 0, 1) := by decide +kernel
theorem dX11_digest_171 : decode cX11_digest 171 = .ok (.getfield 12, 3) := by decide +kernel
theorem dX11_digest_174 : decode cX11_digest 174 = .ok (.getfield 138, 3) := by decide +kernel
theorem dX11_digest_177 : decode cX11_digest 177 = .ok (.i2l, 1) := by decide +kernel
theorem dX11_digest_178 : decode cX11_digest 178 = .ok (.ladd, 1) := by decide +kernel
theorem dX11_digest_179 : decode cX11_digest 179 = .ok (.lstore_n 1, 1) := by decide +kernel
theorem dX11_digest_180 : decode cX11_digest 180 = .ok (.ldc2_w 258, 3) := by decide +kernel
theorem dX11_digest_183 : decode cX11_digest 183 = .ok (.lload_n 1, 1) := by decide +kernel
theorem dX11_digest_184 : decode cX11_digest 184 = .ok (.lmul, 1) := by decide +kernel
theorem dX11_digest_185 : decode cX11_digest 185 = .ok (.aload_n 0, 1) := by decide +kernel
theorem dX11_digest_186 : decode cX11_digest 186 = .ok (.getfield 28, 3) := by decide +kernel
theorem dX11_digest_189 : decode cX11_digest 189 = .ok (.ladd, 1) := by decide +kernel
theorem dX11_digest_190 : decode cX11_digest 190 = .ok (.lstore_n 1, 1) := by decide +kernel
theorem dX11_digest_191 : decode cX11_digest 191 = .ok (.ldc2_w 258, 3) := by decide +kernel
theorem dX11_digest_194 : decode cX11_digest 194 = .ok (.lload_n 1, 1) := by decide +kernel
theorem dX11_digest_195 : decode cX11_digest 195 = .ok (.lmul, 1) := by decide +kernel
theorem dX11_digest_196 : decode cX11_digest 196 = .ok (.aload_n 0, 1) := by decide +kernel
theorem dX11_digest_197 : decode cX11_digest 197 = .ok (.getfield 32, 3) := by decide +kernel
theorem dX11_digest_200 : decode cX11_digest 200 = .ok (.ladd, 1) := by decide +kernel
theorem dX11_digest_201 : decode cX11_digest 201 = .ok (.lreturn, 1) := by decide +kernel
theorem dX11_refusedBad_0 : decode cX11_refusedBad 0 = .ok (.aload_n 0, 1) := by decide +kernel
theorem dX11_refusedBad_1 : decode cX11_refusedBad 1 = .ok (.dup, 1) := by decide +kernel
theorem dX11_refusedBad_2 : decode cX11_refusedBad 2 = .ok (.getfield 35, 3) := by decide +kernel
theorem dX11_refusedBad_5 : decode cX11_refusedBad 5 = .ok (.iconst 1, 1) := by decide +kernel
theorem dX11_refusedBad_6 : decode cX11_refusedBad 6 = .ok (.iadd, 1) := by decide +kernel
theorem dX11_refusedBad_7 : decode cX11_refusedBad 7 = .ok (.putfield 35, 3) := by decide +kernel
theorem dX11_refusedBad_10 : decode cX11_refusedBad 10 = .ok (.iload_n 1, 1) := by decide +kernel
theorem dX11_refusedBad_11 : decode cX11_refusedBad 11 = .ok (.ireturn, 1) := by decide +kernel
theorem dX11_refusedNo_0 : decode cX11_refusedNo 0 = .ok (.aload_n 0, 1) := by decide +kernel
theorem dX11_refusedNo_1 : decode cX11_refusedNo 1 = .ok (.dup, 1) := by decide +kernel
theorem dX11_refusedNo_2 : decode cX11_refusedNo 2 = .ok (.getfield 38, 3) := by decide +kernel
theorem dX11_refusedNo_5 : decode cX11_refusedNo 5 = .ok (.iconst 1, 1) := by decide +kernel
theorem dX11_refusedNo_6 : decode cX11_refusedNo 6 = .ok (.iadd, 1) := by decide +kernel
theorem dX11_refusedNo_7 : decode cX11_refusedNo 7 = .ok (.putfield 38, 3) := by decide +kernel
theorem dX11_refusedNo_10 : decode cX11_refusedNo 10 = .ok (.bipush (-3), 2) := by decide +kernel
theorem dX11_refusedNo_12 : decode cX11_refusedNo 12 = .ok (.ireturn, 1) := by decide +kernel
theorem dX11_refusedFull_0 : decode cX11_refusedFull 0 = .ok (.aload_n 0, 1) := by decide +kernel
theorem dX11_refusedFull_1 : decode cX11_refusedFull 1 = .ok (.dup, 1) := by decide +kernel
theorem dX11_refusedFull_2 : decode cX11_refusedFull 2 = .ok (.getfield 41, 3) := by decide +kernel
theorem dX11_refusedFull_5 : decode cX11_refusedFull 5 = .ok (.iconst 1, 1) := by decide +kernel
theorem dX11_refusedFull_6 : decode cX11_refusedFull 6 = .ok (.iadd, 1) := by decide +kernel
theorem dX11_refusedFull_7 : decode cX11_refusedFull 7 = .ok (.putfield 41, 3) := by decide +kernel
theorem dX11_refusedFull_10 : decode cX11_refusedFull 10 = .ok (.bipush (-4), 2) := by decide +kernel
theorem dX11_refusedFull_12 : decode cX11_refusedFull 12 = .ok (.ireturn, 1) := by decide +kernel
theorem dX11_canPut_0 : decode cX11_canPut 0 = .ok (.iload_n 1, 1) := by decide +kernel
theorem dX11_canPut_1 : decode cX11_canPut 1 = .ok (.tableswitch 78 0 3 #[31, 40, 61, 61], 31) := by decide +kernel
theorem dX11_canPut_32 : decode cX11_canPut 32 = .ok (.aload_n 0, 1) := by decide +kernel
theorem dX11_canPut_33 : decode cX11_canPut 33 = .ok (.getfield 12, 3) := by decide +kernel
theorem dX11_canPut_36 : decode cX11_canPut 36 = .ok (.iload_n 2, 1) := by decide +kernel
theorem dX11_canPut_37 : decode cX11_canPut 37 = .ok (.invokevirtual 113, 3) := by decide +kernel
theorem dX11_canPut_40 : decode cX11_canPut 40 = .ok (.ireturn, 1) := by decide +kernel
theorem dX11_canPut_41 : decode cX11_canPut 41 = .ok (.iload_n 2, 1) := by decide +kernel
theorem dX11_canPut_42 : decode cX11_canPut 42 = .ok (.ifCond .lt 18, 3) := by decide +kernel
theorem dX11_canPut_45 : decode cX11_canPut 45 = .ok (.iload_n 2, 1) := by decide +kernel
theorem dX11_canPut_46 : decode cX11_canPut 46 = .ok (.aload_n 0, 1) := by decide +kernel
theorem dX11_canPut_47 : decode cX11_canPut 47 = .ok (.getfield 12, 3) := by decide +kernel
theorem dX11_canPut_50 : decode cX11_canPut 50 = .ok (.invokevirtual 200, 3) := by decide +kernel
theorem dX11_canPut_53 : decode cX11_canPut 53 = .ok (.if_icmp .gt 7, 3) := by decide +kernel
theorem dX11_canPut_56 : decode cX11_canPut 56 = .ok (.iconst 1, 1) := by decide +kernel
theorem dX11_canPut_57 : decode cX11_canPut 57 = .ok (.goto 4, 3) := by decide +kernel
theorem dX11_canPut_60 : decode cX11_canPut 60 = .ok (.iconst 0, 1) := by decide +kernel
theorem dX11_canPut_61 : decode cX11_canPut 61 = .ok (.ireturn, 1) := by decide +kernel
theorem dX11_canPut_62 : decode cX11_canPut 62 = .ok (.iload_n 2, 1) := by decide +kernel
theorem dX11_canPut_63 : decode cX11_canPut 63 = .ok (.iconst 1, 1) := by decide +kernel
theorem dX11_canPut_64 : decode cX11_canPut 64 = .ok (.if_icmp .lt 13, 3) := by decide +kernel
theorem dX11_canPut_67 : decode cX11_canPut 67 = .ok (.iload_n 2, 1) := by decide +kernel
theorem dX11_canPut_68 : decode cX11_canPut 68 = .ok (.bipush 9, 2) := by decide +kernel
theorem dX11_canPut_70 : decode cX11_canPut 70 = .ok (.if_icmp .gt 7, 3) := by decide +kernel
theorem dX11_canPut_73 : decode cX11_canPut 73 = .ok (.iconst 1, 1) := by decide +kernel
theorem dX11_canPut_74 : decode cX11_canPut 74 = .ok (.goto 4, 3) := by decide +kernel
theorem dX11_canPut_77 : decode cX11_canPut 77 = .ok (.iconst 0, 1) := by decide +kernel
theorem dX11_canPut_78 : decode cX11_canPut 78 = .ok (.ireturn, 1) := by decide +kernel
theorem dX11_canPut_79 : decode cX11_canPut 79 = .ok (.iconst 0, 1) := by decide +kernel
theorem dX11_canPut_80 : decode cX11_canPut 80 = .ok (.ireturn, 1) := by decide +kernel
theorem dX11_isTune_0 : decode cX11_isTune 0 = .ok (.iload_n 1, 1) := by decide +kernel
theorem dX11_isTune_1 : decode cX11_isTune 1 = .ok (.ifCond .lt 21, 3) := by decide +kernel
theorem dX11_isTune_4 : decode cX11_isTune 4 = .ok (.iload_n 1, 1) := by decide +kernel
theorem dX11_isTune_5 : decode cX11_isTune 5 = .ok (.bipush 20, 2) := by decide +kernel
theorem dX11_isTune_7 : decode cX11_isTune 7 = .ok (.if_icmp .gt 15, 3) := by decide +kernel
theorem dX11_isTune_10 : decode cX11_isTune 10 = .ok (.iload_n 0, 1) := by decide +kernel
theorem dX11_isTune_11 : decode cX11_isTune 11 = .ok (.iload_n 1, 1) := by decide +kernel
theorem dX11_isTune_12 : decode cX11_isTune 12 = .ok (.invokestatic 264, 3) := by decide +kernel
theorem dX11_isTune_15 : decode cX11_isTune 15 = .ok (.ifCond .eq 7, 3) := by decide +kernel
theorem dX11_isTune_18 : decode cX11_isTune 18 = .ok (.iconst 1, 1) := by decide +kernel
theorem dX11_isTune_19 : decode cX11_isTune 19 = .ok (.goto 4, 3) := by decide +kernel
theorem dX11_isTune_22 : decode cX11_isTune 22 = .ok (.iconst 0, 1) := by decide +kernel
theorem dX11_isTune_23 : decode cX11_isTune 23 = .ok (.ireturn, 1) := by decide +kernel
theorem dX11_isHeard_0 : decode cX11_isHeard 0 = .ok (.iload_n 1, 1) := by decide +kernel
theorem dX11_isHeard_1 : decode cX11_isHeard 1 = .ok (.iconst 1, 1) := by decide +kernel
theorem dX11_isHeard_2 : decode cX11_isHeard 2 = .ok (.if_icmp .lt 29, 3) := by decide +kernel
theorem dX11_isHeard_5 : decode cX11_isHeard 5 = .ok (.iload_n 1, 1) := by decide +kernel
theorem dX11_isHeard_6 : decode cX11_isHeard 6 = .ok (.bipush 16, 2) := by decide +kernel
theorem dX11_isHeard_8 : decode cX11_isHeard 8 = .ok (.if_icmp .gt 23, 3) := by decide +kernel
theorem dX11_isHeard_11 : decode cX11_isHeard 11 = .ok (.iload_n 0, 1) := by decide +kernel
theorem dX11_isHeard_12 : decode cX11_isHeard 12 = .ok (.iload_n 1, 1) := by decide +kernel
theorem dX11_isHeard_13 : decode cX11_isHeard 13 = .ok (.invokestatic 264, 3) := by decide +kernel
theorem dX11_isHeard_16 : decode cX11_isHeard 16 = .ok (.ifCond .eq 15, 3) := by decide +kernel
theorem dX11_isHeard_19 : decode cX11_isHeard 19 = .ok (.iload_n 2, 1) := by decide +kernel
theorem dX11_isHeard_20 : decode cX11_isHeard 20 = .ok (.iload_n 1, 1) := by decide +kernel
theorem dX11_isHeard_21 : decode cX11_isHeard 21 = .ok (.invokestatic 264, 3) := by decide +kernel
theorem dX11_isHeard_24 : decode cX11_isHeard 24 = .ok (.ifCond .eq 7, 3) := by decide +kernel
theorem dX11_isHeard_27 : decode cX11_isHeard 27 = .ok (.iconst 1, 1) := by decide +kernel
theorem dX11_isHeard_28 : decode cX11_isHeard 28 = .ok (.goto 4, 3) := by decide +kernel
theorem dX11_isHeard_31 : decode cX11_isHeard 31 = .ok (.iconst 0, 1) := by decide +kernel
theorem dX11_isHeard_32 : decode cX11_isHeard 32 = .ok (.ireturn, 1) := by decide +kernel
theorem dX11_areBits_0 : decode cX11_areBits 0 = .ok (.iload_n 0, 1) := by decide +kernel
theorem dX11_areBits_1 : decode cX11_areBits 1 = .ok (.ifCond .lt 13, 3) := by decide +kernel
theorem dX11_areBits_4 : decode cX11_areBits 4 = .ok (.iload_n 0, 1) := by decide +kernel
theorem dX11_areBits_5 : decode cX11_areBits 5 = .ok (.iload_n 1, 1) := by decide +kernel
theorem dX11_areBits_6 : decode cX11_areBits 6 = .ok (.ishr, 1) := by decide +kernel
theorem dX11_areBits_7 : decode cX11_areBits 7 = .ok (.ifCond .ne 7, 3) := by decide +kernel
theorem dX11_areBits_10 : decode cX11_areBits 10 = .ok (.iconst 1, 1) := by decide +kernel
theorem dX11_areBits_11 : decode cX11_areBits 11 = .ok (.goto 4, 3) := by decide +kernel
theorem dX11_areBits_14 : decode cX11_areBits 14 = .ok (.iconst 0, 1) := by decide +kernel
theorem dX11_areBits_15 : decode cX11_areBits 15 = .ok (.ireturn, 1) := by decide +kernel
theorem dX11_holds_0 : decode cX11_holds 0 = .ok (.iload_n 0, 1) := by decide +kernel
theorem dX11_holds_1 : decode cX11_holds 1 = .ok (.iload_n 1, 1) := by decide +kernel
theorem dX11_holds_2 : decode cX11_holds 2 = .ok (.ishr, 1) := by decide +kernel
theorem dX11_holds_3 : decode cX11_holds 3 = .ok (.iconst 1, 1) := by decide +kernel
theorem dX11_holds_4 : decode cX11_holds 4 = .ok (.iand, 1) := by decide +kernel
theorem dX11_holds_5 : decode cX11_holds 5 = .ok (.ifCond .eq 7, 3) := by decide +kernel
theorem dX11_holds_8 : decode cX11_holds 8 = .ok (.iconst 1, 1) := by decide +kernel
theorem dX11_holds_9 : decode cX11_holds 9 = .ok (.goto 4, 3) := by decide +kernel
theorem dX11_holds_12 : decode cX11_holds 12 = .ok (.iconst 0, 1) := by decide +kernel
theorem dX11_holds_13 : decode cX11_holds 13 = .ok (.ireturn, 1) := by decide +kernel
theorem dX11_origins_0 : decode cX11_origins 0 = .ok (.iconst 0, 1) := by decide +kernel
theorem dX11_origins_1 : decode cX11_origins 1 = .ok (.istore 5, 2) := by decide +kernel
theorem dX11_origins_3 : decode cX11_origins 3 = .ok (.iconst 0, 1) := by decide +kernel
theorem dX11_origins_4 : decode cX11_origins 4 = .ok (.istore 6, 2) := by decide +kernel
theorem dX11_origins_6 : decode cX11_origins 6 = .ok (.iload 6, 2) := by decide +kernel
theorem dX11_origins_8 : decode cX11_origins 8 = .ok (.aload_n 0, 1) := by decide +kernel
theorem dX11_origins_9 : decode cX11_origins 9 = .ok (.getfield 12, 3) := by decide +kernel
theorem dX11_origins_12 : decode cX11_origins 12 = .ok (.getfield 76, 3) := by decide +kernel
theorem dX11_origins_15 : decode cX11_origins 15 = .ok (.if_icmp .ge 32, 3) := by decide +kernel
theorem dX11_origins_18 : decode cX11_origins 18 = .ok (.aload_n 0, 1) := by decide +kernel
theorem dX11_origins_19 : decode cX11_origins 19 = .ok (.aload_n 1, 1) := by decide +kernel
theorem dX11_origins_20 : decode cX11_origins 20 = .ok (.iload 6, 2) := by decide +kernel
theorem dX11_origins_22 : decode cX11_origins 22 = .ok (.iload_n 2, 1) := by decide +kernel
theorem dX11_origins_23 : decode cX11_origins 23 = .ok (.iload_n 3, 1) := by decide +kernel
theorem dX11_origins_24 : decode cX11_origins 24 = .ok (.iload 4, 2) := by decide +kernel
theorem dX11_origins_26 : decode cX11_origins 26 = .ok (.invokevirtual 267, 3) := by decide +kernel
theorem dX11_origins_29 : decode cX11_origins 29 = .ok (.ifCond .eq 12, 3) := by decide +kernel
theorem dX11_origins_32 : decode cX11_origins 32 = .ok (.iload 5, 2) := by decide +kernel
theorem dX11_origins_34 : decode cX11_origins 34 = .ok (.iconst 1, 1) := by decide +kernel
theorem dX11_origins_35 : decode cX11_origins 35 = .ok (.iload 6, 2) := by decide +kernel
theorem dX11_origins_37 : decode cX11_origins 37 = .ok (.ishl, 1) := by decide +kernel
theorem dX11_origins_38 : decode cX11_origins 38 = .ok (.ior, 1) := by decide +kernel
theorem dX11_origins_39 : decode cX11_origins 39 = .ok (.istore 5, 2) := by decide +kernel
theorem dX11_origins_41 : decode cX11_origins 41 = .ok (.iinc 6 1, 3) := by decide +kernel
theorem dX11_origins_44 : decode cX11_origins 44 = .ok (.goto (-38), 3) := by decide +kernel
theorem dX11_origins_47 : decode cX11_origins 47 = .ok (.iload 5, 2) := by decide +kernel
theorem dX11_origins_49 : decode cX11_origins 49 = .ok (.ireturn, 1) := by decide +kernel
theorem dX11_soundsSo_0 : decode cX11_soundsSo 0 = .ok (.iload_n 2, 1) := by decide +kernel
theorem dX11_soundsSo_1 : decode cX11_soundsSo 1 = .ok (.istore 6, 2) := by decide +kernel
theorem dX11_soundsSo_3 : decode cX11_soundsSo 3 = .ok (.iconst 0, 1) := by decide +kernel
theorem dX11_soundsSo_4 : decode cX11_soundsSo 4 = .ok (.istore 7, 2) := by decide +kernel
theorem dX11_soundsSo_6 : decode cX11_soundsSo 6 = .ok (.iload 7, 2) := by decide +kernel
theorem dX11_soundsSo_8 : decode cX11_soundsSo 8 = .ok (.iload 4, 2) := by decide +kernel
theorem dX11_soundsSo_10 : decode cX11_soundsSo 10 = .ok (.if_icmp .ge 56, 3) := by decide +kernel
theorem dX11_soundsSo_13 : decode cX11_soundsSo 13 = .ok (.aload_n 1, 1) := by decide +kernel
theorem dX11_soundsSo_14 : decode cX11_soundsSo 14 = .ok (.iload 6, 2) := by decide +kernel
theorem dX11_soundsSo_16 : decode cX11_soundsSo 16 = .ok (.iload_n 3, 1) := by decide +kernel
theorem dX11_soundsSo_17 : decode cX11_soundsSo 17 = .ok (.iload 7, 2) := by decide +kernel
theorem dX11_soundsSo_19 : decode cX11_soundsSo 19 = .ok (.ishr, 1) := by decide +kernel
theorem dX11_soundsSo_20 : decode cX11_soundsSo 20 = .ok (.iconst 1, 1) := by decide +kernel
theorem dX11_soundsSo_21 : decode cX11_soundsSo 21 = .ok (.iand, 1) := by decide +kernel
theorem dX11_soundsSo_22 : decode cX11_soundsSo 22 = .ok (.iload 7, 2) := by decide +kernel
theorem dX11_soundsSo_24 : decode cX11_soundsSo 24 = .ok (.aload_n 0, 1) := by decide +kernel
theorem dX11_soundsSo_25 : decode cX11_soundsSo 25 = .ok (.getfield 12, 3) := by decide +kernel
theorem dX11_soundsSo_28 : decode cX11_soundsSo 28 = .ok (.getfield 116, 3) := by decide +kernel
theorem dX11_soundsSo_31 : decode cX11_soundsSo 31 = .ok (.invokevirtual 162, 3) := by decide +kernel
theorem dX11_soundsSo_34 : decode cX11_soundsSo 34 = .ok (.istore 6, 2) := by decide +kernel
theorem dX11_soundsSo_36 : decode cX11_soundsSo 36 = .ok (.aload_n 0, 1) := by decide +kernel
theorem dX11_soundsSo_37 : decode cX11_soundsSo 37 = .ok (.getfield 12, 3) := by decide +kernel
theorem dX11_soundsSo_40 : decode cX11_soundsSo 40 = .ok (.getfield 132, 3) := by decide +kernel
theorem dX11_soundsSo_43 : decode cX11_soundsSo 43 = .ok (.iload 6, 2) := by decide +kernel
theorem dX11_soundsSo_45 : decode cX11_soundsSo 45 = .ok (.invokestatic 119, 3) := by decide +kernel
theorem dX11_soundsSo_48 : decode cX11_soundsSo 48 = .ok (.iload 5, 2) := by decide +kernel
theorem dX11_soundsSo_50 : decode cX11_soundsSo 50 = .ok (.iload 7, 2) := by decide +kernel
theorem dX11_soundsSo_52 : decode cX11_soundsSo 52 = .ok (.invokestatic 119, 3) := by decide +kernel
theorem dX11_soundsSo_55 : decode cX11_soundsSo 55 = .ok (.if_icmp .eq 5, 3) := by decide +kernel
theorem dX11_soundsSo_58 : decode cX11_soundsSo 58 = .ok (.iconst 0, 1) := by decide +kernel
theorem dX11_soundsSo_59 : decode cX11_soundsSo 59 = .ok (.ireturn, 1) := by decide +kernel
theorem dX11_soundsSo_60 : decode cX11_soundsSo 60 = .ok (.iinc 7 1, 3) := by decide +kernel
theorem dX11_soundsSo_63 : decode cX11_soundsSo 63 = .ok (.goto (-57), 3) := by decide +kernel
theorem dX11_soundsSo_66 : decode cX11_soundsSo 66 = .ok (.iconst 1, 1) := by decide +kernel
theorem dX11_soundsSo_67 : decode cX11_soundsSo 67 = .ok (.ireturn, 1) := by decide +kernel
theorem dX11_drawOne_0 : decode cX11_drawOne 0 = .ok (.aload_n 0, 1) := by decide +kernel
theorem dX11_drawOne_1 : decode cX11_drawOne 1 = .ok (.getfield 69, 3) := by decide +kernel
theorem dX11_drawOne_4 : decode cX11_drawOne 4 = .ok (.lconst 0, 1) := by decide +kernel
theorem dX11_drawOne_5 : decode cX11_drawOne 5 = .ok (.invokestatic 237, 3) := by decide +kernel
theorem dX11_drawOne_8 : decode cX11_drawOne 8 = .ok (.iconst 0, 1) := by decide +kernel
theorem dX11_drawOne_9 : decode cX11_drawOne 9 = .ok (.istore 4, 2) := by decide +kernel
theorem dX11_drawOne_11 : decode cX11_drawOne 11 = .ok (.iload 4, 2) := by decide +kernel
theorem dX11_drawOne_13 : decode cX11_drawOne 13 = .ok (.aload_n 0, 1) := by decide +kernel
theorem dX11_drawOne_14 : decode cX11_drawOne 14 = .ok (.getfield 12, 3) := by decide +kernel
theorem dX11_drawOne_17 : decode cX11_drawOne 17 = .ok (.getfield 76, 3) := by decide +kernel
theorem dX11_drawOne_20 : decode cX11_drawOne 20 = .ok (.if_icmp .ge 110, 3) := by decide +kernel
theorem dX11_drawOne_23 : decode cX11_drawOne 23 = .ok (.aload_n 1, 1) := by decide +kernel
theorem dX11_drawOne_24 : decode cX11_drawOne 24 = .ok (.iload 4, 2) := by decide +kernel
theorem dX11_drawOne_26 : decode cX11_drawOne 26 = .ok (.iconst 0, 1) := by decide +kernel
theorem dX11_drawOne_27 : decode cX11_drawOne 27 = .ok (.iload_n 2, 1) := by decide +kernel
theorem dX11_drawOne_28 : decode cX11_drawOne 28 = .ok (.aload_n 0, 1) := by decide +kernel
theorem dX11_drawOne_29 : decode cX11_drawOne 29 = .ok (.getfield 12, 3) := by decide +kernel
theorem dX11_drawOne_32 : decode cX11_drawOne 32 = .ok (.getfield 116, 3) := by decide +kernel
theorem dX11_drawOne_35 : decode cX11_drawOne 35 = .ok (.invokevirtual 162, 3) := by decide +kernel
theorem dX11_drawOne_38 : decode cX11_drawOne 38 = .ok (.istore 5, 2) := by decide +kernel
theorem dX11_drawOne_40 : decode cX11_drawOne 40 = .ok (.aload_n 1, 1) := by decide +kernel
theorem dX11_drawOne_41 : decode cX11_drawOne 41 = .ok (.iload 4, 2) := by decide +kernel
theorem dX11_drawOne_43 : decode cX11_drawOne 43 = .ok (.iconst 1, 1) := by decide +kernel
theorem dX11_drawOne_44 : decode cX11_drawOne 44 = .ok (.iload_n 2, 1) := by decide +kernel
theorem dX11_drawOne_45 : decode cX11_drawOne 45 = .ok (.aload_n 0, 1) := by decide +kernel
theorem dX11_drawOne_46 : decode cX11_drawOne 46 = .ok (.getfield 12, 3) := by decide +kernel
theorem dX11_drawOne_49 : decode cX11_drawOne 49 = .ok (.getfield 116, 3) := by decide +kernel
theorem dX11_drawOne_52 : decode cX11_drawOne 52 = .ok (.invokevirtual 162, 3) := by decide +kernel
theorem dX11_drawOne_55 : decode cX11_drawOne 55 = .ok (.istore 6, 2) := by decide +kernel
theorem dX11_drawOne_57 : decode cX11_drawOne 57 = .ok (.aload_n 0, 1) := by decide +kernel
theorem dX11_drawOne_58 : decode cX11_drawOne 58 = .ok (.getfield 12, 3) := by decide +kernel
theorem dX11_drawOne_61 : decode cX11_drawOne 61 = .ok (.iload 5, 2) := by decide +kernel
theorem dX11_drawOne_63 : decode cX11_drawOne 63 = .ok (.invokevirtual 113, 3) := by decide +kernel
theorem dX11_drawOne_66 : decode cX11_drawOne 66 = .ok (.ifCond .eq 58, 3) := by decide +kernel
theorem dX11_drawOne_69 : decode cX11_drawOne 69 = .ok (.aload_n 0, 1) := by decide +kernel
theorem dX11_drawOne_70 : decode cX11_drawOne 70 = .ok (.getfield 12, 3) := by decide +kernel
theorem dX11_drawOne_73 : decode cX11_drawOne 73 = .ok (.iload 6, 2) := by decide +kernel
theorem dX11_drawOne_75 : decode cX11_drawOne 75 = .ok (.invokevirtual 113, 3) := by decide +kernel
theorem dX11_drawOne_78 : decode cX11_drawOne 78 = .ok (.ifCond .eq 46, 3) := by decide +kernel
theorem dX11_drawOne_81 : decode cX11_drawOne 81 = .ok (.aload_n 0, 1) := by decide +kernel
theorem dX11_drawOne_82 : decode cX11_drawOne 82 = .ok (.getfield 69, 3) := by decide +kernel
theorem dX11_drawOne_85 : decode cX11_drawOne 85 = .ok (.iload 5, 2) := by decide +kernel
theorem dX11_drawOne_87 : decode cX11_drawOne 87 = .ok (.dup2, 1) := by decide +kernel
theorem dX11_drawOne_88 : decode cX11_drawOne 88 = .ok (.laload, 1) := by decide +kernel
theorem dX11_drawOne_89 : decode cX11_drawOne 89 = .ok (.bipush 10, 2) := by decide +kernel
theorem dX11_drawOne_91 : decode cX11_drawOne 91 = .ok (.iload_n 3, 1) := by decide +kernel
theorem dX11_drawOne_92 : decode cX11_drawOne 92 = .ok (.isub, 1) := by decide +kernel
theorem dX11_drawOne_93 : decode cX11_drawOne 93 = .ok (.i2l, 1) := by decide +kernel
theorem dX11_drawOne_94 : decode cX11_drawOne 94 = .ok (.aload_n 0, 1) := by decide +kernel
theorem dX11_drawOne_95 : decode cX11_drawOne 95 = .ok (.getfield 65, 3) := by decide +kernel
theorem dX11_drawOne_98 : decode cX11_drawOne 98 = .ok (.iload 4, 2) := by decide +kernel
theorem dX11_drawOne_100 : decode cX11_drawOne 100 = .ok (.laload, 1) := by decide +kernel
theorem dX11_drawOne_101 : decode cX11_drawOne 101 = .ok (.lmul, 1) := by decide +kernel
theorem dX11_drawOne_102 : decode cX11_drawOne 102 = .ok (.ladd, 1) := by decide +kernel
theorem dX11_drawOne_103 : decode cX11_drawOne 103 = .ok (.lastore, 1) := by decide +kernel
theorem dX11_drawOne_104 : decode cX11_drawOne 104 = .ok (.aload_n 0, 1) := by decide +kernel
theorem dX11_drawOne_105 : decode cX11_drawOne 105 = .ok (.getfield 69, 3) := by decide +kernel
theorem dX11_drawOne_108 : decode cX11_drawOne 108 = .ok (.iload 6, 2) := by decide +kernel
theorem dX11_drawOne_110 : decode cX11_drawOne 110 = .ok (.dup2, 1) := by decide +kernel
theorem dX11_drawOne_111 : decode cX11_drawOne 111 = .ok (.laload, 1) := by decide +kernel
theorem dX11_drawOne_112 : decode cX11_drawOne 112 = .ok (.iload_n 3, 1) := by decide +kernel
theorem dX11_drawOne_113 : decode cX11_drawOne 113 = .ok (.i2l, 1) := by decide +kernel
theorem dX11_drawOne_114 : decode cX11_drawOne 114 = .ok (.aload_n 0, 1) := by decide +kernel
theorem dX11_drawOne_115 : decode cX11_drawOne 115 = .ok (.getfield 65, 3) := by decide +kernel
theorem dX11_drawOne_118 : decode cX11_drawOne 118 = .ok (.iload 4, 2) := by decide +kernel
theorem dX11_drawOne_120 : decode cX11_drawOne 120 = .ok (.laload, 1) := by decide +kernel
theorem dX11_drawOne_121 : decode cX11_drawOne 121 = .ok (.lmul, 1) := by decide +kernel
theorem dX11_drawOne_122 : decode cX11_drawOne 122 = .ok (.ladd, 1) := by decide +kernel
theorem dX11_drawOne_123 : decode cX11_drawOne 123 = .ok (.lastore, 1) := by decide +kernel
theorem dX11_drawOne_124 : decode cX11_drawOne 124 = .ok (.iinc 4 1, 3) := by decide +kernel
theorem dX11_drawOne_127 : decode cX11_drawOne 127 = .ok (.goto (-116), 3) := by decide +kernel
theorem dX11_drawOne_130 : decode cX11_drawOne 130 = .ok (.aload_n 0, 1) := by decide +kernel
theorem dX11_drawOne_131 : decode cX11_drawOne 131 = .ok (.getfield 69, 3) := by decide +kernel
theorem dX11_drawOne_134 : decode cX11_drawOne 134 = .ok (.iconst 0, 1) := by decide +kernel
theorem dX11_drawOne_135 : decode cX11_drawOne 135 = .ok (.aload_n 0, 1) := by decide +kernel
theorem dX11_drawOne_136 : decode cX11_drawOne 136 = .ok (.getfield 65, 3) := by decide +kernel
theorem dX11_drawOne_139 : decode cX11_drawOne 139 = .ok (.iconst 0, 1) := by decide +kernel
theorem dX11_drawOne_140 : decode cX11_drawOne 140 = .ok (.iconst 5, 1) := by decide +kernel
theorem dX11_drawOne_141 : decode cX11_drawOne 141 = .ok (.invokestatic 271, 3) := by decide +kernel
theorem dX11_drawOne_144 : decode cX11_drawOne 144 = .ok (.return_, 1) := by decide +kernel
theorem dX11_keepFraction_0 : decode cX11_keepFraction 0 = .ok (.lload_n 1, 1) := by decide +kernel
theorem dX11_keepFraction_1 : decode cX11_keepFraction 1 = .ok (.lload_n 3, 1) := by decide +kernel
theorem dX11_keepFraction_2 : decode cX11_keepFraction 2 = .ok (.invokestatic 277, 3) := by decide +kernel
theorem dX11_keepFraction_5 : decode cX11_keepFraction 5 = .ok (.lstore 5, 2) := by decide +kernel
theorem dX11_keepFraction_7 : decode cX11_keepFraction 7 = .ok (.lload 5, 2) := by decide +kernel
theorem dX11_keepFraction_9 : decode cX11_keepFraction 9 = .ok (.lconst 0, 1) := by decide +kernel
theorem dX11_keepFraction_10 : decode cX11_keepFraction 10 = .ok (.lcmp, 1) := by decide +kernel
theorem dX11_keepFraction_11 : decode cX11_keepFraction 11 = .ok (.ifCond .le 19, 3) := by decide +kernel
theorem dX11_keepFraction_14 : decode cX11_keepFraction 14 = .ok (.aload_n 0, 1) := by decide +kernel
theorem dX11_keepFraction_15 : decode cX11_keepFraction 15 = .ok (.lload_n 1, 1) := by decide +kernel
theorem dX11_keepFraction_16 : decode cX11_keepFraction 16 = .ok (.lload 5, 2) := by decide +kernel
theorem dX11_keepFraction_18 : decode cX11_keepFraction 18 = .ok (.ldiv, 1) := by decide +kernel
theorem dX11_keepFraction_19 : decode cX11_keepFraction 19 = .ok (.putfield 28, 3) := by decide +kernel
theorem dX11_keepFraction_22 : decode cX11_keepFraction 22 = .ok (.aload_n 0, 1) := by decide +kernel
theorem dX11_keepFraction_23 : decode cX11_keepFraction 23 = .ok (.lload_n 3, 1) := by decide +kernel
theorem dX11_keepFraction_24 : decode cX11_keepFraction 24 = .ok (.lload 5, 2) := by decide +kernel
theorem dX11_keepFraction_26 : decode cX11_keepFraction 26 = .ok (.ldiv, 1) := by decide +kernel
theorem dX11_keepFraction_27 : decode cX11_keepFraction 27 = .ok (.putfield 32, 3) := by decide +kernel
theorem dX11_keepFraction_30 : decode cX11_keepFraction 30 = .ok (.return_, 1) := by decide +kernel
theorem dX11_commonDivisor_0 : decode cX11_commonDivisor 0 = .ok (.lload_n 0, 1) := by decide +kernel
theorem dX11_commonDivisor_1 : decode cX11_commonDivisor 1 = .ok (.lstore 4, 2) := by decide +kernel
theorem dX11_commonDivisor_3 : decode cX11_commonDivisor 3 = .ok (.lload_n 2, 1) := by decide +kernel
theorem dX11_commonDivisor_4 : decode cX11_commonDivisor 4 = .ok (.lstore 6, 2) := by decide +kernel
theorem dX11_commonDivisor_6 : decode cX11_commonDivisor 6 = .ok (.iconst 0, 1) := by decide +kernel
theorem dX11_commonDivisor_7 : decode cX11_commonDivisor 7 = .ok (.istore 8, 2) := by decide +kernel
theorem dX11_commonDivisor_9 : decode cX11_commonDivisor 9 = .ok (.iload 8, 2) := by decide +kernel
theorem dX11_commonDivisor_11 : decode cX11_commonDivisor 11 = .ok (.sipush 128, 3) := by decide +kernel
theorem dX11_commonDivisor_14 : decode cX11_commonDivisor 14 = .ok (.if_icmp .ge 31, 3) := by decide +kernel
theorem dX11_commonDivisor_17 : decode cX11_commonDivisor 17 = .ok (.lload 6, 2) := by decide +kernel
theorem dX11_commonDivisor_19 : decode cX11_commonDivisor 19 = .ok (.lconst 0, 1) := by decide +kernel
theorem dX11_commonDivisor_20 : decode cX11_commonDivisor 20 = .ok (.lcmp, 1) := by decide +kernel
theorem dX11_commonDivisor_21 : decode cX11_commonDivisor 21 = .ok (.ifCond .eq 24, 3) := by decide +kernel
theorem dX11_commonDivisor_24 : decode cX11_commonDivisor 24 = .ok (.lload 4, 2) := by decide +kernel
theorem dX11_commonDivisor_26 : decode cX11_commonDivisor 26 = .ok (.lload 6, 2) := by decide +kernel
theorem dX11_commonDivisor_28 : decode cX11_commonDivisor 28 = .ok (.lrem, 1) := by decide +kernel
theorem dX11_commonDivisor_29 : decode cX11_commonDivisor 29 = .ok (.lstore 9, 2) := by decide +kernel
theorem dX11_commonDivisor_31 : decode cX11_commonDivisor 31 = .ok (.lload 6, 2) := by decide +kernel
theorem dX11_commonDivisor_33 : decode cX11_commonDivisor 33 = .ok (.lstore 4, 2) := by decide +kernel
theorem dX11_commonDivisor_35 : decode cX11_commonDivisor 35 = .ok (.lload 9, 2) := by decide +kernel
theorem dX11_commonDivisor_37 : decode cX11_commonDivisor 37 = .ok (.lstore 6, 2) := by decide +kernel
theorem dX11_commonDivisor_39 : decode cX11_commonDivisor 39 = .ok (.iinc 8 1, 3) := by decide +kernel
theorem dX11_commonDivisor_42 : decode cX11_commonDivisor 42 = .ok (.goto (-33), 3) := by decide +kernel
theorem dX11_commonDivisor_45 : decode cX11_commonDivisor 45 = .ok (.lload 4, 2) := by decide +kernel
theorem dX11_commonDivisor_47 : decode cX11_commonDivisor 47 = .ok (.lreturn, 1) := by decide +kernel
theorem dX11_isRowsKind_0 : decode cX11_isRowsKind 0 = .ok (.iload_n 0, 1) := by decide +kernel
theorem dX11_isRowsKind_1 : decode cX11_isRowsKind 1 = .ok (.ifCond .eq 13, 3) := by decide +kernel
theorem dX11_isRowsKind_4 : decode cX11_isRowsKind 4 = .ok (.iload_n 0, 1) := by decide +kernel
theorem dX11_isRowsKind_5 : decode cX11_isRowsKind 5 = .ok (.iconst 1, 1) := by decide +kernel
theorem dX11_isRowsKind_6 : decode cX11_isRowsKind 6 = .ok (.if_icmp .eq 8, 3) := by decide +kernel
theorem dX11_isRowsKind_9 : decode cX11_isRowsKind 9 = .ok (.iload_n 0, 1) := by decide +kernel
theorem dX11_isRowsKind_10 : decode cX11_isRowsKind 10 = .ok (.iconst 4, 1) := by decide +kernel
theorem dX11_isRowsKind_11 : decode cX11_isRowsKind 11 = .ok (.if_icmp .ne 7, 3) := by decide +kernel
theorem dX11_isRowsKind_14 : decode cX11_isRowsKind 14 = .ok (.iconst 1, 1) := by decide +kernel
theorem dX11_isRowsKind_15 : decode cX11_isRowsKind 15 = .ok (.goto 4, 3) := by decide +kernel
theorem dX11_isRowsKind_18 : decode cX11_isRowsKind 18 = .ok (.iconst 0, 1) := by decide +kernel
theorem dX11_isRowsKind_19 : decode cX11_isRowsKind 19 = .ok (.ireturn, 1) := by decide +kernel
theorem dX11_isLearningKind_0 : decode cX11_isLearningKind 0 = .ok (.iload_n 0, 1) := by decide +kernel
theorem dX11_isLearningKind_1 : decode cX11_isLearningKind 1 = .ok (.iconst 2, 1) := by decide +kernel
theorem dX11_isLearningKind_2 : decode cX11_isLearningKind 2 = .ok (.if_icmp .eq 8, 3) := by decide +kernel
theorem dX11_isLearningKind_5 : decode cX11_isLearningKind 5 = .ok (.iload_n 0, 1) := by decide +kernel
theorem dX11_isLearningKind_6 : decode cX11_isLearningKind 6 = .ok (.iconst 3, 1) := by decide +kernel
theorem dX11_isLearningKind_7 : decode cX11_isLearningKind 7 = .ok (.if_icmp .ne 7, 3) := by decide +kernel
theorem dX11_isLearningKind_10 : decode cX11_isLearningKind 10 = .ok (.iconst 1, 1) := by decide +kernel
theorem dX11_isLearningKind_11 : decode cX11_isLearningKind 11 = .ok (.goto 4, 3) := by decide +kernel
theorem dX11_isLearningKind_14 : decode cX11_isLearningKind 14 = .ok (.iconst 0, 1) := by decide +kernel
theorem dX11_isLearningKind_15 : decode cX11_isLearningKind 15 = .ok (.ireturn, 1) := by decide +kernel
theorem dX11_bred_0 : decode cX11_bred 0 = .ok (.iload_n 0, 1) := by decide +kernel
theorem dX11_bred_1 : decode cX11_bred 1 = .ok (.iconst 1, 1) := by decide +kernel
theorem dX11_bred_2 : decode cX11_bred 2 = .ok (.if_icmp .ne 14, 3) := by decide +kernel
theorem dX11_bred_5 : decode cX11_bred 5 = .ok (.new 281, 3) := by decide +kernel
theorem dX11_bred_8 : decode cX11_bred 8 = .ok (.dup, 1) := by decide +kernel
theorem dX11_bred_9 : decode cX11_bred 9 = .ok (.iload_n 0, 1) := by decide +kernel
theorem dX11_bred_10 : decode cX11_bred 10 = .ok (.iload_n 1, 1) := by decide +kernel
theorem dX11_bred_11 : decode cX11_bred 11 = .ok (.iload_n 2, 1) := by decide +kernel
theorem dX11_bred_12 : decode cX11_bred 12 = .ok (.invokespecial 283, 3) := by decide +kernel
theorem dX11_bred_15 : decode cX11_bred 15 = .ok (.areturn, 1) := by decide +kernel
theorem dX11_bred_16 : decode cX11_bred 16 = .ok (.iload_n 0, 1) := by decide +kernel
theorem dX11_bred_17 : decode cX11_bred 17 = .ok (.iconst 4, 1) := by decide +kernel
theorem dX11_bred_18 : decode cX11_bred 18 = .ok (.if_icmp .ne 14, 3) := by decide +kernel
theorem dX11_bred_21 : decode cX11_bred 21 = .ok (.new 286, 3) := by decide +kernel
theorem dX11_bred_24 : decode cX11_bred 24 = .ok (.dup, 1) := by decide +kernel
theorem dX11_bred_25 : decode cX11_bred 25 = .ok (.iload_n 0, 1) := by decide +kernel
theorem dX11_bred_26 : decode cX11_bred 26 = .ok (.iload_n 1, 1) := by decide +kernel
theorem dX11_bred_27 : decode cX11_bred 27 = .ok (.iload_n 2, 1) := by decide +kernel
theorem dX11_bred_28 : decode cX11_bred 28 = .ok (.invokespecial 288, 3) := by decide +kernel
theorem dX11_bred_31 : decode cX11_bred 31 = .ok (.areturn, 1) := by decide +kernel
theorem dX11_bred_32 : decode cX11_bred 32 = .ok (.new 163, 3) := by decide +kernel
theorem dX11_bred_35 : decode cX11_bred 35 = .ok (.dup, 1) := by decide +kernel
theorem dX11_bred_36 : decode cX11_bred 36 = .ok (.iload_n 0, 1) := by decide +kernel
theorem dX11_bred_37 : decode cX11_bred 37 = .ok (.iload_n 1, 1) := by decide +kernel
theorem dX11_bred_38 : decode cX11_bred 38 = .ok (.iload_n 2, 1) := by decide +kernel
theorem dX11_bred_39 : decode cX11_bred 39 = .ok (.invokespecial 289, 3) := by decide +kernel
theorem dX11_bred_42 : decode cX11_bred 42 = .ok (.areturn, 1) := by decide +kernel
theorem dX11_bredLearning_0 : decode cX11_bredLearning 0 = .ok (.iload_n 0, 1) := by decide +kernel
theorem dX11_bredLearning_1 : decode cX11_bredLearning 1 = .ok (.iconst 3, 1) := by decide +kernel
theorem dX11_bredLearning_2 : decode cX11_bredLearning 2 = .ok (.if_icmp .ne 19, 3) := by decide +kernel
theorem dX11_bredLearning_5 : decode cX11_bredLearning 5 = .ok (.new 290, 3) := by decide +kernel
theorem dX11_bredLearning_8 : decode cX11_bredLearning 8 = .ok (.dup, 1) := by decide +kernel
theorem dX11_bredLearning_9 : decode cX11_bredLearning 9 = .ok (.iload_n 0, 1) := by decide +kernel
theorem dX11_bredLearning_10 : decode cX11_bredLearning 10 = .ok (.iload_n 1, 1) := by decide +kernel
theorem dX11_bredLearning_11 : decode cX11_bredLearning 11 = .ok (.iload_n 2, 1) := by decide +kernel
theorem dX11_bredLearning_12 : decode cX11_bredLearning 12 = .ok (.iload_n 3, 1) := by decide +kernel
theorem dX11_bredLearning_13 : decode cX11_bredLearning 13 = .ok (.iload 4, 2) := by decide +kernel
theorem dX11_bredLearning_15 : decode cX11_bredLearning 15 = .ok (.iload 5, 2) := by decide +kernel
theorem dX11_bredLearning_17 : decode cX11_bredLearning 17 = .ok (.invokespecial 292, 3) := by decide +kernel
theorem dX11_bredLearning_20 : decode cX11_bredLearning 20 = .ok (.areturn, 1) := by decide +kernel
theorem dX11_bredLearning_21 : decode cX11_bredLearning 21 = .ok (.new 295, 3) := by decide +kernel
theorem dX11_bredLearning_24 : decode cX11_bredLearning 24 = .ok (.dup, 1) := by decide +kernel
theorem dX11_bredLearning_25 : decode cX11_bredLearning 25 = .ok (.iload_n 0, 1) := by decide +kernel
theorem dX11_bredLearning_26 : decode cX11_bredLearning 26 = .ok (.iload_n 1, 1) := by decide +kernel
theorem dX11_bredLearning_27 : decode cX11_bredLearning 27 = .ok (.iload_n 2, 1) := by decide +kernel
theorem dX11_bredLearning_28 : decode cX11_bredLearning 28 = .ok (.iload_n 3, 1) := by decide +kernel
theorem dX11_bredLearning_29 : decode cX11_bredLearning 29 = .ok (.iload 4, 2) := by decide +kernel
theorem dX11_bredLearning_31 : decode cX11_bredLearning 31 = .ok (.iload 5, 2) := by decide +kernel
theorem dX11_bredLearning_33 : decode cX11_bredLearning 33 = .ok (.invokespecial 297, 3) := by decide +kernel
theorem dX11_bredLearning_36 : decode cX11_bredLearning 36 = .ok (.areturn, 1) := by decide +kernel
theorem dX11_phaseOf_0 : decode cX11_phaseOf 0 = .ok (.iload_n 0, 1) := by decide +kernel
theorem dX11_phaseOf_1 : decode cX11_phaseOf 1 = .ok (.iconst 3, 1) := by decide +kernel
theorem dX11_phaseOf_2 : decode cX11_phaseOf 2 = .ok (.if_icmp .ge 7, 3) := by decide +kernel
theorem dX11_phaseOf_5 : decode cX11_phaseOf 5 = .ok (.iload_n 0, 1) := by decide +kernel
theorem dX11_phaseOf_6 : decode cX11_phaseOf 6 = .ok (.goto 8, 3) := by decide +kernel
theorem dX11_phaseOf_9 : decode cX11_phaseOf 9 = .ok (.iconst 4, 1) := by decide +kernel
theorem dX11_phaseOf_10 : decode cX11_phaseOf 10 = .ok (.iload_n 0, 1) := by decide +kernel
theorem dX11_phaseOf_11 : decode cX11_phaseOf 11 = .ok (.iconst 1, 1) := by decide +kernel
theorem dX11_phaseOf_12 : decode cX11_phaseOf 12 = .ok (.iand, 1) := by decide +kernel
theorem dX11_phaseOf_13 : decode cX11_phaseOf 13 = .ok (.isub, 1) := by decide +kernel
theorem dX11_phaseOf_14 : decode cX11_phaseOf 14 = .ok (.ireturn, 1) := by decide +kernel
theorem dX11_lowestBitIndex_0 : decode cX11_lowestBitIndex 0 = .ok (.iload_n 0, 1) := by decide +kernel
theorem dX11_lowestBitIndex_1 : decode cX11_lowestBitIndex 1 = .ok (.iload_n 0, 1) := by decide +kernel
theorem dX11_lowestBitIndex_2 : decode cX11_lowestBitIndex 2 = .ok (.ineg, 1) := by decide +kernel
theorem dX11_lowestBitIndex_3 : decode cX11_lowestBitIndex 3 = .ok (.iand, 1) := by decide +kernel
theorem dX11_lowestBitIndex_4 : decode cX11_lowestBitIndex 4 = .ok (.iconst 1, 1) := by decide +kernel
theorem dX11_lowestBitIndex_5 : decode cX11_lowestBitIndex 5 = .ok (.isub, 1) := by decide +kernel
theorem dX11_lowestBitIndex_6 : decode cX11_lowestBitIndex 6 = .ok (.invokestatic 203, 3) := by decide +kernel
theorem dX11_lowestBitIndex_9 : decode cX11_lowestBitIndex 9 = .ok (.ireturn, 1) := by decide +kernel
theorem dX12_init_0 : decode cX12_init 0 = .ok (.aload_n 0, 1) := by decide +kernel
theorem dX12_init_1 : decode cX12_init 1 = .ok (.invokespecial 1, 3) := by decide +kernel
theorem dX12_init_4 : decode cX12_init 4 = .ok (.aload_n 0, 1) := by decide +kernel
theorem dX12_init_5 : decode cX12_init 5 = .ok (.bipush 25, 2) := by decide +kernel
theorem dX12_init_7 : decode cX12_init 7 = .ok (.newarray .int, 2) := by decide +kernel
theorem dX12_init_9 : decode cX12_init 9 = .ok (.putfield 7, 3) := by decide +kernel
theorem dX12_init_12 : decode cX12_init 12 = .ok (.aload_n 0, 1) := by decide +kernel
theorem dX12_init_13 : decode cX12_init 13 = .ok (.bipush 25, 2) := by decide +kernel
theorem dX12_init_15 : decode cX12_init 15 = .ok (.newarray .int, 2) := by decide +kernel
theorem dX12_init_17 : decode cX12_init 17 = .ok (.putfield 13, 3) := by decide +kernel
theorem dX12_init_20 : decode cX12_init 20 = .ok (.aload_n 0, 1) := by decide +kernel
theorem dX12_init_21 : decode cX12_init 21 = .ok (.bipush 50, 2) := by decide +kernel
theorem dX12_init_23 : decode cX12_init 23 = .ok (.newarray .int, 2) := by decide +kernel
theorem dX12_init_25 : decode cX12_init 25 = .ok (.putfield 16, 3) := by decide +kernel
theorem dX12_init_28 : decode cX12_init 28 = .ok (.aload_n 0, 1) := by decide +kernel
theorem dX12_init_29 : decode cX12_init 29 = .ok (.iconst 2, 1) := by decide +kernel
theorem dX12_init_30 : decode cX12_init 30 = .ok (.newarray .boolean, 2) := by decide +kernel
theorem dX12_init_32 : decode cX12_init 32 = .ok (.putfield 19, 3) := by decide +kernel
theorem dX12_init_35 : decode cX12_init 35 = .ok (.aload_n 0, 1) := by decide +kernel
theorem dX12_init_36 : decode cX12_init 36 = .ok (.sipush 200, 3) := by decide +kernel
theorem dX12_init_39 : decode cX12_init 39 = .ok (.newarray .int, 2) := by decide +kernel
theorem dX12_init_41 : decode cX12_init 41 = .ok (.putfield 23, 3) := by decide +kernel
theorem dX12_init_44 : decode cX12_init 44 = .ok (.aload_n 0, 1) := by decide +kernel
theorem dX12_init_45 : decode cX12_init 45 = .ok (.iconst 3, 1) := by decide +kernel
theorem dX12_init_46 : decode cX12_init 46 = .ok (.newarray .int, 2) := by decide +kernel
theorem dX12_init_48 : decode cX12_init 48 = .ok (.putfield 26, 3) := by decide +kernel
theorem dX12_init_51 : decode cX12_init 51 = .ok (.aload_n 0, 1) := by decide +kernel
theorem dX12_init_52 : decode cX12_init 52 = .ok (.ldc 29, 2) := by decide +kernel
theorem dX12_init_54 : decode cX12_init 54 = .ok (.newarray .int, 2) := by decide +kernel
theorem dX12_init_56 : decode cX12_init 56 = .ok (.putfield 30, 3) := by decide +kernel
theorem dX12_init_59 : decode cX12_init 59 = .ok (.aload_n 0, 1) := by decide +kernel
theorem dX12_init_60 : decode cX12_init 60 = .ok (.ldc 29, 2) := by decide +kernel
theorem dX12_init_62 : decode cX12_init 62 = .ok (.newarray .int, 2) := by decide +kernel
theorem dX12_init_64 : decode cX12_init 64 = .ok (.putfield 33, 3) := by decide +kernel
theorem dX12_init_67 : decode cX12_init 67 = .ok (.aload_n 0, 1) := by decide +kernel
theorem dX12_init_68 : decode cX12_init 68 = .ok (.iconst 2, 1) := by decide +kernel
theorem dX12_init_69 : decode cX12_init 69 = .ok (.newarray .int, 2) := by decide +kernel
theorem dX12_init_71 : decode cX12_init 71 = .ok (.putfield 36, 3) := by decide +kernel
theorem dX12_init_74 : decode cX12_init 74 = .ok (.aload_n 0, 1) := by decide +kernel
theorem dX12_init_75 : decode cX12_init 75 = .ok (.bipush 125, 2) := by decide +kernel
theorem dX12_init_77 : decode cX12_init 77 = .ok (.newarray .boolean, 2) := by decide +kernel
theorem dX12_init_79 : decode cX12_init 79 = .ok (.putfield 39, 3) := by decide +kernel
theorem dX12_init_82 : decode cX12_init 82 = .ok (.aload_n 0, 1) := by decide +kernel
theorem dX12_init_83 : decode cX12_init 83 = .ok (.sipush 288, 3) := by decide +kernel
theorem dX12_init_86 : decode cX12_init 86 = .ok (.newarray .int, 2) := by decide +kernel
theorem dX12_init_88 : decode cX12_init 88 = .ok (.putfield 42, 3) := by decide +kernel
theorem dX12_init_91 : decode cX12_init 91 = .ok (.aload_n 0, 1) := by decide +kernel
theorem dX12_init_92 : decode cX12_init 92 = .ok (.bipush 10, 2) := by decide +kernel
theorem dX12_init_94 : decode cX12_init 94 = .ok (.newarray .long, 2) := by decide +kernel
theorem dX12_init_96 : decode cX12_init 96 = .ok (.putfield 45, 3) := by decide +kernel
theorem dX12_init_99 : decode cX12_init 99 = .ok (.aload_n 0, 1) := by decide +kernel
theorem dX12_init_100 : decode cX12_init 100 = .ok (.getfield 7, 3) := by decide +kernel
theorem dX12_init_103 : decode cX12_init 103 = .ok (.iconst 0, 1) := by decide +kernel
theorem dX12_init_104 : decode cX12_init 104 = .ok (.iconst 5, 1) := by decide +kernel
theorem dX12_init_105 : decode cX12_init 105 = .ok (.iastore, 1) := by decide +kernel
theorem dX12_init_106 : decode cX12_init 106 = .ok (.aload_n 0, 1) := by decide +kernel
theorem dX12_init_107 : decode cX12_init 107 = .ok (.getfield 7, 3) := by decide +kernel
theorem dX12_init_110 : decode cX12_init 110 = .ok (.iconst 4, 1) := by decide +kernel
theorem dX12_init_111 : decode cX12_init 111 = .ok (.iconst 1, 1) := by decide +kernel
theorem dX12_init_112 : decode cX12_init 112 = .ok (.iastore, 1) := by decide +kernel
theorem dX12_init_113 : decode cX12_init 113 = .ok (.aload_n 0, 1) := by decide +kernel
theorem dX12_init_114 : decode cX12_init 114 = .ok (.getfield 7, 3) := by decide +kernel
theorem dX12_init_117 : decode cX12_init 117 = .ok (.iconst 5, 1) := by decide +kernel
theorem dX12_init_118 : decode cX12_init 118 = .ok (.iconst 1, 1) := by decide +kernel
theorem dX12_init_119 : decode cX12_init 119 = .ok (.iastore, 1) := by decide +kernel
theorem dX12_init_120 : decode cX12_init 120 = .ok (.aload_n 0, 1) := by decide +kernel
theorem dX12_init_121 : decode cX12_init 121 = .ok (.lconst 1, 1) := by decide +kernel
theorem dX12_init_122 : decode cX12_init 122 = .ok (.putfield 49, 3) := by decide +kernel
theorem dX12_init_125 : decode cX12_init 125 = .ok (.return_, 1) := by decide +kernel
theorem dX12_in_0 : decode cX12_in 0 = .ok (.iload_n 0, 1) := by decide +kernel
theorem dX12_in_1 : decode cX12_in 1 = .ok (.iload_n 1, 1) := by decide +kernel
theorem dX12_in_2 : decode cX12_in 2 = .ok (.if_icmp .lt 12, 3) := by decide +kernel
theorem dX12_in_5 : decode cX12_in 5 = .ok (.iload_n 0, 1) := by decide +kernel
theorem dX12_in_6 : decode cX12_in 6 = .ok (.iload_n 2, 1) := by decide +kernel
theorem dX12_in_7 : decode cX12_in 7 = .ok (.if_icmp .gt 7, 3) := by decide +kernel
theorem dX12_in_10 : decode cX12_in 10 = .ok (.iconst 1, 1) := by decide +kernel
theorem dX12_in_11 : decode cX12_in 11 = .ok (.goto 4, 3) := by decide +kernel
theorem dX12_in_14 : decode cX12_in 14 = .ok (.iconst 0, 1) := by decide +kernel
theorem dX12_in_15 : decode cX12_in 15 = .ok (.ireturn, 1) := by decide +kernel
theorem dX12_refuses_0 : decode cX12_refuses 0 = .ok (.aload_n 0, 1) := by decide +kernel
theorem dX12_refuses_1 : decode cX12_refuses 1 = .ok (.getfield 26, 3) := by decide +kernel
theorem dX12_refuses_4 : decode cX12_refuses 4 = .ok (.iload_n 1, 1) := by decide +kernel
theorem dX12_refuses_5 : decode cX12_refuses 5 = .ok (.dup2, 1) := by decide +kernel
theorem dX12_refuses_6 : decode cX12_refuses 6 = .ok (.iaload, 1) := by decide +kernel
theorem dX12_refuses_7 : decode cX12_refuses 7 = .ok (.iconst 1, 1) := by decide +kernel
theorem dX12_refuses_8 : decode cX12_refuses 8 = .ok (.iadd, 1) := by decide +kernel
theorem dX12_refuses_9 : decode cX12_refuses 9 = .ok (.iastore, 1) := by decide +kernel
theorem dX12_refuses_10 : decode cX12_refuses 10 = .ok (.iload_n 2, 1) := by decide +kernel
theorem dX12_refuses_11 : decode cX12_refuses 11 = .ok (.ireturn, 1) := by decide +kernel
theorem dX12_bad_0 : decode cX12_bad 0 = .ok (.aload_n 0, 1) := by decide +kernel
theorem dX12_bad_1 : decode cX12_bad 1 = .ok (.iconst 0, 1) := by decide +kernel
theorem dX12_bad_2 : decode cX12_bad 2 = .ok (.bipush (-2), 2) := by decide +kernel
theorem dX12_bad_4 : decode cX12_bad 4 = .ok (.invokevirtual 53, 3) := by decide +kernel
theorem dX12_bad_7 : decode cX12_bad 7 = .ok (.ireturn, 1) := by decide +kernel
theorem dX12_isPlace_0 : decode cX12_isPlace 0 = .ok (.iload_n 1, 1) := by decide +kernel
theorem dX12_isPlace_1 : decode cX12_isPlace 1 = .ok (.iconst 0, 1) := by decide +kernel
theorem dX12_isPlace_2 : decode cX12_isPlace 2 = .ok (.aload_n 0, 1) := by decide +kernel
theorem dX12_isPlace_3 : decode cX12_isPlace 3 = .ok (.getfield 7, 3) := by decide +kernel
theorem dX12_isPlace_6 : decode cX12_isPlace 6 = .ok (.iconst 0, 1) := by decide +kernel
theorem dX12_isPlace_7 : decode cX12_isPlace 7 = .ok (.iaload, 1) := by decide +kernel
theorem dX12_isPlace_8 : decode cX12_isPlace 8 = .ok (.iconst 1, 1) := by decide +kernel
theorem dX12_isPlace_9 : decode cX12_isPlace 9 = .ok (.isub, 1) := by decide +kernel
theorem dX12_isPlace_10 : decode cX12_isPlace 10 = .ok (.invokestatic 57, 3) := by decide +kernel
theorem dX12_isPlace_13 : decode cX12_isPlace 13 = .ok (.ireturn, 1) := by decide +kernel
theorem dX12_isDog_0 : decode cX12_isDog 0 = .ok (.iload_n 1, 1) := by decide +kernel
theorem dX12_isDog_1 : decode cX12_isDog 1 = .ok (.iconst 0, 1) := by decide +kernel
theorem dX12_isDog_2 : decode cX12_isDog 2 = .ok (.aload_n 0, 1) := by decide +kernel
theorem dX12_isDog_3 : decode cX12_isDog 3 = .ok (.getfield 7, 3) := by decide +kernel
theorem dX12_isDog_6 : decode cX12_isDog 6 = .ok (.bipush 6, 2) := by decide +kernel
theorem dX12_isDog_8 : decode cX12_isDog 8 = .ok (.iaload, 1) := by decide +kernel
theorem dX12_isDog_9 : decode cX12_isDog 9 = .ok (.iconst 1, 1) := by decide +kernel
theorem dX12_isDog_10 : decode cX12_isDog 10 = .ok (.isub, 1) := by decide +kernel
theorem dX12_isDog_11 : decode cX12_isDog 11 = .ok (.invokestatic 57, 3) := by decide +kernel
theorem dX12_isDog_14 : decode cX12_isDog 14 = .ok (.ireturn, 1) := by decide +kernel
theorem dX12_isSet_0 : decode cX12_isSet 0 = .ok (.iload_n 1, 1) := by decide +kernel
theorem dX12_isSet_1 : decode cX12_isSet 1 = .ok (.iconst 0, 1) := by decide +kernel
theorem dX12_isSet_2 : decode cX12_isSet 2 = .ok (.iconst 1, 1) := by decide +kernel
theorem dX12_isSet_3 : decode cX12_isSet 3 = .ok (.aload_n 0, 1) := by decide +kernel
theorem dX12_isSet_4 : decode cX12_isSet 4 = .ok (.getfield 7, 3) := by decide +kernel
theorem dX12_isSet_7 : decode cX12_isSet 7 = .ok (.bipush 6, 2) := by decide +kernel
theorem dX12_isSet_9 : decode cX12_isSet 9 = .ok (.iaload, 1) := by decide +kernel
theorem dX12_isSet_10 : decode cX12_isSet 10 = .ok (.ishl, 1) := by decide +kernel
theorem dX12_isSet_11 : decode cX12_isSet 11 = .ok (.iconst 1, 1) := by decide +kernel
theorem dX12_isSet_12 : decode cX12_isSet 12 = .ok (.isub, 1) := by decide +kernel
theorem dX12_isSet_13 : decode cX12_isSet 13 = .ok (.invokestatic 57, 3) := by decide +kernel
theorem dX12_isSet_16 : decode cX12_isSet 16 = .ok (.ireturn, 1) := by decide +kernel
theorem dX12_isTune_0 : decode cX12_isTune 0 = .ok (.iload_n 1, 1) := by decide +kernel
theorem dX12_isTune_1 : decode cX12_isTune 1 = .ok (.iconst 0, 1) := by decide +kernel
theorem dX12_isTune_2 : decode cX12_isTune 2 = .ok (.iconst 1, 1) := by decide +kernel
theorem dX12_isTune_3 : decode cX12_isTune 3 = .ok (.iload_n 2, 1) := by decide +kernel
theorem dX12_isTune_4 : decode cX12_isTune 4 = .ok (.ishl, 1) := by decide +kernel
theorem dX12_isTune_5 : decode cX12_isTune 5 = .ok (.iconst 1, 1) := by decide +kernel
theorem dX12_isTune_6 : decode cX12_isTune 6 = .ok (.isub, 1) := by decide +kernel
theorem dX12_isTune_7 : decode cX12_isTune 7 = .ok (.invokestatic 57, 3) := by decide +kernel
theorem dX12_isTune_10 : decode cX12_isTune 10 = .ok (.ireturn, 1) := by decide +kernel
theorem dX12_places_0 : decode cX12_places 0 = .ok (.iload_n 1, 1) := by decide +kernel
theorem dX12_places_1 : decode cX12_places 1 = .ok (.iconst 2, 1) := by decide +kernel
theorem dX12_places_2 : decode cX12_places 2 = .ok (.iconst 5, 1) := by decide +kernel
theorem dX12_places_3 : decode cX12_places 3 = .ok (.invokestatic 57, 3) := by decide +kernel
theorem dX12_places_6 : decode cX12_places 6 = .ok (.ifCond .ne 8, 3) := by decide +kernel
theorem dX12_places_9 : decode cX12_places 9 = .ok (.aload_n 0, 1) := by decide +kernel
theorem dX12_places_10 : decode cX12_places 10 = .ok (.invokevirtual 61, 3) := by decide +kernel
theorem dX12_places_13 : decode cX12_places 13 = .ok (.ireturn, 1) := by decide +kernel
theorem dX12_places_14 : decode cX12_places 14 = .ok (.aload_n 0, 1) := by decide +kernel
theorem dX12_places_15 : decode cX12_places 15 = .ok (.getfield 7, 3) := by decide +kernel
theorem dX12_places_18 : decode cX12_places 18 = .ok (.iconst 0, 1) := by decide +kernel
theorem dX12_places_19 : decode cX12_places 19 = .ok (.iaload, 1) := by decide +kernel
theorem dX12_places_20 : decode cX12_places 20 = .ok (.istore_n 2, 1) := by decide +kernel
theorem dX12_places_21 : decode cX12_places 21 = .ok (.aload_n 0, 1) := by decide +kernel
theorem dX12_places_22 : decode cX12_places 22 = .ok (.getfield 7, 3) := by decide +kernel
theorem dX12_places_25 : decode cX12_places 25 = .ok (.iconst 4, 1) := by decide +kernel
theorem dX12_places_26 : decode cX12_places 26 = .ok (.iaload, 1) := by decide +kernel
theorem dX12_places_27 : decode cX12_places 27 = .ok (.istore_n 3, 1) := by decide +kernel
theorem dX12_places_28 : decode cX12_places 28 = .ok (.aload_n 0, 1) := by decide +kernel
theorem dX12_places_29 : decode cX12_places 29 = .ok (.getfield 7, 3) := by decide +kernel
theorem dX12_places_32 : decode cX12_places 32 = .ok (.iconst 5, 1) := by decide +kernel
theorem dX12_places_33 : decode cX12_places 33 = .ok (.iaload, 1) := by decide +kernel
theorem dX12_places_34 : decode cX12_places 34 = .ok (.istore 4, 2) := by decide +kernel
theorem dX12_places_36 : decode cX12_places 36 = .ok (.iconst 0, 1) := by decide +kernel
theorem dX12_places_37 : decode cX12_places 37 = .ok (.istore 5, 2) := by decide +kernel
theorem dX12_places_39 : decode cX12_places 39 = .ok (.iload 5, 2) := by decide +kernel
theorem dX12_places_41 : decode cX12_places 41 = .ok (.bipush 25, 2) := by decide +kernel
theorem dX12_places_43 : decode cX12_places 43 = .ok (.if_icmp .ge 17, 3) := by decide +kernel
theorem dX12_places_46 : decode cX12_places 46 = .ok (.aload_n 0, 1) := by decide +kernel
theorem dX12_places_47 : decode cX12_places 47 = .ok (.getfield 7, 3) := by decide +kernel
theorem dX12_places_50 : decode cX12_places 50 = .ok (.iload 5, 2) := by decide +kernel
theorem dX12_places_52 : decode cX12_places 52 = .ok (.iconst 0, 1) := by decide +kernel
theorem dX12_places_53 : decode cX12_places 53 = .ok (.iastore, 1) := by decide +kernel
theorem dX12_places_54 : decode cX12_places 54 = .ok (.iinc 5 1, 3) := by decide +kernel
theorem dX12_places_57 : decode cX12_places 57 = .ok (.goto (-18), 3) := by decide +kernel
theorem dX12_places_60 : decode cX12_places 60 = .ok (.aload_n 0, 1) := by decide +kernel
theorem dX12_places_61 : decode cX12_places 61 = .ok (.getfield 7, 3) := by decide +kernel
theorem dX12_places_64 : decode cX12_places 64 = .ok (.iconst 0, 1) := by decide +kernel
theorem dX12_places_65 : decode cX12_places 65 = .ok (.iload_n 1, 1) := by decide +kernel
theorem dX12_places_66 : decode cX12_places 66 = .ok (.iastore, 1) := by decide +kernel
theorem dX12_places_67 : decode cX12_places 67 = .ok (.aload_n 0, 1) := by decide +kernel
theorem dX12_places_68 : decode cX12_places 68 = .ok (.getfield 7, 3) := by decide +kernel
theorem dX12_places_71 : decode cX12_places 71 = .ok (.iconst 4, 1) := by decide +kernel
theorem dX12_places_72 : decode cX12_places 72 = .ok (.iload_n 3, 1) := by decide +kernel
theorem dX12_places_73 : decode cX12_places 73 = .ok (.iastore, 1) := by decide +kernel
theorem dX12_places_74 : decode cX12_places 74 = .ok (.aload_n 0, 1) := by decide +kernel
theorem dX12_places_75 : decode cX12_places 75 = .ok (.getfield 7, 3) := by decide +kernel
theorem dX12_places_78 : decode cX12_places 78 = .ok (.iconst 5, 1) := by decide +kernel
theorem dX12_places_79 : decode cX12_places 79 = .ok (.iload 4, 2) := by decide +kernel
theorem dX12_places_81 : decode cX12_places 81 = .ok (.iastore, 1) := by decide +kernel
theorem dX12_places_82 : decode cX12_places 82 = .ok (.iload_n 2, 1) := by decide +kernel
theorem dX12_places_83 : decode cX12_places 83 = .ok (.ireturn, 1) := by decide +kernel
theorem dX12_isRow_0 : decode cX12_isRow 0 = .ok (.iload_n 1, 1) := by decide +kernel
theorem dX12_isRow_1 : decode cX12_isRow 1 = .ok (.istore_n 2, 1) := by decide +kernel
theorem dX12_isRow_2 : decode cX12_isRow 2 = .ok (.iload_n 1, 1) := by decide +kernel
theorem dX12_isRow_3 : decode cX12_isRow 3 = .ok (.ifCond .lt 7, 3) := by decide +kernel
theorem dX12_isRow_6 : decode cX12_isRow 6 = .ok (.iconst 1, 1) := by decide +kernel
theorem dX12_isRow_7 : decode cX12_isRow 7 = .ok (.goto 4, 3) := by decide +kernel
theorem dX12_isRow_10 : decode cX12_isRow 10 = .ok (.iconst 0, 1) := by decide +kernel
theorem dX12_isRow_11 : decode cX12_isRow 11 = .ok (.istore_n 3, 1) := by decide +kernel
theorem dX12_isRow_12 : decode cX12_isRow 12 = .ok (.iconst 0, 1) := by decide +kernel
theorem dX12_isRow_13 : decode cX12_isRow 13 = .ok (.istore 4, 2) := by decide +kernel
theorem dX12_isRow_15 : decode cX12_isRow 15 = .ok (.iload 4, 2) := by decide +kernel
theorem dX12_isRow_17 : decode cX12_isRow 17 = .ok (.aload_n 0, 1) := by decide +kernel
theorem dX12_isRow_18 : decode cX12_isRow 18 = .ok (.getfield 7, 3) := by decide +kernel
theorem dX12_isRow_21 : decode cX12_isRow 21 = .ok (.iconst 0, 1) := by decide +kernel
theorem dX12_isRow_22 : decode cX12_isRow 22 = .ok (.iaload, 1) := by decide +kernel
theorem dX12_isRow_23 : decode cX12_isRow 23 = .ok (.if_icmp .ge 37, 3) := by decide +kernel
theorem dX12_isRow_26 : decode cX12_isRow 26 = .ok (.iload_n 3, 1) := by decide +kernel
theorem dX12_isRow_27 : decode cX12_isRow 27 = .ok (.ifCond .eq 20, 3) := by decide +kernel
theorem dX12_isRow_30 : decode cX12_isRow 30 = .ok (.iload_n 2, 1) := by decide +kernel
theorem dX12_isRow_31 : decode cX12_isRow 31 = .ok (.bipush 8, 2) := by decide +kernel
theorem dX12_isRow_33 : decode cX12_isRow 33 = .ok (.irem, 1) := by decide +kernel
theorem dX12_isRow_34 : decode cX12_isRow 34 = .ok (.aload_n 0, 1) := by decide +kernel
theorem dX12_isRow_35 : decode cX12_isRow 35 = .ok (.getfield 7, 3) := by decide +kernel
theorem dX12_isRow_38 : decode cX12_isRow 38 = .ok (.iconst 0, 1) := by decide +kernel
theorem dX12_isRow_39 : decode cX12_isRow 39 = .ok (.iaload, 1) := by decide +kernel
theorem dX12_isRow_40 : decode cX12_isRow 40 = .ok (.if_icmp .ge 7, 3) := by decide +kernel
theorem dX12_isRow_43 : decode cX12_isRow 43 = .ok (.iconst 1, 1) := by decide +kernel
theorem dX12_isRow_44 : decode cX12_isRow 44 = .ok (.goto 4, 3) := by decide +kernel
theorem dX12_isRow_47 : decode cX12_isRow 47 = .ok (.iconst 0, 1) := by decide +kernel
theorem dX12_isRow_48 : decode cX12_isRow 48 = .ok (.istore_n 3, 1) := by decide +kernel
theorem dX12_isRow_49 : decode cX12_isRow 49 = .ok (.iload_n 2, 1) := by decide +kernel
theorem dX12_isRow_50 : decode cX12_isRow 50 = .ok (.bipush 8, 2) := by decide +kernel
theorem dX12_isRow_52 : decode cX12_isRow 52 = .ok (.idiv, 1) := by decide +kernel
theorem dX12_isRow_53 : decode cX12_isRow 53 = .ok (.istore_n 2, 1) := by decide +kernel
theorem dX12_isRow_54 : decode cX12_isRow 54 = .ok (.iinc 4 1, 3) := by decide +kernel
theorem dX12_isRow_57 : decode cX12_isRow 57 = .ok (.goto (-42), 3) := by decide +kernel
theorem dX12_isRow_60 : decode cX12_isRow 60 = .ok (.iload_n 3, 1) := by decide +kernel
theorem dX12_isRow_61 : decode cX12_isRow 61 = .ok (.ifCond .eq 11, 3) := by decide +kernel
theorem dX12_isRow_64 : decode cX12_isRow 64 = .ok (.iload_n 2, 1) := by decide +kernel
theorem dX12_isRow_65 : decode cX12_isRow 65 = .ok (.ifCond .ne 7, 3) := by decide +kernel
theorem dX12_isRow_68 : decode cX12_isRow 68 = .ok (.iconst 1, 1) := by decide +kernel
theorem dX12_isRow_69 : decode cX12_isRow 69 = .ok (.goto 4, 3) := by decide +kernel
theorem dX12_isRow_72 : decode cX12_isRow 72 = .ok (.iconst 0, 1) := by decide +kernel
theorem dX12_isRow_73 : decode cX12_isRow 73 = .ok (.ireturn, 1) := by decide +kernel
theorem dX12_comes_0 : decode cX12_comes 0 = .ok (.aload_n 0, 1) := by decide +kernel
theorem dX12_comes_1 : decode cX12_comes 1 = .ok (.getfield 7, 3) := by decide +kernel
theorem dX12_comes_4 : decode cX12_comes 4 = .ok (.bipush 6, 2) := by decide +kernel
theorem dX12_comes_6 : decode cX12_comes 6 = .ok (.iaload, 1) := by decide +kernel
theorem dX12_comes_7 : decode cX12_comes 7 = .ok (.iconst 3, 1) := by decide +kernel
theorem dX12_comes_8 : decode cX12_comes 8 = .ok (.if_icmp .ne 11, 3) := by decide +kernel
theorem dX12_comes_11 : decode cX12_comes 11 = .ok (.aload_n 0, 1) := by decide +kernel
theorem dX12_comes_12 : decode cX12_comes 12 = .ok (.iconst 2, 1) := by decide +kernel
theorem dX12_comes_13 : decode cX12_comes 13 = .ok (.bipush (-4), 2) := by decide +kernel
theorem dX12_comes_15 : decode cX12_comes 15 = .ok (.invokevirtual 53, 3) := by decide +kernel
theorem dX12_comes_18 : decode cX12_comes 18 = .ok (.ireturn, 1) := by decide +kernel
theorem dX12_comes_19 : decode cX12_comes 19 = .ok (.bipush 7, 2) := by decide +kernel
theorem dX12_comes_21 : decode cX12_comes 21 = .ok (.bipush 6, 2) := by decide +kernel
theorem dX12_comes_23 : decode cX12_comes 23 = .ok (.aload_n 0, 1) := by decide +kernel
theorem dX12_comes_24 : decode cX12_comes 24 = .ok (.getfield 7, 3) := by decide +kernel
theorem dX12_comes_27 : decode cX12_comes 27 = .ok (.bipush 6, 2) := by decide +kernel
theorem dX12_comes_29 : decode cX12_comes 29 = .ok (.iaload, 1) := by decide +kernel
theorem dX12_comes_30 : decode cX12_comes 30 = .ok (.imul, 1) := by decide +kernel
theorem dX12_comes_31 : decode cX12_comes 31 = .ok (.iadd, 1) := by decide +kernel
theorem dX12_comes_32 : decode cX12_comes 32 = .ok (.istore 7, 2) := by decide +kernel
theorem dX12_comes_34 : decode cX12_comes 34 = .ok (.aload_n 0, 1) := by decide +kernel
theorem dX12_comes_35 : decode cX12_comes 35 = .ok (.getfield 7, 3) := by decide +kernel
theorem dX12_comes_38 : decode cX12_comes 38 = .ok (.iload 7, 2) := by decide +kernel
theorem dX12_comes_40 : decode cX12_comes 40 = .ok (.iload_n 1, 1) := by decide +kernel
theorem dX12_comes_41 : decode cX12_comes 41 = .ok (.iastore, 1) := by decide +kernel
theorem dX12_comes_42 : decode cX12_comes 42 = .ok (.aload_n 0, 1) := by decide +kernel
theorem dX12_comes_43 : decode cX12_comes 43 = .ok (.getfield 7, 3) := by decide +kernel
theorem dX12_comes_46 : decode cX12_comes 46 = .ok (.iload 7, 2) := by decide +kernel
theorem dX12_comes_48 : decode cX12_comes 48 = .ok (.iconst 1, 1) := by decide +kernel
theorem dX12_comes_49 : decode cX12_comes 49 = .ok (.iadd, 1) := by decide +kernel
theorem dX12_comes_50 : decode cX12_comes 50 = .ok (.iload_n 2, 1) := by decide +kernel
theorem dX12_comes_51 : decode cX12_comes 51 = .ok (.iastore, 1) := by decide +kernel
theorem dX12_comes_52 : decode cX12_comes 52 = .ok (.aload_n 0, 1) := by decide +kernel
theorem dX12_comes_53 : decode cX12_comes 53 = .ok (.getfield 7, 3) := by decide +kernel
theorem dX12_comes_56 : decode cX12_comes 56 = .ok (.iload 7, 2) := by decide +kernel
theorem dX12_comes_58 : decode cX12_comes 58 = .ok (.iconst 2, 1) := by decide +kernel
theorem dX12_comes_59 : decode cX12_comes 59 = .ok (.iadd, 1) := by decide +kernel
theorem dX12_comes_60 : decode cX12_comes 60 = .ok (.iload_n 3, 1) := by decide +kernel
theorem dX12_comes_61 : decode cX12_comes 61 = .ok (.iastore, 1) := by decide +kernel
theorem dX12_comes_62 : decode cX12_comes 62 = .ok (.aload_n 0, 1) := by decide +kernel
theorem dX12_comes_63 : decode cX12_comes 63 = .ok (.getfield 7, 3) := by decide +kernel
theorem dX12_comes_66 : decode cX12_comes 66 = .ok (.iload 7, 2) := by decide +kernel
theorem dX12_comes_68 : decode cX12_comes 68 = .ok (.iconst 3, 1) := by decide +kernel
theorem dX12_comes_69 : decode cX12_comes 69 = .ok (.iadd, 1) := by decide +kernel
theorem dX12_comes_70 : decode cX12_comes 70 = .ok (.iload 4, 2) := by decide +kernel
theorem dX12_comes_72 : decode cX12_comes 72 = .ok (.iastore, 1) := by decide +kernel
theorem dX12_comes_73 : decode cX12_comes 73 = .ok (.aload_n 0, 1) := by decide +kernel
theorem dX12_comes_74 : decode cX12_comes 74 = .ok (.getfield 7, 3) := by decide +kernel
theorem dX12_comes_77 : decode cX12_comes 77 = .ok (.iload 7, 2) := by decide +kernel
theorem dX12_comes_79 : decode cX12_comes 79 = .ok (.iconst 4, 1) := by decide +kernel
theorem dX12_comes_80 : decode cX12_comes 80 = .ok (.iadd, 1) := by decide +kernel
theorem dX12_comes_81 : decode cX12_comes 81 = .ok (.iload 5, 2) := by decide +kernel
theorem dX12_comes_83 : decode cX12_comes 83 = .ok (.iastore, 1) := by decide +kernel
theorem dX12_comes_84 : decode cX12_comes 84 = .ok (.aload_n 0, 1) := by decide +kernel
theorem dX12_comes_85 : decode cX12_comes 85 = .ok (.getfield 7, 3) := by decide +kernel
theorem dX12_comes_88 : decode cX12_comes 88 = .ok (.iload 7, 2) := by decide +kernel
theorem dX12_comes_90 : decode cX12_comes 90 = .ok (.iconst 5, 1) := by decide +kernel
theorem dX12_comes_91 : decode cX12_comes 91 = .ok (.iadd, 1) := by decide +kernel
theorem dX12_comes_92 : decode cX12_comes 92 = .ok (.iload 6, 2) := by decide +kernel
theorem dX12_comes_94 : decode cX12_comes 94 = .ok (.iastore, 1) := by decide +kernel
theorem dX12_comes_95 : decode cX12_comes 95 = .ok (.aload_n 0, 1) := by decide +kernel
theorem dX12_comes_96 : decode cX12_comes 96 = .ok (.getfield 7, 3) := by decide +kernel
theorem dX12_comes_99 : decode cX12_comes 99 = .ok (.bipush 6, 2) := by decide +kernel
theorem dX12_comes_101 : decode cX12_comes 101 = .ok (.dup2, 1) := by decide +kernel
theorem dX12_comes_102 : decode cX12_comes 102 = .ok (.iaload, 1) := by decide +kernel
theorem dX12_comes_103 : decode cX12_comes 103 = .ok (.iconst 1, 1) := by decide +kernel
theorem dX12_comes_104 : decode cX12_comes 104 = .ok (.iadd, 1) := by decide +kernel
theorem dX12_comes_105 : decode cX12_comes 105 = .ok (.iastore, 1) := by decide +kernel
theorem dX12_comes_106 : decode cX12_comes 106 = .ok (.aload_n 0, 1) := by decide +kernel
theorem dX12_comes_107 : decode cX12_comes 107 = .ok (.getfield 7, 3) := by decide +kernel
theorem dX12_comes_110 : decode cX12_comes 110 = .ok (.bipush 6, 2) := by decide +kernel
theorem dX12_comes_112 : decode cX12_comes 112 = .ok (.iaload, 1) := by decide +kernel
theorem dX12_comes_113 : decode cX12_comes 113 = .ok (.iconst 1, 1) := by decide +kernel
theorem dX12_comes_114 : decode cX12_comes 114 = .ok (.isub, 1) := by decide +kernel
theorem dX12_comes_115 : decode cX12_comes 115 = .ok (.ireturn, 1) := by decide +kernel
theorem dX12_dog_0 : decode cX12_dog 0 = .ok (.iload_n 1, 1) := by decide +kernel
theorem dX12_dog_1 : decode cX12_dog 1 = .ok (.iconst 0, 1) := by decide +kernel
theorem dX12_dog_2 : decode cX12_dog 2 = .ok (.iconst 4, 1) := by decide +kernel
theorem dX12_dog_3 : decode cX12_dog 3 = .ok (.invokestatic 57, 3) := by decide +kernel
theorem dX12_dog_6 : decode cX12_dog 6 = .ok (.ifCond .eq 29, 3) := by decide +kernel
theorem dX12_dog_9 : decode cX12_dog 9 = .ok (.iload_n 1, 1) := by decide +kernel
theorem dX12_dog_10 : decode cX12_dog 10 = .ok (.iconst 2, 1) := by decide +kernel
theorem dX12_dog_11 : decode cX12_dog 11 = .ok (.if_icmp .eq 24, 3) := by decide +kernel
theorem dX12_dog_14 : decode cX12_dog 14 = .ok (.iload_n 1, 1) := by decide +kernel
theorem dX12_dog_15 : decode cX12_dog 15 = .ok (.iconst 3, 1) := by decide +kernel
theorem dX12_dog_16 : decode cX12_dog 16 = .ok (.if_icmp .eq 19, 3) := by decide +kernel
theorem dX12_dog_19 : decode cX12_dog 19 = .ok (.aload_n 0, 1) := by decide +kernel
theorem dX12_dog_20 : decode cX12_dog 20 = .ok (.iload_n 2, 1) := by decide +kernel
theorem dX12_dog_21 : decode cX12_dog 21 = .ok (.invokevirtual 65, 3) := by decide +kernel
theorem dX12_dog_24 : decode cX12_dog 24 = .ok (.ifCond .eq 11, 3) := by decide +kernel
theorem dX12_dog_27 : decode cX12_dog 27 = .ok (.aload_n 0, 1) := by decide +kernel
theorem dX12_dog_28 : decode cX12_dog 28 = .ok (.iload_n 3, 1) := by decide +kernel
