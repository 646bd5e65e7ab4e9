theorem dX12_dog_29 : decode cX12_dog 29 = .ok (.invokevirtual 65, 3) := by decide +kernel
theorem dX12_dog_32 : decode cX12_dog 32 = .ok (.ifCond .ne 8, 3) := by decide +kernel
theorem dX12_dog_35 : decode cX12_dog 35 = .ok (.aload_n 0, 1) := by decide +kernel
theorem dX12_dog_36 : decode cX12_dog 36 = .ok (.invokevirtual 61, 3) := by decide +kernel
theorem dX12_dog_39 : decode cX12_dog 39 = .ok (.ireturn, 1) := by decide +kernel
theorem dX12_dog_40 : decode cX12_dog 40 = .ok (.aload_n 0, 1) := by decide +kernel
theorem dX12_dog_41 : decode cX12_dog 41 = .ok (.iload_n 1, 1) := by decide +kernel
theorem dX12_dog_42 : decode cX12_dog 42 = .ok (.iload_n 2, 1) := by decide +kernel
theorem dX12_dog_43 : decode cX12_dog 43 = .ok (.iload_n 3, 1) := by decide +kernel
theorem dX12_dog_44 : decode cX12_dog 44 = .ok (.iconst 0, 1) := by decide +kernel
theorem dX12_dog_45 : decode cX12_dog 45 = .ok (.iconst 0, 1) := by decide +kernel
theorem dX12_dog_46 : decode cX12_dog 46 = .ok (.iconst 0, 1) := by decide +kernel
theorem dX12_dog_47 : decode cX12_dog 47 = .ok (.invokevirtual 69, 3) := by decide +kernel
theorem dX12_dog_50 : decode cX12_dog 50 = .ok (.ireturn, 1) := by decide +kernel
theorem dX12_pup_0 : decode cX12_pup 0 = .ok (.iload_n 1, 1) := by decide +kernel
theorem dX12_pup_1 : decode cX12_pup 1 = .ok (.iconst 2, 1) := by decide +kernel
theorem dX12_pup_2 : decode cX12_pup 2 = .ok (.iconst 3, 1) := by decide +kernel
theorem dX12_pup_3 : decode cX12_pup 3 = .ok (.invokestatic 57, 3) := by decide +kernel
theorem dX12_pup_6 : decode cX12_pup 6 = .ok (.ifCond .eq 47, 3) := by decide +kernel
theorem dX12_pup_9 : decode cX12_pup 9 = .ok (.aload_n 0, 1) := by decide +kernel
theorem dX12_pup_10 : decode cX12_pup 10 = .ok (.iload_n 2, 1) := by decide +kernel
theorem dX12_pup_11 : decode cX12_pup 11 = .ok (.invokevirtual 65, 3) := by decide +kernel
theorem dX12_pup_14 : decode cX12_pup 14 = .ok (.ifCond .eq 39, 3) := by decide +kernel
theorem dX12_pup_17 : decode cX12_pup 17 = .ok (.aload_n 0, 1) := by decide +kernel
theorem dX12_pup_18 : decode cX12_pup 18 = .ok (.iload_n 3, 1) := by decide +kernel
theorem dX12_pup_19 : decode cX12_pup 19 = .ok (.invokevirtual 65, 3) := by decide +kernel
theorem dX12_pup_22 : decode cX12_pup 22 = .ok (.ifCond .eq 31, 3) := by decide +kernel
theorem dX12_pup_25 : decode cX12_pup 25 = .ok (.aload_n 0, 1) := by decide +kernel
theorem dX12_pup_26 : decode cX12_pup 26 = .ok (.iload 4, 2) := by decide +kernel
theorem dX12_pup_28 : decode cX12_pup 28 = .ok (.invokevirtual 65, 3) := by decide +kernel
theorem dX12_pup_31 : decode cX12_pup 31 = .ok (.ifCond .eq 22, 3) := by decide +kernel
theorem dX12_pup_34 : decode cX12_pup 34 = .ok (.aload_n 0, 1) := by decide +kernel
theorem dX12_pup_35 : decode cX12_pup 35 = .ok (.iload 5, 2) := by decide +kernel
theorem dX12_pup_37 : decode cX12_pup 37 = .ok (.invokevirtual 65, 3) := by decide +kernel
theorem dX12_pup_40 : decode cX12_pup 40 = .ok (.ifCond .eq 13, 3) := by decide +kernel
theorem dX12_pup_43 : decode cX12_pup 43 = .ok (.iload 6, 2) := by decide +kernel
theorem dX12_pup_45 : decode cX12_pup 45 = .ok (.iconst 1, 1) := by decide +kernel
theorem dX12_pup_46 : decode cX12_pup 46 = .ok (.iconst 3, 1) := by decide +kernel
theorem dX12_pup_47 : decode cX12_pup 47 = .ok (.invokestatic 57, 3) := by decide +kernel
theorem dX12_pup_50 : decode cX12_pup 50 = .ok (.ifCond .ne 8, 3) := by decide +kernel
theorem dX12_pup_53 : decode cX12_pup 53 = .ok (.aload_n 0, 1) := by decide +kernel
theorem dX12_pup_54 : decode cX12_pup 54 = .ok (.invokevirtual 61, 3) := by decide +kernel
theorem dX12_pup_57 : decode cX12_pup 57 = .ok (.ireturn, 1) := by decide +kernel
theorem dX12_pup_58 : decode cX12_pup 58 = .ok (.aload_n 0, 1) := by decide +kernel
theorem dX12_pup_59 : decode cX12_pup 59 = .ok (.iload_n 1, 1) := by decide +kernel
theorem dX12_pup_60 : decode cX12_pup 60 = .ok (.iload_n 2, 1) := by decide +kernel
theorem dX12_pup_61 : decode cX12_pup 61 = .ok (.iload_n 3, 1) := by decide +kernel
theorem dX12_pup_62 : decode cX12_pup 62 = .ok (.iload 4, 2) := by decide +kernel
theorem dX12_pup_64 : decode cX12_pup 64 = .ok (.iload 5, 2) := by decide +kernel
theorem dX12_pup_66 : decode cX12_pup 66 = .ok (.iload 6, 2) := by decide +kernel
theorem dX12_pup_68 : decode cX12_pup 68 = .ok (.invokevirtual 69, 3) := by decide +kernel
theorem dX12_pup_71 : decode cX12_pup 71 = .ok (.ireturn, 1) := by decide +kernel
theorem dX12_shut_0 : decode cX12_shut 0 = .ok (.aload_n 0, 1) := by decide +kernel
theorem dX12_shut_1 : decode cX12_shut 1 = .ok (.iload_n 1, 1) := by decide +kernel
theorem dX12_shut_2 : decode cX12_shut 2 = .ok (.invokevirtual 73, 3) := by decide +kernel
theorem dX12_shut_5 : decode cX12_shut 5 = .ok (.ifCond .ne 8, 3) := by decide +kernel
theorem dX12_shut_8 : decode cX12_shut 8 = .ok (.aload_n 0, 1) := by decide +kernel
theorem dX12_shut_9 : decode cX12_shut 9 = .ok (.invokevirtual 61, 3) := by decide +kernel
theorem dX12_shut_12 : decode cX12_shut 12 = .ok (.ireturn, 1) := by decide +kernel
theorem dX12_shut_13 : decode cX12_shut 13 = .ok (.aload_n 0, 1) := by decide +kernel
theorem dX12_shut_14 : decode cX12_shut 14 = .ok (.getfield 7, 3) := by decide +kernel
theorem dX12_shut_17 : decode cX12_shut 17 = .ok (.iconst 1, 1) := by decide +kernel
theorem dX12_shut_18 : decode cX12_shut 18 = .ok (.iaload, 1) := by decide +kernel
theorem dX12_shut_19 : decode cX12_shut 19 = .ok (.iload_n 1, 1) := by decide +kernel
theorem dX12_shut_20 : decode cX12_shut 20 = .ok (.ishr, 1) := by decide +kernel
theorem dX12_shut_21 : decode cX12_shut 21 = .ok (.iconst 1, 1) := by decide +kernel
theorem dX12_shut_22 : decode cX12_shut 22 = .ok (.iand, 1) := by decide +kernel
theorem dX12_shut_23 : decode cX12_shut 23 = .ok (.iconst 1, 1) := by decide +kernel
theorem dX12_shut_24 : decode cX12_shut 24 = .ok (.if_icmp .ne 7, 3) := by decide +kernel
theorem dX12_shut_27 : decode cX12_shut 27 = .ok (.iconst 1, 1) := by decide +kernel
theorem dX12_shut_28 : decode cX12_shut 28 = .ok (.goto 4, 3) := by decide +kernel
theorem dX12_shut_31 : decode cX12_shut 31 = .ok (.iconst 0, 1) := by decide +kernel
theorem dX12_shut_32 : decode cX12_shut 32 = .ok (.istore_n 3, 1) := by decide +kernel
theorem dX12_shut_33 : decode cX12_shut 33 = .ok (.iload_n 3, 1) := by decide +kernel
theorem dX12_shut_34 : decode cX12_shut 34 = .ok (.iload_n 2, 1) := by decide +kernel
theorem dX12_shut_35 : decode cX12_shut 35 = .ok (.if_icmp .ne 11, 3) := by decide +kernel
theorem dX12_shut_38 : decode cX12_shut 38 = .ok (.aload_n 0, 1) := by decide +kernel
theorem dX12_shut_39 : decode cX12_shut 39 = .ok (.iconst 1, 1) := by decide +kernel
theorem dX12_shut_40 : decode cX12_shut 40 = .ok (.bipush (-3), 2) := by decide +kernel
theorem dX12_shut_42 : decode cX12_shut 42 = .ok (.invokevirtual 53, 3) := by decide +kernel
theorem dX12_shut_45 : decode cX12_shut 45 = .ok (.ireturn, 1) := by decide +kernel
theorem dX12_shut_46 : decode cX12_shut 46 = .ok (.aload_n 0, 1) := by decide +kernel
theorem dX12_shut_47 : decode cX12_shut 47 = .ok (.getfield 7, 3) := by decide +kernel
theorem dX12_shut_50 : decode cX12_shut 50 = .ok (.iconst 1, 1) := by decide +kernel
theorem dX12_shut_51 : decode cX12_shut 51 = .ok (.dup2, 1) := by decide +kernel
theorem dX12_shut_52 : decode cX12_shut 52 = .ok (.iaload, 1) := by decide +kernel
theorem dX12_shut_53 : decode cX12_shut 53 = .ok (.iconst 1, 1) := by decide +kernel
theorem dX12_shut_54 : decode cX12_shut 54 = .ok (.iload_n 1, 1) := by decide +kernel
theorem dX12_shut_55 : decode cX12_shut 55 = .ok (.ishl, 1) := by decide +kernel
theorem dX12_shut_56 : decode cX12_shut 56 = .ok (.ixor, 1) := by decide +kernel
theorem dX12_shut_57 : decode cX12_shut 57 = .ok (.iastore, 1) := by decide +kernel
theorem dX12_shut_58 : decode cX12_shut 58 = .ok (.iconst 1, 1) := by decide +kernel
theorem dX12_shut_59 : decode cX12_shut 59 = .ok (.ireturn, 1) := by decide +kernel
theorem dX12_put_0 : decode cX12_put 0 = .ok (.iload_n 1, 1) := by decide +kernel
theorem dX12_put_1 : decode cX12_put 1 = .ok (.ifCond .ne 11, 3) := by decide +kernel
theorem dX12_put_4 : decode cX12_put 4 = .ok (.aload_n 0, 1) := by decide +kernel
theorem dX12_put_5 : decode cX12_put 5 = .ok (.iload_n 2, 1) := by decide +kernel
theorem dX12_put_6 : decode cX12_put 6 = .ok (.invokevirtual 73, 3) := by decide +kernel
theorem dX12_put_9 : decode cX12_put 9 = .ok (.goto 33, 3) := by decide +kernel
theorem dX12_put_12 : decode cX12_put 12 = .ok (.iload_n 1, 1) := by decide +kernel
theorem dX12_put_13 : decode cX12_put 13 = .ok (.iconst 1, 1) := by decide +kernel
theorem dX12_put_14 : decode cX12_put 14 = .ok (.if_icmp .ne 21, 3) := by decide +kernel
theorem dX12_put_17 : decode cX12_put 17 = .ok (.iload_n 2, 1) := by decide +kernel
theorem dX12_put_18 : decode cX12_put 18 = .ok (.iconst 0, 1) := by decide +kernel
theorem dX12_put_19 : decode cX12_put 19 = .ok (.iconst 1, 1) := by decide +kernel
theorem dX12_put_20 : decode cX12_put 20 = .ok (.aload_n 0, 1) := by decide +kernel
theorem dX12_put_21 : decode cX12_put 21 = .ok (.getfield 7, 3) := by decide +kernel
theorem dX12_put_24 : decode cX12_put 24 = .ok (.iconst 0, 1) := by decide +kernel
theorem dX12_put_25 : decode cX12_put 25 = .ok (.iaload, 1) := by decide +kernel
theorem dX12_put_26 : decode cX12_put 26 = .ok (.ishl, 1) := by decide +kernel
theorem dX12_put_27 : decode cX12_put 27 = .ok (.iconst 1, 1) := by decide +kernel
theorem dX12_put_28 : decode cX12_put 28 = .ok (.isub, 1) := by decide +kernel
theorem dX12_put_29 : decode cX12_put 29 = .ok (.invokestatic 57, 3) := by decide +kernel
theorem dX12_put_32 : decode cX12_put 32 = .ok (.goto 10, 3) := by decide +kernel
theorem dX12_put_35 : decode cX12_put 35 = .ok (.iload_n 2, 1) := by decide +kernel
theorem dX12_put_36 : decode cX12_put 36 = .ok (.iconst 1, 1) := by decide +kernel
theorem dX12_put_37 : decode cX12_put 37 = .ok (.bipush 9, 2) := by decide +kernel
theorem dX12_put_39 : decode cX12_put 39 = .ok (.invokestatic 57, 3) := by decide +kernel
theorem dX12_put_42 : decode cX12_put 42 = .ok (.istore_n 3, 1) := by decide +kernel
theorem dX12_put_43 : decode cX12_put 43 = .ok (.iload_n 1, 1) := by decide +kernel
theorem dX12_put_44 : decode cX12_put 44 = .ok (.iconst 0, 1) := by decide +kernel
theorem dX12_put_45 : decode cX12_put 45 = .ok (.iconst 3, 1) := by decide +kernel
theorem dX12_put_46 : decode cX12_put 46 = .ok (.invokestatic 57, 3) := by decide +kernel
theorem dX12_put_49 : decode cX12_put 49 = .ok (.ifCond .eq 7, 3) := by decide +kernel
theorem dX12_put_52 : decode cX12_put 52 = .ok (.iload_n 3, 1) := by decide +kernel
theorem dX12_put_53 : decode cX12_put 53 = .ok (.ifCond .ne 8, 3) := by decide +kernel
theorem dX12_put_56 : decode cX12_put 56 = .ok (.aload_n 0, 1) := by decide +kernel
theorem dX12_put_57 : decode cX12_put 57 = .ok (.invokevirtual 61, 3) := by decide +kernel
theorem dX12_put_60 : decode cX12_put 60 = .ok (.ireturn, 1) := by decide +kernel
theorem dX12_put_61 : decode cX12_put 61 = .ok (.iconst 2, 1) := by decide +kernel
theorem dX12_put_62 : decode cX12_put 62 = .ok (.iload_n 1, 1) := by decide +kernel
theorem dX12_put_63 : decode cX12_put 63 = .ok (.iadd, 1) := by decide +kernel
theorem dX12_put_64 : decode cX12_put 64 = .ok (.istore 4, 2) := by decide +kernel
theorem dX12_put_66 : decode cX12_put 66 = .ok (.aload_n 0, 1) := by decide +kernel
theorem dX12_put_67 : decode cX12_put 67 = .ok (.getfield 7, 3) := by decide +kernel
theorem dX12_put_70 : decode cX12_put 70 = .ok (.iload 4, 2) := by decide +kernel
theorem dX12_put_72 : decode cX12_put 72 = .ok (.iaload, 1) := by decide +kernel
theorem dX12_put_73 : decode cX12_put 73 = .ok (.istore 5, 2) := by decide +kernel
theorem dX12_put_75 : decode cX12_put 75 = .ok (.aload_n 0, 1) := by decide +kernel
theorem dX12_put_76 : decode cX12_put 76 = .ok (.getfield 7, 3) := by decide +kernel
theorem dX12_put_79 : decode cX12_put 79 = .ok (.iload 4, 2) := by decide +kernel
theorem dX12_put_81 : decode cX12_put 81 = .ok (.iload_n 2, 1) := by decide +kernel
theorem dX12_put_82 : decode cX12_put 82 = .ok (.iastore, 1) := by decide +kernel
theorem dX12_put_83 : decode cX12_put 83 = .ok (.iload 5, 2) := by decide +kernel
theorem dX12_put_85 : decode cX12_put 85 = .ok (.ireturn, 1) := by decide +kernel
theorem dX12_type_0 : decode cX12_type 0 = .ok (.iload_n 3, 1) := by decide +kernel
theorem dX12_type_1 : decode cX12_type 1 = .ok (.iconst 1, 1) := by decide +kernel
theorem dX12_type_2 : decode cX12_type 2 = .ok (.bipush 8, 2) := by decide +kernel
theorem dX12_type_4 : decode cX12_type 4 = .ok (.invokestatic 57, 3) := by decide +kernel
theorem dX12_type_7 : decode cX12_type 7 = .ok (.ifCond .ne 8, 3) := by decide +kernel
theorem dX12_type_10 : decode cX12_type 10 = .ok (.aload_n 0, 1) := by decide +kernel
theorem dX12_type_11 : decode cX12_type 11 = .ok (.invokevirtual 61, 3) := by decide +kernel
theorem dX12_type_14 : decode cX12_type 14 = .ok (.ireturn, 1) := by decide +kernel
theorem dX12_type_15 : decode cX12_type 15 = .ok (.aload_n 0, 1) := by decide +kernel
theorem dX12_type_16 : decode cX12_type 16 = .ok (.getfield 76, 3) := by decide +kernel
theorem dX12_type_19 : decode cX12_type 19 = .ok (.iload_n 3, 1) := by decide +kernel
theorem dX12_type_20 : decode cX12_type 20 = .ok (.iadd, 1) := by decide +kernel
theorem dX12_type_21 : decode cX12_type 21 = .ok (.sipush 200, 3) := by decide +kernel
theorem dX12_type_24 : decode cX12_type 24 = .ok (.if_icmp .le 11, 3) := by decide +kernel
theorem dX12_type_27 : decode cX12_type 27 = .ok (.aload_n 0, 1) := by decide +kernel
theorem dX12_type_28 : decode cX12_type 28 = .ok (.iconst 2, 1) := by decide +kernel
theorem dX12_type_29 : decode cX12_type 29 = .ok (.bipush (-4), 2) := by decide +kernel
theorem dX12_type_31 : decode cX12_type 31 = .ok (.invokevirtual 53, 3) := by decide +kernel
theorem dX12_type_34 : decode cX12_type 34 = .ok (.ireturn, 1) := by decide +kernel
theorem dX12_type_35 : decode cX12_type 35 = .ok (.iload_n 3, 1) := by decide +kernel
theorem dX12_type_36 : decode cX12_type 36 = .ok (.iconst 1, 1) := by decide +kernel
theorem dX12_type_37 : decode cX12_type 37 = .ok (.isub, 1) := by decide +kernel
theorem dX12_type_38 : decode cX12_type 38 = .ok (.istore 4, 2) := by decide +kernel
theorem dX12_type_40 : decode cX12_type 40 = .ok (.iload 4, 2) := by decide +kernel
theorem dX12_type_42 : decode cX12_type 42 = .ok (.ifCond .lt 40, 3) := by decide +kernel
theorem dX12_type_45 : decode cX12_type 45 = .ok (.aload_n 0, 1) := by decide +kernel
theorem dX12_type_46 : decode cX12_type 46 = .ok (.getfield 23, 3) := by decide +kernel
theorem dX12_type_49 : decode cX12_type 49 = .ok (.aload_n 0, 1) := by decide +kernel
theorem dX12_type_50 : decode cX12_type 50 = .ok (.getfield 76, 3) := by decide +kernel
theorem dX12_type_53 : decode cX12_type 53 = .ok (.lload_n 1, 1) := by decide +kernel
theorem dX12_type_54 : decode cX12_type 54 = .ok (.bipush 8, 2) := by decide +kernel
theorem dX12_type_56 : decode cX12_type 56 = .ok (.iload 4, 2) := by decide +kernel
theorem dX12_type_58 : decode cX12_type 58 = .ok (.imul, 1) := by decide +kernel
theorem dX12_type_59 : decode cX12_type 59 = .ok (.lshr, 1) := by decide +kernel
theorem dX12_type_60 : decode cX12_type 60 = .ok (.ldc2_w 80, 3) := by decide +kernel
theorem dX12_type_63 : decode cX12_type 63 = .ok (.land, 1) := by decide +kernel
theorem dX12_type_64 : decode cX12_type 64 = .ok (.l2i, 1) := by decide +kernel
theorem dX12_type_65 : decode cX12_type 65 = .ok (.iastore, 1) := by decide +kernel
theorem dX12_type_66 : decode cX12_type 66 = .ok (.aload_n 0, 1) := by decide +kernel
theorem dX12_type_67 : decode cX12_type 67 = .ok (.dup, 1) := by decide +kernel
theorem dX12_type_68 : decode cX12_type 68 = .ok (.getfield 76, 3) := by decide +kernel
theorem dX12_type_71 : decode cX12_type 71 = .ok (.iconst 1, 1) := by decide +kernel
theorem dX12_type_72 : decode cX12_type 72 = .ok (.iadd, 1) := by decide +kernel
theorem dX12_type_73 : decode cX12_type 73 = .ok (.putfield 76, 3) := by decide +kernel
theorem dX12_type_76 : decode cX12_type 76 = .ok (.iinc 4 (-1), 3) := by decide +kernel
theorem dX12_type_79 : decode cX12_type 79 = .ok (.goto (-39), 3) := by decide +kernel
theorem dX12_type_82 : decode cX12_type 82 = .ok (.aload_n 0, 1) := by decide +kernel
theorem dX12_type_83 : decode cX12_type 83 = .ok (.getfield 76, 3) := by decide +kernel
theorem dX12_type_86 : decode cX12_type 86 = .ok (.ireturn, 1) := by decide +kernel
theorem dX12_clear_0 : decode cX12_clear 0 = .ok (.aload_n 0, 1) := by decide +kernel
theorem dX12_clear_1 : decode cX12_clear 1 = .ok (.getfield 76, 3) := by decide +kernel
theorem dX12_clear_4 : decode cX12_clear 4 = .ok (.istore_n 1, 1) := by decide +kernel
theorem dX12_clear_5 : decode cX12_clear 5 = .ok (.aload_n 0, 1) := by decide +kernel
theorem dX12_clear_6 : decode cX12_clear 6 = .ok (.iconst 0, 1) := by decide +kernel
theorem dX12_clear_7 : decode cX12_clear 7 = .ok (.putfield 76, 3) := by decide +kernel
theorem dX12_clear_10 : decode cX12_clear 10 = .ok (.iload_n 1, 1) := by decide +kernel
theorem dX12_clear_11 : decode cX12_clear 11 = .ok (.ireturn, 1) := by decide +kernel
theorem dX12_byteAt_0 : decode cX12_byteAt 0 = .ok (.iload_n 1, 1) := by decide +kernel
theorem dX12_byteAt_1 : decode cX12_byteAt 1 = .ok (.aload_n 0, 1) := by decide +kernel
theorem dX12_byteAt_2 : decode cX12_byteAt 2 = .ok (.getfield 76, 3) := by decide +kernel
theorem dX12_byteAt_5 : decode cX12_byteAt 5 = .ok (.if_icmp .ge 12, 3) := by decide +kernel
theorem dX12_byteAt_8 : decode cX12_byteAt 8 = .ok (.aload_n 0, 1) := by decide +kernel
theorem dX12_byteAt_9 : decode cX12_byteAt 9 = .ok (.getfield 23, 3) := by decide +kernel
theorem dX12_byteAt_12 : decode cX12_byteAt 12 = .ok (.iload_n 1, 1) := by decide +kernel
theorem dX12_byteAt_13 : decode cX12_byteAt 13 = .ok (.iaload, 1) := by decide +kernel
theorem dX12_byteAt_14 : decode cX12_byteAt 14 = .ok (.goto 4, 3) := by decide +kernel
theorem dX12_byteAt_17 : decode cX12_byteAt 17 = .ok (.iconst (-1), 1) := by decide +kernel
theorem dX12_byteAt_18 : decode cX12_byteAt 18 = .ok (.ireturn, 1) := by decide +kernel
theorem dX12_sortOf_0 : decode cX12_sortOf 0 = .ok (.iload_n 0, 1) := by decide +kernel
theorem dX12_sortOf_1 : decode cX12_sortOf 1 = .ok (.ifCond .ge 7, 3) := by decide +kernel
theorem dX12_sortOf_4 : decode cX12_sortOf 4 = .ok (.iconst 0, 1) := by decide +kernel
theorem dX12_sortOf_5 : decode cX12_sortOf 5 = .ok (.goto 44, 3) := by decide +kernel
theorem dX12_sortOf_8 : decode cX12_sortOf 8 = .ok (.iload_n 0, 1) := by decide +kernel
theorem dX12_sortOf_9 : decode cX12_sortOf 9 = .ok (.bipush 97, 2) := by decide +kernel
theorem dX12_sortOf_11 : decode cX12_sortOf 11 = .ok (.bipush 122, 2) := by decide +kernel
theorem dX12_sortOf_13 : decode cX12_sortOf 13 = .ok (.invokestatic 57, 3) := by decide +kernel
theorem dX12_sortOf_16 : decode cX12_sortOf 16 = .ok (.ifCond .eq 7, 3) := by decide +kernel
theorem dX12_sortOf_19 : decode cX12_sortOf 19 = .ok (.iconst 1, 1) := by decide +kernel
theorem dX12_sortOf_20 : decode cX12_sortOf 20 = .ok (.goto 29, 3) := by decide +kernel
theorem dX12_sortOf_23 : decode cX12_sortOf 23 = .ok (.iload_n 0, 1) := by decide +kernel
theorem dX12_sortOf_24 : decode cX12_sortOf 24 = .ok (.bipush 48, 2) := by decide +kernel
theorem dX12_sortOf_26 : decode cX12_sortOf 26 = .ok (.bipush 57, 2) := by decide +kernel
theorem dX12_sortOf_28 : decode cX12_sortOf 28 = .ok (.invokestatic 57, 3) := by decide +kernel
theorem dX12_sortOf_31 : decode cX12_sortOf 31 = .ok (.ifCond .eq 7, 3) := by decide +kernel
theorem dX12_sortOf_34 : decode cX12_sortOf 34 = .ok (.iconst 2, 1) := by decide +kernel
theorem dX12_sortOf_35 : decode cX12_sortOf 35 = .ok (.goto 14, 3) := by decide +kernel
theorem dX12_sortOf_38 : decode cX12_sortOf 38 = .ok (.iload_n 0, 1) := by decide +kernel
theorem dX12_sortOf_39 : decode cX12_sortOf 39 = .ok (.bipush 59, 2) := by decide +kernel
theorem dX12_sortOf_41 : decode cX12_sortOf 41 = .ok (.if_icmp .ne 7, 3) := by decide +kernel
theorem dX12_sortOf_44 : decode cX12_sortOf 44 = .ok (.iconst 3, 1) := by decide +kernel
theorem dX12_sortOf_45 : decode cX12_sortOf 45 = .ok (.goto 4, 3) := by decide +kernel
theorem dX12_sortOf_48 : decode cX12_sortOf 48 = .ok (.iconst 4, 1) := by decide +kernel
theorem dX12_sortOf_49 : decode cX12_sortOf 49 = .ok (.ireturn, 1) := by decide +kernel
theorem dX12_token_0 : decode cX12_token 0 = .ok (.aload_n 0, 1) := by decide +kernel
theorem dX12_token_1 : decode cX12_token 1 = .ok (.aload_n 0, 1) := by decide +kernel
theorem dX12_token_2 : decode cX12_token 2 = .ok (.getfield 82, 3) := by decide +kernel
theorem dX12_token_5 : decode cX12_token 5 = .ok (.invokevirtual 85, 3) := by decide +kernel
theorem dX12_token_8 : decode cX12_token 8 = .ok (.bipush 32, 2) := by decide +kernel
theorem dX12_token_10 : decode cX12_token 10 = .ok (.if_icmp .ne 16, 3) := by decide +kernel
theorem dX12_token_13 : decode cX12_token 13 = .ok (.aload_n 0, 1) := by decide +kernel
theorem dX12_token_14 : decode cX12_token 14 = .ok (.dup, 1) := by decide +kernel
theorem dX12_token_15 : decode cX12_token 15 = .ok (.getfield 82, 3) := by decide +kernel
theorem dX12_token_18 : decode cX12_token 18 = .ok (.iconst 1, 1) := by decide +kernel
theorem dX12_token_19 : decode cX12_token 19 = .ok (.iadd, 1) := by decide +kernel
theorem dX12_token_20 : decode cX12_token 20 = .ok (.putfield 82, 3) := by decide +kernel
theorem dX12_token_23 : decode cX12_token 23 = .ok (.goto (-23), 3) := by decide +kernel
theorem dX12_token_26 : decode cX12_token 26 = .ok (.aload_n 0, 1) := by decide +kernel
theorem dX12_token_27 : decode cX12_token 27 = .ok (.aload_n 0, 1) := by decide +kernel
theorem dX12_token_28 : decode cX12_token 28 = .ok (.getfield 82, 3) := by decide +kernel
theorem dX12_token_31 : decode cX12_token 31 = .ok (.putfield 89, 3) := by decide +kernel
theorem dX12_token_34 : decode cX12_token 34 = .ok (.aload_n 0, 1) := by decide +kernel
theorem dX12_token_35 : decode cX12_token 35 = .ok (.aload_n 0, 1) := by decide +kernel
theorem dX12_token_36 : decode cX12_token 36 = .ok (.aload_n 0, 1) := by decide +kernel
theorem dX12_token_37 : decode cX12_token 37 = .ok (.getfield 82, 3) := by decide +kernel
theorem dX12_token_40 : decode cX12_token 40 = .ok (.invokevirtual 85, 3) := by decide +kernel
theorem dX12_token_43 : decode cX12_token 43 = .ok (.invokestatic 92, 3) := by decide +kernel
theorem dX12_token_46 : decode cX12_token 46 = .ok (.putfield 95, 3) := by decide +kernel
theorem dX12_token_49 : decode cX12_token 49 = .ok (.aload_n 0, 1) := by decide +kernel
theorem dX12_token_50 : decode cX12_token 50 = .ok (.iconst 0, 1) := by decide +kernel
theorem dX12_token_51 : decode cX12_token 51 = .ok (.putfield 98, 3) := by decide +kernel
theorem dX12_token_54 : decode cX12_token 54 = .ok (.aload_n 0, 1) := by decide +kernel
theorem dX12_token_55 : decode cX12_token 55 = .ok (.getfield 98, 3) := by decide +kernel
theorem dX12_token_58 : decode cX12_token 58 = .ok (.ifCond .ne 10, 3) := by decide +kernel
theorem dX12_token_61 : decode cX12_token 61 = .ok (.aload_n 0, 1) := by decide +kernel
theorem dX12_token_62 : decode cX12_token 62 = .ok (.getfield 95, 3) := by decide +kernel
theorem dX12_token_65 : decode cX12_token 65 = .ok (.ifCond .ne 37, 3) := by decide +kernel
theorem dX12_token_68 : decode cX12_token 68 = .ok (.aload_n 0, 1) := by decide +kernel
theorem dX12_token_69 : decode cX12_token 69 = .ok (.getfield 95, 3) := by decide +kernel
theorem dX12_token_72 : decode cX12_token 72 = .ok (.iconst 1, 1) := by decide +kernel
theorem dX12_token_73 : decode cX12_token 73 = .ok (.if_icmp .eq 11, 3) := by decide +kernel
theorem dX12_token_76 : decode cX12_token 76 = .ok (.aload_n 0, 1) := by decide +kernel
theorem dX12_token_77 : decode cX12_token 77 = .ok (.getfield 95, 3) := by decide +kernel
theorem dX12_token_80 : decode cX12_token 80 = .ok (.iconst 2, 1) := by decide +kernel
theorem dX12_token_81 : decode cX12_token 81 = .ok (.if_icmp .ne 44, 3) := by decide +kernel
theorem dX12_token_84 : decode cX12_token 84 = .ok (.aload_n 0, 1) := by decide +kernel
theorem dX12_token_85 : decode cX12_token 85 = .ok (.aload_n 0, 1) := by decide +kernel
theorem dX12_token_86 : decode cX12_token 86 = .ok (.getfield 82, 3) := by decide +kernel
theorem dX12_token_89 : decode cX12_token 89 = .ok (.invokevirtual 85, 3) := by decide +kernel
theorem dX12_token_92 : decode cX12_token 92 = .ok (.invokestatic 92, 3) := by decide +kernel
theorem dX12_token_95 : decode cX12_token 95 = .ok (.aload_n 0, 1) := by decide +kernel
theorem dX12_token_96 : decode cX12_token 96 = .ok (.getfield 95, 3) := by decide +kernel
theorem dX12_token_99 : decode cX12_token 99 = .ok (.if_icmp .ne 26, 3) := by decide +kernel
theorem dX12_token_102 : decode cX12_token 102 = .ok (.aload_n 0, 1) := by decide +kernel
theorem dX12_token_103 : decode cX12_token 103 = .ok (.dup, 1) := by decide +kernel
theorem dX12_token_104 : decode cX12_token 104 = .ok (.getfield 82, 3) := by decide +kernel
theorem dX12_token_107 : decode cX12_token 107 = .ok (.iconst 1, 1) := by decide +kernel
theorem dX12_token_108 : decode cX12_token 108 = .ok (.iadd, 1) := by decide +kernel
theorem dX12_token_109 : decode cX12_token 109 = .ok (.putfield 82, 3) := by decide +kernel
theorem dX12_token_112 : decode cX12_token 112 = .ok (.aload_n 0, 1) := by decide +kernel
theorem dX12_token_113 : decode cX12_token 113 = .ok (.dup, 1) := by decide +kernel
theorem dX12_token_114 : decode cX12_token 114 = .ok (.getfield 98, 3) := by decide +kernel
theorem dX12_token_117 : decode cX12_token 117 = .ok (.iconst 1, 1) := by decide +kernel
theorem dX12_token_118 : decode cX12_token 118 = .ok (.iadd, 1) := by decide +kernel
theorem dX12_token_119 : decode cX12_token 119 = .ok (.putfield 98, 3) := by decide +kernel
theorem dX12_token_122 : decode cX12_token 122 = .ok (.goto (-68), 3) := by decide +kernel
theorem dX12_token_125 : decode cX12_token 125 = .ok (.return_, 1) := by decide +kernel
theorem dX12_verb_0 : decode cX12_verb 0 = .ok (.aload_n 0, 1) := by decide +kernel
theorem dX12_verb_1 : decode cX12_verb 1 = .ok (.getfield 95, 3) := by decide +kernel
theorem dX12_verb_4 : decode cX12_verb 4 = .ok (.iconst 1, 1) := by decide +kernel
theorem dX12_verb_5 : decode cX12_verb 5 = .ok (.if_icmp .eq 5, 3) := by decide +kernel
theorem dX12_verb_8 : decode cX12_verb 8 = .ok (.iconst (-1), 1) := by decide +kernel
theorem dX12_verb_9 : decode cX12_verb 9 = .ok (.ireturn, 1) := by decide +kernel
theorem dX12_verb_10 : decode cX12_verb 10 = .ok (.lconst 0, 1) := by decide +kernel
theorem dX12_verb_11 : decode cX12_verb 11 = .ok (.lstore_n 1, 1) := by decide +kernel
theorem dX12_verb_12 : decode cX12_verb 12 = .ok (.iconst 0, 1) := by decide +kernel
theorem dX12_verb_13 : decode cX12_verb 13 = .ok (.istore_n 3, 1) := by decide +kernel
theorem dX12_verb_14 : decode cX12_verb 14 = .ok (.iload_n 3, 1) := by decide +kernel
theorem dX12_verb_15 : decode cX12_verb 15 = .ok (.aload_n 0, 1) := by decide +kernel
theorem dX12_verb_16 : decode cX12_verb 16 = .ok (.getfield 98, 3) := by decide +kernel
theorem dX12_verb_19 : decode cX12_verb 19 = .ok (.if_icmp .ge 33, 3) := by decide +kernel
theorem dX12_verb_22 : decode cX12_verb 22 = .ok (.iload_n 3, 1) := by decide +kernel
theorem dX12_verb_23 : decode cX12_verb 23 = .ok (.bipush 7, 2) := by decide +kernel
theorem dX12_verb_25 : decode cX12_verb 25 = .ok (.if_icmp .ge 27, 3) := by decide +kernel
theorem dX12_verb_28 : decode cX12_verb 28 = .ok (.ldc2_w 101, 3) := by decide +kernel
theorem dX12_verb_31 : decode cX12_verb 31 = .ok (.lload_n 1, 1) := by decide +kernel
theorem dX12_verb_32 : decode cX12_verb 32 = .ok (.lmul, 1) := by decide +kernel
theorem dX12_verb_33 : decode cX12_verb 33 = .ok (.aload_n 0, 1) := by decide +kernel
theorem dX12_verb_34 : decode cX12_verb 34 = .ok (.aload_n 0, 1) := by decide +kernel
theorem dX12_verb_35 : decode cX12_verb 35 = .ok (.getfield 89, 3) := by decide +kernel
theorem dX12_verb_38 : decode cX12_verb 38 = .ok (.iload_n 3, 1) := by decide +kernel
theorem dX12_verb_39 : decode cX12_verb 39 = .ok (.iadd, 1) := by decide +kernel
theorem dX12_verb_40 : decode cX12_verb 40 = .ok (.invokevirtual 85, 3) := by decide +kernel
theorem dX12_verb_43 : decode cX12_verb 43 = .ok (.i2l, 1) := by decide +kernel
theorem dX12_verb_44 : decode cX12_verb 44 = .ok (.ladd, 1) := by decide +kernel
theorem dX12_verb_45 : decode cX12_verb 45 = .ok (.lstore_n 1, 1) := by decide +kernel
theorem dX12_verb_46 : decode cX12_verb 46 = .ok (.iinc 3 1, 3) := by decide +kernel
theorem dX12_verb_49 : decode cX12_verb 49 = .ok (.goto (-35), 3) := by decide +kernel
theorem dX12_verb_52 : decode cX12_verb 52 = .ok (.lload_n 1, 1) := by decide +kernel
theorem dX12_verb_53 : decode cX12_verb 53 = .ok (.ldc2_w 103, 3) := by decide +kernel
theorem dX12_verb_56 : decode cX12_verb 56 = .ok (.lcmp, 1) := by decide +kernel
theorem dX12_verb_57 : decode cX12_verb 57 = .ok (.ifCond .ne 5, 3) := by decide +kernel
theorem dX12_verb_60 : decode cX12_verb 60 = .ok (.iconst 0, 1) := by decide +kernel
theorem dX12_verb_61 : decode cX12_verb 61 = .ok (.ireturn, 1) := by decide +kernel
theorem dX12_verb_62 : decode cX12_verb 62 = .ok (.lload_n 1, 1) := by decide +kernel
theorem dX12_verb_63 : decode cX12_verb 63 = .ok (.ldc2_w 105, 3) := by decide +kernel
theorem dX12_verb_66 : decode cX12_verb 66 = .ok (.lcmp, 1) := by decide +kernel
theorem dX12_verb_67 : decode cX12_verb 67 = .ok (.ifCond .ne 7, 3) := by decide +kernel
theorem dX12_verb_70 : decode cX12_verb 70 = .ok (.iconst 1, 1) := by decide +kernel
theorem dX12_verb_71 : decode cX12_verb 71 = .ok (.goto 52, 3) := by decide +kernel
theorem dX12_verb_74 : decode cX12_verb 74 = .ok (.lload_n 1, 1) := by decide +kernel
theorem dX12_verb_75 : decode cX12_verb 75 = .ok (.ldc2_w 107, 3) := by decide +kernel
theorem dX12_verb_78 : decode cX12_verb 78 = .ok (.lcmp, 1) := by decide +kernel
theorem dX12_verb_79 : decode cX12_verb 79 = .ok (.ifCond .ne 7, 3) := by decide +kernel
theorem dX12_verb_82 : decode cX12_verb 82 = .ok (.iconst 2, 1) := by decide +kernel
theorem dX12_verb_83 : decode cX12_verb 83 = .ok (.goto 40, 3) := by decide +kernel
theorem dX12_verb_86 : decode cX12_verb 86 = .ok (.lload_n 1, 1) := by decide +kernel
theorem dX12_verb_87 : decode cX12_verb 87 = .ok (.ldc2_w 109, 3) := by decide +kernel
theorem dX12_verb_90 : decode cX12_verb 90 = .ok (.lcmp, 1) := by decide +kernel
theorem dX12_verb_91 : decode cX12_verb 91 = .ok (.ifCond .ne 7, 3) := by decide +kernel
theorem dX12_verb_94 : decode cX12_verb 94 = .ok (.iconst 3, 1) := by decide +kernel
theorem dX12_verb_95 : decode cX12_verb 95 = .ok (.goto 28, 3) := by decide +kernel
theorem dX12_verb_98 : decode cX12_verb 98 = .ok (.lload_n 1, 1) := by decide +kernel
theorem dX12_verb_99 : decode cX12_verb 99 = .ok (.ldc2_w 111, 3) := by decide +kernel
theorem dX12_verb_102 : decode cX12_verb 102 = .ok (.lcmp, 1) := by decide +kernel
theorem dX12_verb_103 : decode cX12_verb 103 = .ok (.ifCond .ne 7, 3) := by decide +kernel
theorem dX12_verb_106 : decode cX12_verb 106 = .ok (.iconst 4, 1) := by decide +kernel
theorem dX12_verb_107 : decode cX12_verb 107 = .ok (.goto 16, 3) := by decide +kernel
theorem dX12_verb_110 : decode cX12_verb 110 = .ok (.lload_n 1, 1) := by decide +kernel
theorem dX12_verb_111 : decode cX12_verb 111 = .ok (.ldc2_w 113, 3) := by decide +kernel
theorem dX12_verb_114 : decode cX12_verb 114 = .ok (.lcmp, 1) := by decide +kernel
theorem dX12_verb_115 : decode cX12_verb 115 = .ok (.ifCond .ne 7, 3) := by decide +kernel
theorem dX12_verb_118 : decode cX12_verb 118 = .ok (.iconst 5, 1) := by decide +kernel
theorem dX12_verb_119 : decode cX12_verb 119 = .ok (.goto 4, 3) := by decide +kernel
theorem dX12_verb_122 : decode cX12_verb 122 = .ok (.iconst (-1), 1) := by decide +kernel
theorem dX12_verb_123 : decode cX12_verb 123 = .ok (.ireturn, 1) := by decide +kernel
theorem dX12_figure_0 : decode cX12_figure 0 = .ok (.aload_n 0, 1) := by decide +kernel
theorem dX12_figure_1 : decode cX12_figure 1 = .ok (.invokevirtual 115, 3) := by decide +kernel
theorem dX12_figure_4 : decode cX12_figure 4 = .ok (.aload_n 0, 1) := by decide +kernel
theorem dX12_figure_5 : decode cX12_figure 5 = .ok (.aload_n 0, 1) := by decide +kernel
theorem dX12_figure_6 : decode cX12_figure 6 = .ok (.getfield 89, 3) := by decide +kernel
theorem dX12_figure_9 : decode cX12_figure 9 = .ok (.invokevirtual 85, 3) := by decide +kernel
theorem dX12_figure_12 : decode cX12_figure 12 = .ok (.bipush 48, 2) := by decide +kernel
theorem dX12_figure_14 : decode cX12_figure 14 = .ok (.isub, 1) := by decide +kernel
theorem dX12_figure_15 : decode cX12_figure 15 = .ok (.istore_n 3, 1) := by decide +kernel
theorem dX12_figure_16 : decode cX12_figure 16 = .ok (.aload_n 0, 1) := by decide +kernel
theorem dX12_figure_17 : decode cX12_figure 17 = .ok (.getfield 95, 3) := by decide +kernel
theorem dX12_figure_20 : decode cX12_figure 20 = .ok (.iconst 2, 1) := by decide +kernel
theorem dX12_figure_21 : decode cX12_figure 21 = .ok (.if_icmp .ne 24, 3) := by decide +kernel
theorem dX12_figure_24 : decode cX12_figure 24 = .ok (.aload_n 0, 1) := by decide +kernel
theorem dX12_figure_25 : decode cX12_figure 25 = .ok (.getfield 98, 3) := by decide +kernel
theorem dX12_figure_28 : decode cX12_figure 28 = .ok (.iconst 1, 1) := by decide +kernel
theorem dX12_figure_29 : decode cX12_figure 29 = .ok (.if_icmp .ne 16, 3) := by decide +kernel
theorem dX12_figure_32 : decode cX12_figure 32 = .ok (.iload_n 3, 1) := by decide +kernel
theorem dX12_figure_33 : decode cX12_figure 33 = .ok (.iload_n 1, 1) := by decide +kernel
theorem dX12_figure_34 : decode cX12_figure 34 = .ok (.iload_n 2, 1) := by decide +kernel
theorem dX12_figure_35 : decode cX12_figure 35 = .ok (.invokestatic 57, 3) := by decide +kernel
theorem dX12_figure_38 : decode cX12_figure 38 = .ok (.ifCond .eq 7, 3) := by decide +kernel
theorem dX12_figure_41 : decode cX12_figure 41 = .ok (.iload_n 3, 1) := by decide +kernel
theorem dX12_figure_42 : decode cX12_figure 42 = .ok (.goto 4, 3) := by decide +kernel
theorem dX12_figure_45 : decode cX12_figure 45 = .ok (.iconst (-1), 1) := by decide +kernel
theorem dX12_figure_46 : decode cX12_figure 46 = .ok (.ireturn, 1) := by decide +kernel
theorem dX12_row_0 : decode cX12_row 0 = .ok (.aload_n 0, 1) := by decide +kernel
theorem dX12_row_1 : decode cX12_row 1 = .ok (.invokevirtual 115, 3) := by decide +kernel
theorem dX12_row_4 : decode cX12_row 4 = .ok (.aload_n 0, 1) := by decide +kernel
theorem dX12_row_5 : decode cX12_row 5 = .ok (.getfield 95, 3) := by decide +kernel
theorem dX12_row_8 : decode cX12_row 8 = .ok (.iconst 1, 1) := by decide +kernel
theorem dX12_row_9 : decode cX12_row 9 = .ok (.if_icmp .ne 16, 3) := by decide +kernel
theorem dX12_row_12 : decode cX12_row 12 = .ok (.aload_n 0, 1) := by decide +kernel
theorem dX12_row_13 : decode cX12_row 13 = .ok (.getfield 98, 3) := by decide +kernel
theorem dX12_row_16 : decode cX12_row 16 = .ok (.aload_n 0, 1) := by decide +kernel
theorem dX12_row_17 : decode cX12_row 17 = .ok (.getfield 13, 3) := by decide +kernel
theorem dX12_row_20 : decode cX12_row 20 = .ok (.iconst 0, 1) := by decide +kernel
theorem dX12_row_21 : decode cX12_row 21 = .ok (.iaload, 1) := by decide +kernel
theorem dX12_row_22 : decode cX12_row 22 = .ok (.if_icmp .eq 5, 3) := by decide +kernel
theorem dX12_row_25 : decode cX12_row 25 = .ok (.iconst (-1), 1) := by decide +kernel
theorem dX12_row_26 : decode cX12_row 26 = .ok (.ireturn, 1) := by decide +kernel
theorem dX12_row_27 : decode cX12_row 27 = .ok (.iconst 0, 1) := by decide +kernel
theorem dX12_row_28 : decode cX12_row 28 = .ok (.istore_n 1, 1) := by decide +kernel
theorem dX12_row_29 : decode cX12_row 29 = .ok (.iconst 1, 1) := by decide +kernel
theorem dX12_row_30 : decode cX12_row 30 = .ok (.istore_n 2, 1) := by decide +kernel
theorem dX12_row_31 : decode cX12_row 31 = .ok (.aload_n 0, 1) := by decide +kernel
theorem dX12_row_32 : decode cX12_row 32 = .ok (.getfield 98, 3) := by decide +kernel
theorem dX12_row_35 : decode cX12_row 35 = .ok (.iconst 1, 1) := by decide +kernel
theorem dX12_row_36 : decode cX12_row 36 = .ok (.isub, 1) := by decide +kernel
theorem dX12_row_37 : decode cX12_row 37 = .ok (.istore_n 3, 1) := by decide +kernel
theorem dX12_row_38 : decode cX12_row 38 = .ok (.iload_n 3, 1) := by decide +kernel
theorem dX12_row_39 : decode cX12_row 39 = .ok (.ifCond .lt 53, 3) := by decide +kernel
theorem dX12_row_42 : decode cX12_row 42 = .ok (.aload_n 0, 1) := by decide +kernel
theorem dX12_row_43 : decode cX12_row 43 = .ok (.aload_n 0, 1) := by decide +kernel
theorem dX12_row_44 : decode cX12_row 44 = .ok (.getfield 89, 3) := by decide +kernel
theorem dX12_row_47 : decode cX12_row 47 = .ok (.iload_n 3, 1) := by decide +kernel
theorem dX12_row_48 : decode cX12_row 48 = .ok (.iadd, 1) := by decide +kernel
theorem dX12_row_49 : decode cX12_row 49 = .ok (.invokevirtual 85, 3) := by decide +kernel
theorem dX12_row_52 : decode cX12_row 52 = .ok (.bipush 97, 2) := by decide +kernel
theorem dX12_row_54 : decode cX12_row 54 = .ok (.isub, 1) := by decide +kernel
theorem dX12_row_55 : decode cX12_row 55 = .ok (.istore 4, 2) := by decide +kernel
theorem dX12_row_57 : decode cX12_row 57 = .ok (.iload_n 2, 1) := by decide +kernel
theorem dX12_row_58 : decode cX12_row 58 = .ok (.ifCond .eq 18, 3) := by decide +kernel
theorem dX12_row_61 : decode cX12_row 61 = .ok (.iload 4, 2) := by decide +kernel
theorem dX12_row_63 : decode cX12_row 63 = .ok (.aload_n 0, 1) := by decide +kernel
theorem dX12_row_64 : decode cX12_row 64 = .ok (.getfield 13, 3) := by decide +kernel
theorem dX12_row_67 : decode cX12_row 67 = .ok (.iconst 0, 1) := by decide +kernel
theorem dX12_row_68 : decode cX12_row 68 = .ok (.iaload, 1) := by decide +kernel
theorem dX12_row_69 : decode cX12_row 69 = .ok (.if_icmp .ge 7, 3) := by decide +kernel
theorem dX12_row_72 : decode cX12_row 72 = .ok (.iconst 1, 1) := by decide +kernel
theorem dX12_row_73 : decode cX12_row 73 = .ok (.goto 4, 3) := by decide +kernel
theorem dX12_row_76 : decode cX12_row 76 = .ok (.iconst 0, 1) := by decide +kernel
theorem dX12_row_77 : decode cX12_row 77 = .ok (.istore_n 2, 1) := by decide +kernel
theorem dX12_row_78 : decode cX12_row 78 = .ok (.bipush 8, 2) := by decide +kernel
theorem dX12_row_80 : decode cX12_row 80 = .ok (.iload_n 1, 1) := by decide +kernel
theorem dX12_row_81 : decode cX12_row 81 = .ok (.imul, 1) := by decide +kernel
theorem dX12_row_82 : decode cX12_row 82 = .ok (.iload 4, 2) := by decide +kernel
theorem dX12_row_84 : decode cX12_row 84 = .ok (.iadd, 1) := by decide +kernel
theorem dX12_row_85 : decode cX12_row 85 = .ok (.istore_n 1, 1) := by decide +kernel
theorem dX12_row_86 : decode cX12_row 86 = .ok (.iinc 3 (-1), 3) := by decide +kernel
theorem dX12_row_89 : decode cX12_row 89 = .ok (.goto (-51), 3) := by decide +kernel
theorem dX12_row_92 : decode cX12_row 92 = .ok (.iload_n 2, 1) := by decide +kernel
theorem dX12_row_93 : decode cX12_row 93 = .ok (.ifCond .eq 7, 3) := by decide +kernel
theorem dX12_row_96 : decode cX12_row 96 = .ok (.iload_n 1, 1) := by decide +kernel
theorem dX12_row_97 : decode cX12_row 97 = .ok (.goto 4, 3) := by decide +kernel
theorem dX12_row_100 : decode cX12_row 100 = .ok (.iconst (-1), 1) := by decide +kernel
theorem dX12_row_101 : decode cX12_row 101 = .ok (.ireturn, 1) := by decide +kernel
theorem dX12_readsDog_0 : decode cX12_readsDog 0 = .ok (.aload_n 0, 1) := by decide +kernel
theorem dX12_readsDog_1 : decode cX12_readsDog 1 = .ok (.getfield 13, 3) := by decide +kernel
theorem dX12_readsDog_4 : decode cX12_readsDog 4 = .ok (.bipush 6, 2) := by decide +kernel
theorem dX12_readsDog_6 : decode cX12_readsDog 6 = .ok (.iaload, 1) := by decide +kernel
theorem dX12_readsDog_7 : decode cX12_readsDog 7 = .ok (.iconst 3, 1) := by decide +kernel
theorem dX12_readsDog_8 : decode cX12_readsDog 8 = .ok (.if_icmp .ne 5, 3) := by decide +kernel
theorem dX12_readsDog_11 : decode cX12_readsDog 11 = .ok (.iconst 0, 1) := by decide +kernel
theorem dX12_readsDog_12 : decode cX12_readsDog 12 = .ok (.ireturn, 1) := by decide +kernel
theorem dX12_readsDog_13 : decode cX12_readsDog 13 = .ok (.aload_n 0, 1) := by decide +kernel
theorem dX12_readsDog_14 : decode cX12_readsDog 14 = .ok (.iconst 0, 1) := by decide +kernel
theorem dX12_readsDog_15 : decode cX12_readsDog 15 = .ok (.iconst 4, 1) := by decide +kernel
theorem dX12_readsDog_16 : decode cX12_readsDog 16 = .ok (.invokevirtual 118, 3) := by decide +kernel
theorem dX12_readsDog_19 : decode cX12_readsDog 19 = .ok (.istore_n 1, 1) := by decide +kernel
theorem dX12_readsDog_20 : decode cX12_readsDog 20 = .ok (.iload_n 1, 1) := by decide +kernel
theorem dX12_readsDog_21 : decode cX12_readsDog 21 = .ok (.iconst (-1), 1) := by decide +kernel
theorem dX12_readsDog_22 : decode cX12_readsDog 22 = .ok (.if_icmp .ne 5, 3) := by decide +kernel
theorem dX12_readsDog_25 : decode cX12_readsDog 25 = .ok (.iconst 0, 1) := by decide +kernel
theorem dX12_readsDog_26 : decode cX12_readsDog 26 = .ok (.ireturn, 1) := by decide +kernel
theorem dX12_readsDog_27 : decode cX12_readsDog 27 = .ok (.bipush 7, 2) := by decide +kernel
theorem dX12_readsDog_29 : decode cX12_readsDog 29 = .ok (.bipush 6, 2) := by decide +kernel
theorem dX12_readsDog_31 : decode cX12_readsDog 31 = .ok (.aload_n 0, 1) := by decide +kernel
theorem dX12_readsDog_32 : decode cX12_readsDog 32 = .ok (.getfield 13, 3) := by decide +kernel
theorem dX12_readsDog_35 : decode cX12_readsDog 35 = .ok (.bipush 6, 2) := by decide +kernel
theorem dX12_readsDog_37 : decode cX12_readsDog 37 = .ok (.iaload, 1) := by decide +kernel
theorem dX12_readsDog_38 : decode cX12_readsDog 38 = .ok (.imul, 1) := by decide +kernel
theorem dX12_readsDog_39 : decode cX12_readsDog 39 = .ok (.iadd, 1) := by decide +kernel
theorem dX12_readsDog_40 : decode cX12_readsDog 40 = .ok (.istore_n 2, 1) := by decide +kernel
theorem dX12_readsDog_41 : decode cX12_readsDog 41 = .ok (.iload_n 1, 1) := by decide +kernel
theorem dX12_readsDog_42 : decode cX12_readsDog 42 = .ok (.iconst 2, 1) := by decide +kernel
theorem dX12_readsDog_43 : decode cX12_readsDog 43 = .ok (.if_icmp .eq 8, 3) := by decide +kernel
theorem dX12_readsDog_46 : decode cX12_readsDog 46 = .ok (.iload_n 1, 1) := by decide +kernel
theorem dX12_readsDog_47 : decode cX12_readsDog 47 = .ok (.iconst 3, 1) := by decide +kernel
theorem dX12_readsDog_48 : decode cX12_readsDog 48 = .ok (.if_icmp .ne 7, 3) := by decide +kernel
theorem dX12_readsDog_51 : decode cX12_readsDog 51 = .ok (.iconst 1, 1) := by decide +kernel
theorem dX12_readsDog_52 : decode cX12_readsDog 52 = .ok (.goto 4, 3) := by decide +kernel
theorem dX12_readsDog_55 : decode cX12_readsDog 55 = .ok (.iconst 0, 1) := by decide +kernel
theorem dX12_readsDog_56 : decode cX12_readsDog 56 = .ok (.istore_n 3, 1) := by decide +kernel
theorem dX12_readsDog_57 : decode cX12_readsDog 57 = .ok (.aload_n 0, 1) := by decide +kernel
theorem dX12_readsDog_58 : decode cX12_readsDog 58 = .ok (.getfield 13, 3) := by decide +kernel
theorem dX12_readsDog_61 : decode cX12_readsDog 61 = .ok (.iload_n 2, 1) := by decide +kernel
theorem dX12_readsDog_62 : decode cX12_readsDog 62 = .ok (.iload_n 1, 1) := by decide +kernel
theorem dX12_readsDog_63 : decode cX12_readsDog 63 = .ok (.iastore, 1) := by decide +kernel
theorem dX12_readsDog_64 : decode cX12_readsDog 64 = .ok (.iconst 1, 1) := by decide +kernel
theorem dX12_readsDog_65 : decode cX12_readsDog 65 = .ok (.istore 4, 2) := by decide +kernel
theorem dX12_readsDog_67 : decode cX12_readsDog 67 = .ok (.iload 4, 2) := by decide +kernel
theorem dX12_readsDog_69 : decode cX12_readsDog 69 = .ok (.iload_n 3, 1) := by decide +kernel
theorem dX12_readsDog_70 : decode cX12_readsDog 70 = .ok (.ifCond .eq 7, 3) := by decide +kernel
theorem dX12_readsDog_73 : decode cX12_readsDog 73 = .ok (.iconst 5, 1) := by decide +kernel
theorem dX12_readsDog_74 : decode cX12_readsDog 74 = .ok (.goto 4, 3) := by decide +kernel
theorem dX12_readsDog_77 : decode cX12_readsDog 77 = .ok (.iconst 3, 1) := by decide +kernel
theorem dX12_readsDog_78 : decode cX12_readsDog 78 = .ok (.if_icmp .ge 34, 3) := by decide +kernel
theorem dX12_readsDog_81 : decode cX12_readsDog 81 = .ok (.aload_n 0, 1) := by decide +kernel
theorem dX12_readsDog_82 : decode cX12_readsDog 82 = .ok (.invokevirtual 121, 3) := by decide +kernel
theorem dX12_readsDog_85 : decode cX12_readsDog 85 = .ok (.istore 5, 2) := by decide +kernel
theorem dX12_readsDog_87 : decode cX12_readsDog 87 = .ok (.iload 5, 2) := by decide +kernel
theorem dX12_readsDog_89 : decode cX12_readsDog 89 = .ok (.iconst (-1), 1) := by decide +kernel
theorem dX12_readsDog_90 : decode cX12_readsDog 90 = .ok (.if_icmp .ne 5, 3) := by decide +kernel
theorem dX12_readsDog_93 : decode cX12_readsDog 93 = .ok (.iconst 0, 1) := by decide +kernel
theorem dX12_readsDog_94 : decode cX12_readsDog 94 = .ok (.ireturn, 1) := by decide +kernel
theorem dX12_readsDog_95 : decode cX12_readsDog 95 = .ok (.aload_n 0, 1) := by decide +kernel
theorem dX12_readsDog_96 : decode cX12_readsDog 96 = .ok (.getfield 13, 3) := by decide +kernel
theorem dX12_readsDog_99 : decode cX12_readsDog 99 = .ok (.iload_n 2, 1) := by decide +kernel
theorem dX12_readsDog_100 : decode cX12_readsDog 100 = .ok (.iload 4, 2) := by decide +kernel
theorem dX12_readsDog_102 : decode cX12_readsDog 102 = .ok (.iadd, 1) := by decide +kernel
theorem dX12_readsDog_103 : decode cX12_readsDog 103 = .ok (.iload 5, 2) := by decide +kernel
theorem dX12_readsDog_105 : decode cX12_readsDog 105 = .ok (.iastore, 1) := by decide +kernel
theorem dX12_readsDog_106 : decode cX12_readsDog 106 = .ok (.iinc 4 1, 3) := by decide +kernel
theorem dX12_readsDog_109 : decode cX12_readsDog 109 = .ok (.goto (-42), 3) := by decide +kernel
theorem dX12_readsDog_112 : decode cX12_readsDog 112 = .ok (.iload_n 3, 1) := by decide +kernel
theorem dX12_readsDog_113 : decode cX12_readsDog 113 = .ok (.ifCond .eq 29, 3) := by decide +kernel
theorem dX12_readsDog_116 : decode cX12_readsDog 116 = .ok (.aload_n 0, 1) := by decide +kernel
theorem dX12_readsDog_117 : decode cX12_readsDog 117 = .ok (.iconst 1, 1) := by decide +kernel
theorem dX12_readsDog_118 : decode cX12_readsDog 118 = .ok (.iconst 3, 1) := by decide +kernel
theorem dX12_readsDog_119 : decode cX12_readsDog 119 = .ok (.invokevirtual 118, 3) := by decide +kernel
theorem dX12_readsDog_122 : decode cX12_readsDog 122 = .ok (.istore 4, 2) := by decide +kernel
theorem dX12_readsDog_124 : decode cX12_readsDog 124 = .ok (.iload 4, 2) := by decide +kernel
theorem dX12_readsDog_126 : decode cX12_readsDog 126 = .ok (.iconst (-1), 1) := by decide +kernel
theorem dX12_readsDog_127 : decode cX12_readsDog 127 = .ok (.if_icmp .ne 5, 3) := by decide +kernel
theorem dX12_readsDog_130 : decode cX12_readsDog 130 = .ok (.iconst 0, 1) := by decide +kernel
theorem dX12_readsDog_131 : decode cX12_readsDog 131 = .ok (.ireturn, 1) := by decide +kernel
theorem dX12_readsDog_132 : decode cX12_readsDog 132 = .ok (.aload_n 0, 1) := by decide +kernel
theorem dX12_readsDog_133 : decode cX12_readsDog 133 = .ok (.getfield 13, 3) := by decide +kernel
theorem dX12_readsDog_136 : decode cX12_readsDog 136 = .ok (.iload_n 2, 1) := by decide +kernel
theorem dX12_readsDog_137 : decode cX12_readsDog 137 = .ok (.iconst 5, 1) := by decide +kernel
theorem dX12_readsDog_138 : decode cX12_readsDog 138 = .ok (.iadd, 1) := by decide +kernel
theorem dX12_readsDog_139 : decode cX12_readsDog 139 = .ok (.iload 4, 2) := by decide +kernel
theorem dX12_readsDog_141 : decode cX12_readsDog 141 = .ok (.iastore, 1) := by decide +kernel
theorem dX12_readsDog_142 : decode cX12_readsDog 142 = .ok (.aload_n 0, 1) := by decide +kernel
theorem dX12_readsDog_143 : decode cX12_readsDog 143 = .ok (.getfield 13, 3) := by decide +kernel
theorem dX12_readsDog_146 : decode cX12_readsDog 146 = .ok (.bipush 6, 2) := by decide +kernel
theorem dX12_readsDog_148 : decode cX12_readsDog 148 = .ok (.dup2, 1) := by decide +kernel
theorem dX12_readsDog_149 : decode cX12_readsDog 149 = .ok (.iaload, 1) := by decide +kernel
theorem dX12_readsDog_150 : decode cX12_readsDog 150 = .ok (.iconst 1, 1) := by decide +kernel
theorem dX12_readsDog_151 : decode cX12_readsDog 151 = .ok (.iadd, 1) := by decide +kernel
theorem dX12_readsDog_152 : decode cX12_readsDog 152 = .ok (.iastore, 1) := by decide +kernel
theorem dX12_readsDog_153 : decode cX12_readsDog 153 = .ok (.iconst 1, 1) := by decide +kernel
theorem dX12_readsDog_154 : decode cX12_readsDog 154 = .ok (.ireturn, 1) := by decide +kernel
theorem dX12_readsItem_0 : decode cX12_readsItem 0 = .ok (.iload_n 1, 1) := by decide +kernel
theorem dX12_readsItem_1 : decode cX12_readsItem 1 = .ok (.iconst 5, 1) := by decide +kernel
theorem dX12_readsItem_2 : decode cX12_readsItem 2 = .ok (.if_icmp .ne 8, 3) := by decide +kernel
theorem dX12_readsItem_5 : decode cX12_readsItem 5 = .ok (.aload_n 0, 1) := by decide +kernel
theorem dX12_readsItem_6 : decode cX12_readsItem 6 = .ok (.invokevirtual 124, 3) := by decide +kernel
theorem dX12_readsItem_9 : decode cX12_readsItem 9 = .ok (.ireturn, 1) := by decide +kernel
theorem dX12_readsItem_10 : decode cX12_readsItem 10 = .ok (.iload_n 1, 1) := by decide +kernel
theorem dX12_readsItem_11 : decode cX12_readsItem 11 = .ok (.ifCond .ne 12, 3) := by decide +kernel
theorem dX12_readsItem_14 : decode cX12_readsItem 14 = .ok (.aload_n 0, 1) := by decide +kernel
theorem dX12_readsItem_15 : decode cX12_readsItem 15 = .ok (.iconst 2, 1) := by decide +kernel
theorem dX12_readsItem_16 : decode cX12_readsItem 16 = .ok (.iconst 5, 1) := by decide +kernel
theorem dX12_readsItem_17 : decode cX12_readsItem 17 = .ok (.invokevirtual 118, 3) := by decide +kernel
theorem dX12_readsItem_20 : decode cX12_readsItem 20 = .ok (.goto 30, 3) := by decide +kernel
theorem dX12_readsItem_23 : decode cX12_readsItem 23 = .ok (.iload_n 1, 1) := by decide +kernel
theorem dX12_readsItem_24 : decode cX12_readsItem 24 = .ok (.iconst 4, 1) := by decide +kernel
theorem dX12_readsItem_25 : decode cX12_readsItem 25 = .ok (.if_icmp .ne 12, 3) := by decide +kernel
theorem dX12_readsItem_28 : decode cX12_readsItem 28 = .ok (.aload_n 0, 1) := by decide +kernel
theorem dX12_readsItem_29 : decode cX12_readsItem 29 = .ok (.iconst 0, 1) := by decide +kernel
theorem dX12_readsItem_30 : decode cX12_readsItem 30 = .ok (.iconst 1, 1) := by decide +kernel
theorem dX12_readsItem_31 : decode cX12_readsItem 31 = .ok (.invokevirtual 118, 3) := by decide +kernel
theorem dX12_readsItem_34 : decode cX12_readsItem 34 = .ok (.goto 16, 3) := by decide +kernel
theorem dX12_readsItem_37 : decode cX12_readsItem 37 = .ok (.aload_n 0, 1) := by decide +kernel
theorem dX12_readsItem_38 : decode cX12_readsItem 38 = .ok (.iconst 0, 1) := by decide +kernel
theorem dX12_readsItem_39 : decode cX12_readsItem 39 = .ok (.aload_n 0, 1) := by decide +kernel
theorem dX12_readsItem_40 : decode cX12_readsItem 40 = .ok (.getfield 13, 3) := by decide +kernel
theorem dX12_readsItem_43 : decode cX12_readsItem 43 = .ok (.iconst 0, 1) := by decide +kernel
theorem dX12_readsItem_44 : decode cX12_readsItem 44 = .ok (.iaload, 1) := by decide +kernel
theorem dX12_readsItem_45 : decode cX12_readsItem 45 = .ok (.iconst 1, 1) := by decide +kernel
theorem dX12_readsItem_46 : decode cX12_readsItem 46 = .ok (.isub, 1) := by decide +kernel
theorem dX12_readsItem_47 : decode cX12_readsItem 47 = .ok (.invokevirtual 118, 3) := by decide +kernel
theorem dX12_readsItem_50 : decode cX12_readsItem 50 = .ok (.istore_n 2, 1) := by decide +kernel
theorem dX12_readsItem_51 : decode cX12_readsItem 51 = .ok (.iload_n 2, 1) := by decide +kernel
theorem dX12_readsItem_52 : decode cX12_readsItem 52 = .ok (.iconst (-1), 1) := by decide +kernel
theorem dX12_readsItem_53 : decode cX12_readsItem 53 = .ok (.if_icmp .ne 5, 3) := by decide +kernel
theorem dX12_readsItem_56 : decode cX12_readsItem 56 = .ok (.iconst 0, 1) := by decide +kernel
theorem dX12_readsItem_57 : decode cX12_readsItem 57 = .ok (.ireturn, 1) := by decide +kernel
theorem dX12_readsItem_58 : decode cX12_readsItem 58 = .ok (.iload_n 1, 1) := by decide +kernel
theorem dX12_readsItem_59 : decode cX12_readsItem 59 = .ok (.ifCond .ne 13, 3) := by decide +kernel
theorem dX12_readsItem_62 : decode cX12_readsItem 62 = .ok (.aload_n 0, 1) := by decide +kernel
theorem dX12_readsItem_63 : decode cX12_readsItem 63 = .ok (.getfield 13, 3) := by decide +kernel
theorem dX12_readsItem_66 : decode cX12_readsItem 66 = .ok (.iconst 0, 1) := by decide +kernel
theorem dX12_readsItem_67 : decode cX12_readsItem 67 = .ok (.iload_n 2, 1) := by decide +kernel
theorem dX12_readsItem_68 : decode cX12_readsItem 68 = .ok (.iastore, 1) := by decide +kernel
theorem dX12_readsItem_69 : decode cX12_readsItem 69 = .ok (.goto 82, 3) := by decide +kernel
theorem dX12_readsItem_72 : decode cX12_readsItem 72 = .ok (.iload_n 1, 1) := by decide +kernel
theorem dX12_readsItem_73 : decode cX12_readsItem 73 = .ok (.iconst 1, 1) := by decide +kernel
theorem dX12_readsItem_74 : decode cX12_readsItem 74 = .ok (.if_icmp .ne 18, 3) := by decide +kernel
theorem dX12_readsItem_77 : decode cX12_readsItem 77 = .ok (.aload_n 0, 1) := by decide +kernel
theorem dX12_readsItem_78 : decode cX12_readsItem 78 = .ok (.getfield 13, 3) := by decide +kernel
theorem dX12_readsItem_81 : decode cX12_readsItem 81 = .ok (.iconst 1, 1) := by decide +kernel
theorem dX12_readsItem_82 : decode cX12_readsItem 82 = .ok (.dup2, 1) := by decide +kernel
theorem dX12_readsItem_83 : decode cX12_readsItem 83 = .ok (.iaload, 1) := by decide +kernel
theorem dX12_readsItem_84 : decode cX12_readsItem 84 = .ok (.iconst 1, 1) := by decide +kernel
theorem dX12_readsItem_85 : decode cX12_readsItem 85 = .ok (.iload_n 2, 1) := by decide +kernel
theorem dX12_readsItem_86 : decode cX12_readsItem 86 = .ok (.ishl, 1) := by decide +kernel
theorem dX12_readsItem_87 : decode cX12_readsItem 87 = .ok (.ior, 1) := by decide +kernel
theorem dX12_readsItem_88 : decode cX12_readsItem 88 = .ok (.iastore, 1) := by decide +kernel
theorem dX12_readsItem_89 : decode cX12_readsItem 89 = .ok (.goto 62, 3) := by decide +kernel
theorem dX12_readsItem_92 : decode cX12_readsItem 92 = .ok (.iload_n 1, 1) := by decide +kernel
theorem dX12_readsItem_93 : decode cX12_readsItem 93 = .ok (.iconst 2, 1) := by decide +kernel
theorem dX12_readsItem_94 : decode cX12_readsItem 94 = .ok (.if_icmp .ne 13, 3) := by decide +kernel
theorem dX12_readsItem_97 : decode cX12_readsItem 97 = .ok (.aload_n 0, 1) := by decide +kernel
theorem dX12_readsItem_98 : decode cX12_readsItem 98 = .ok (.getfield 13, 3) := by decide +kernel
theorem dX12_readsItem_101 : decode cX12_readsItem 101 = .ok (.iconst 2, 1) := by decide +kernel
theorem dX12_readsItem_102 : decode cX12_readsItem 102 = .ok (.iload_n 2, 1) := by decide +kernel
theorem dX12_readsItem_103 : decode cX12_readsItem 103 = .ok (.iastore, 1) := by decide +kernel
theorem dX12_readsItem_104 : decode cX12_readsItem 104 = .ok (.goto 47, 3) := by decide +kernel
theorem dX12_readsItem_107 : decode cX12_readsItem 107 = .ok (.iload_n 1, 1) := by decide +kernel
theorem dX12_readsItem_108 : decode cX12_readsItem 108 = .ok (.iconst 3, 1) := by decide +kernel
theorem dX12_readsItem_109 : decode cX12_readsItem 109 = .ok (.if_icmp .ne 18, 3) := by decide +kernel
theorem dX12_readsItem_112 : decode cX12_readsItem 112 = .ok (.aload_n 0, 1) := by decide +kernel
theorem dX12_readsItem_113 : decode cX12_readsItem 113 = .ok (.getfield 13, 3) := by decide +kernel
theorem dX12_readsItem_116 : decode cX12_readsItem 116 = .ok (.iconst 3, 1) := by decide +kernel
theorem dX12_readsItem_117 : decode cX12_readsItem 117 = .ok (.dup2, 1) := by decide +kernel
theorem dX12_readsItem_118 : decode cX12_readsItem 118 = .ok (.iaload, 1) := by decide +kernel
theorem dX12_readsItem_119 : decode cX12_readsItem 119 = .ok (.iconst 1, 1) := by decide +kernel
theorem dX12_readsItem_120 : decode cX12_readsItem 120 = .ok (.iload_n 2, 1) := by decide +kernel
theorem dX12_readsItem_121 : decode cX12_readsItem 121 = .ok (.ishl, 1) := by decide +kernel
theorem dX12_readsItem_122 : decode cX12_readsItem 122 = .ok (.ior, 1) := by decide +kernel
theorem dX12_readsItem_123 : decode cX12_readsItem 123 = .ok (.iastore, 1) := by decide +kernel
theorem dX12_readsItem_124 : decode cX12_readsItem 124 = .ok (.goto 27, 3) := by decide +kernel
theorem dX12_readsItem_127 : decode cX12_readsItem 127 = .ok (.aload_n 0, 1) := by decide +kernel
theorem dX12_readsItem_128 : decode cX12_readsItem 128 = .ok (.iconst 1, 1) := by decide +kernel
theorem dX12_readsItem_129 : decode cX12_readsItem 129 = .ok (.bipush 9, 2) := by decide +kernel
theorem dX12_readsItem_131 : decode cX12_readsItem 131 = .ok (.invokevirtual 118, 3) := by decide +kernel
theorem dX12_readsItem_134 : decode cX12_readsItem 134 = .ok (.istore_n 3, 1) := by decide +kernel
theorem dX12_readsItem_135 : decode cX12_readsItem 135 = .ok (.iload_n 3, 1) := by decide +kernel
theorem dX12_readsItem_136 : decode cX12_readsItem 136 = .ok (.iconst (-1), 1) := by decide +kernel
theorem dX12_readsItem_137 : decode cX12_readsItem 137 = .ok (.if_icmp .ne 5, 3) := by decide +kernel
theorem dX12_readsItem_140 : decode cX12_readsItem 140 = .ok (.iconst 0, 1) := by decide +kernel
theorem dX12_readsItem_141 : decode cX12_readsItem 141 = .ok (.ireturn, 1) := by decide +kernel
theorem dX12_readsItem_142 : decode cX12_readsItem 142 = .ok (.aload_n 0, 1) := by decide +kernel
theorem dX12_readsItem_143 : decode cX12_readsItem 143 = .ok (.getfield 13, 3) := by decide +kernel
theorem dX12_readsItem_146 : decode cX12_readsItem 146 = .ok (.iconst 4, 1) := by decide +kernel
theorem dX12_readsItem_147 : decode cX12_readsItem 147 = .ok (.iload_n 2, 1) := by decide +kernel
theorem dX12_readsItem_148 : decode cX12_readsItem 148 = .ok (.iadd, 1) := by decide +kernel
theorem dX12_readsItem_149 : decode cX12_readsItem 149 = .ok (.iload_n 3, 1) := by decide +kernel
theorem dX12_readsItem_150 : decode cX12_readsItem 150 = .ok (.iastore, 1) := by decide +kernel
theorem dX12_readsItem_151 : decode cX12_readsItem 151 = .ok (.iconst 1, 1) := by decide +kernel
theorem dX12_readsItem_152 : decode cX12_readsItem 152 = .ok (.ireturn, 1) := by decide +kernel
theorem dX12_reads_0 : decode cX12_reads 0 = .ok (.iconst 0, 1) := by decide +kernel
theorem dX12_reads_1 : decode cX12_reads 1 = .ok (.istore_n 1, 1) := by decide +kernel
theorem dX12_reads_2 : decode cX12_reads 2 = .ok (.iload_n 1, 1) := by decide +kernel
theorem dX12_reads_3 : decode cX12_reads 3 = .ok (.bipush 25, 2) := by decide +kernel
theorem dX12_reads_5 : decode cX12_reads 5 = .ok (.if_icmp .ge 16, 3) := by decide +kernel
theorem dX12_reads_8 : decode cX12_reads 8 = .ok (.aload_n 0, 1) := by decide +kernel
theorem dX12_reads_9 : decode cX12_reads 9 = .ok (.getfield 13, 3) := by decide +kernel
theorem dX12_reads_12 : decode cX12_reads 12 = .ok (.iload_n 1, 1) := by decide +kernel
theorem dX12_reads_13 : decode cX12_reads 13 = .ok (.iconst 0, 1) := by decide +kernel
theorem dX12_reads_14 : decode cX12_reads 14 = .ok (.iastore, 1) := by decide +kernel
theorem dX12_reads_15 : decode cX12_reads 15 = .ok (.iinc 1 1, 3) := by decide +kernel
theorem dX12_reads_18 : decode cX12_reads 18 = .ok (.goto (-16), 3) := by decide +kernel
theorem dX12_reads_21 : decode cX12_reads 21 = .ok (.aload_n 0, 1) := by decide +kernel
theorem dX12_reads_22 : decode cX12_reads 22 = .ok (.getfield 13, 3) := by decide +kernel
theorem dX12_reads_25 : decode cX12_reads 25 = .ok (.iconst 4, 1) := by decide +kernel
theorem dX12_reads_26 : decode cX12_reads 26 = .ok (.iconst 1, 1) := by decide +kernel
theorem dX12_reads_27 : decode cX12_reads 27 = .ok (.iastore, 1) := by decide +kernel
theorem dX12_reads_28 : decode cX12_reads 28 = .ok (.aload_n 0, 1) := by decide +kernel
theorem dX12_reads_29 : decode cX12_reads 29 = .ok (.getfield 13, 3) := by decide +kernel
theorem dX12_reads_32 : decode cX12_reads 32 = .ok (.iconst 5, 1) := by decide +kernel
theorem dX12_reads_33 : decode cX12_reads 33 = .ok (.iconst 1, 1) := by decide +kernel
theorem dX12_reads_34 : decode cX12_reads 34 = .ok (.iastore, 1) := by decide +kernel
theorem dX12_reads_35 : decode cX12_reads 35 = .ok (.aload_n 0, 1) := by decide +kernel
theorem dX12_reads_36 : decode cX12_reads 36 = .ok (.iconst 0, 1) := by decide +kernel
theorem dX12_reads_37 : decode cX12_reads 37 = .ok (.putfield 82, 3) := by decide +kernel
theorem dX12_reads_40 : decode cX12_reads 40 = .ok (.aload_n 0, 1) := by decide +kernel
theorem dX12_reads_41 : decode cX12_reads 41 = .ok (.invokevirtual 115, 3) := by decide +kernel
theorem dX12_reads_44 : decode cX12_reads 44 = .ok (.iconst 1, 1) := by decide +kernel
theorem dX12_reads_45 : decode cX12_reads 45 = .ok (.istore_n 1, 1) := by decide +kernel
theorem dX12_reads_46 : decode cX12_reads 46 = .ok (.iload_n 1, 1) := by decide +kernel
theorem dX12_reads_47 : decode cX12_reads 47 = .ok (.ifCond .ne 10, 3) := by decide +kernel
theorem dX12_reads_50 : decode cX12_reads 50 = .ok (.aload_n 0, 1) := by decide +kernel
theorem dX12_reads_51 : decode cX12_reads 51 = .ok (.getfield 95, 3) := by decide +kernel
theorem dX12_reads_54 : decode cX12_reads 54 = .ok (.ifCond .eq 59, 3) := by decide +kernel
theorem dX12_reads_57 : decode cX12_reads 57 = .ok (.aload_n 0, 1) := by decide +kernel
theorem dX12_reads_58 : decode cX12_reads 58 = .ok (.invokevirtual 128, 3) := by decide +kernel
theorem dX12_reads_61 : decode cX12_reads 61 = .ok (.istore_n 2, 1) := by decide +kernel
theorem dX12_reads_62 : decode cX12_reads 62 = .ok (.iload_n 2, 1) := by decide +kernel
theorem dX12_reads_63 : decode cX12_reads 63 = .ok (.iconst (-1), 1) := by decide +kernel
theorem dX12_reads_64 : decode cX12_reads 64 = .ok (.if_icmp .eq 24, 3) := by decide +kernel
theorem dX12_reads_67 : decode cX12_reads 67 = .ok (.iload_n 2, 1) := by decide +kernel
theorem dX12_reads_68 : decode cX12_reads 68 = .ok (.ifCond .ne 7, 3) := by decide +kernel
theorem dX12_reads_71 : decode cX12_reads 71 = .ok (.iconst 1, 1) := by decide +kernel
theorem dX12_reads_72 : decode cX12_reads 72 = .ok (.goto 4, 3) := by decide +kernel
theorem dX12_reads_75 : decode cX12_reads 75 = .ok (.iconst 0, 1) := by decide +kernel
theorem dX12_reads_76 : decode cX12_reads 76 = .ok (.iload_n 1, 1) := by decide +kernel
theorem dX12_reads_77 : decode cX12_reads 77 = .ok (.if_icmp .ne 11, 3) := by decide +kernel
theorem dX12_reads_80 : decode cX12_reads 80 = .ok (.aload_n 0, 1) := by decide +kernel
theorem dX12_reads_81 : decode cX12_reads 81 = .ok (.iload_n 2, 1) := by decide +kernel
theorem dX12_reads_82 : decode cX12_reads 82 = .ok (.invokevirtual 131, 3) := by decide +kernel
theorem dX12_reads_85 : decode cX12_reads 85 = .ok (.ifCond .ne 5, 3) := by decide +kernel
theorem dX12_reads_88 : decode cX12_reads 88 = .ok (.iconst 0, 1) := by decide +kernel
theorem dX12_reads_89 : decode cX12_reads 89 = .ok (.ireturn, 1) := by decide +kernel
theorem dX12_reads_90 : decode cX12_reads 90 = .ok (.aload_n 0, 1) := by decide +kernel
theorem dX12_reads_91 : decode cX12_reads 91 = .ok (.invokevirtual 115, 3) := by decide +kernel
theorem dX12_reads_94 : decode cX12_reads 94 = .ok (.aload_n 0, 1) := by decide +kernel
theorem dX12_reads_95 : decode cX12_reads 95 = .ok (.getfield 95, 3) := by decide +kernel
theorem dX12_reads_98 : decode cX12_reads 98 = .ok (.iconst 3, 1) := by decide +kernel
theorem dX12_reads_99 : decode cX12_reads 99 = .ok (.if_icmp .eq 5, 3) := by decide +kernel
theorem dX12_reads_102 : decode cX12_reads 102 = .ok (.iconst 0, 1) := by decide +kernel
theorem dX12_reads_103 : decode cX12_reads 103 = .ok (.ireturn, 1) := by decide +kernel
theorem dX12_reads_104 : decode cX12_reads 104 = .ok (.iconst 0, 1) := by decide +kernel
theorem dX12_reads_105 : decode cX12_reads 105 = .ok (.istore_n 1, 1) := by decide +kernel
theorem dX12_reads_106 : decode cX12_reads 106 = .ok (.aload_n 0, 1) := by decide +kernel
theorem dX12_reads_107 : decode cX12_reads 107 = .ok (.invokevirtual 115, 3) := by decide +kernel
theorem dX12_reads_110 : decode cX12_reads 110 = .ok (.goto (-64), 3) := by decide +kernel
theorem dX12_reads_113 : decode cX12_reads 113 = .ok (.iconst 1, 1) := by decide +kernel
theorem dX12_reads_114 : decode cX12_reads 114 = .ok (.ireturn, 1) := by decide +kernel
theorem dX12_read_0 : decode cX12_read 0 = .ok (.aload_n 0, 1) := by decide +kernel
theorem dX12_read_1 : decode cX12_read 1 = .ok (.invokevirtual 134, 3) := by decide +kernel
theorem dX12_read_4 : decode cX12_read 4 = .ok (.ifCond .ne 11, 3) := by decide +kernel
theorem dX12_read_7 : decode cX12_read 7 = .ok (.bipush (-10), 2) := by decide +kernel
theorem dX12_read_9 : decode cX12_read 9 = .ok (.aload_n 0, 1) := by decide +kernel
theorem dX12_read_10 : decode cX12_read 10 = .ok (.getfield 89, 3) := by decide +kernel
theorem dX12_read_13 : decode cX12_read 13 = .ok (.isub, 1) := by decide +kernel
theorem dX12_read_14 : decode cX12_read 14 = .ok (.ireturn, 1) := by decide +kernel
theorem dX12_read_15 : decode cX12_read 15 = .ok (.iconst 0, 1) := by decide +kernel
theorem dX12_read_16 : decode cX12_read 16 = .ok (.istore_n 1, 1) := by decide +kernel
theorem dX12_read_17 : decode cX12_read 17 = .ok (.iload_n 1, 1) := by decide +kernel
theorem dX12_read_18 : decode cX12_read 18 = .ok (.bipush 25, 2) := by decide +kernel
theorem dX12_read_20 : decode cX12_read 20 = .ok (.if_icmp .ge 21, 3) := by decide +kernel
theorem dX12_read_23 : decode cX12_read 23 = .ok (.aload_n 0, 1) := by decide +kernel
theorem dX12_read_24 : decode cX12_read 24 = .ok (.getfield 7, 3) := by decide +kernel
theorem dX12_read_27 : decode cX12_read 27 = .ok (.iload_n 1, 1) := by decide +kernel
theorem dX12_read_28 : decode cX12_read 28 = .ok (.aload_n 0, 1) := by decide +kernel
theorem dX12_read_29 : decode cX12_read 29 = .ok (.getfield 13, 3) := by decide +kernel
theorem dX12_read_32 : decode cX12_read 32 = .ok (.iload_n 1, 1) := by decide +kernel
theorem dX12_read_33 : decode cX12_read 33 = .ok (.iaload, 1) := by decide +kernel
theorem dX12_read_34 : decode cX12_read 34 = .ok (.iastore, 1) := by decide +kernel
theorem dX12_read_35 : decode cX12_read 35 = .ok (.iinc 1 1, 3) := by decide +kernel
theorem dX12_read_38 : decode cX12_read 38 = .ok (.goto (-21), 3) := by decide +kernel
theorem dX12_read_41 : decode cX12_read 41 = .ok (.aload_n 0, 1) := by decide +kernel
theorem dX12_read_42 : decode cX12_read 42 = .ok (.getfield 7, 3) := by decide +kernel
theorem dX12_read_45 : decode cX12_read 45 = .ok (.bipush 6, 2) := by decide +kernel
theorem dX12_read_47 : decode cX12_read 47 = .ok (.iaload, 1) := by decide +kernel
theorem dX12_read_48 : decode cX12_read 48 = .ok (.ireturn, 1) := by decide +kernel
theorem dX12_step_0 : decode cX12_step 0 = .ok (.iload_n 1, 1) := by decide +kernel
theorem dX12_step_1 : decode cX12_step 1 = .ok (.iconst 3, 1) := by decide +kernel
theorem dX12_step_2 : decode cX12_step 2 = .ok (.iload_n 2, 1) := by decide +kernel
theorem dX12_step_3 : decode cX12_step 3 = .ok (.imul, 1) := by decide +kernel
theorem dX12_step_4 : decode cX12_step 4 = .ok (.ishr, 1) := by decide +kernel
theorem dX12_step_5 : decode cX12_step 5 = .ok (.bipush 7, 2) := by decide +kernel
theorem dX12_step_7 : decode cX12_step 7 = .ok (.iand, 1) := by decide +kernel
theorem dX12_step_8 : decode cX12_step 8 = .ok (.istore_n 3, 1) := by decide +kernel
theorem dX12_step_9 : decode cX12_step 9 = .ok (.aload_n 0, 1) := by decide +kernel
theorem dX12_step_10 : decode cX12_step 10 = .ok (.getfield 7, 3) := by decide +kernel
theorem dX12_step_13 : decode cX12_step 13 = .ok (.iconst 1, 1) := by decide +kernel
theorem dX12_step_14 : decode cX12_step 14 = .ok (.iaload, 1) := by decide +kernel
theorem dX12_step_15 : decode cX12_step 15 = .ok (.iload_n 3, 1) := by decide +kernel
theorem dX12_step_16 : decode cX12_step 16 = .ok (.ishr, 1) := by decide +kernel
theorem dX12_step_17 : decode cX12_step 17 = .ok (.iconst 1, 1) := by decide +kernel
theorem dX12_step_18 : decode cX12_step 18 = .ok (.iand, 1) := by decide +kernel
theorem dX12_step_19 : decode cX12_step 19 = .ok (.iconst 1, 1) := by decide +kernel
theorem dX12_step_20 : decode cX12_step 20 = .ok (.if_icmp .ne 7, 3) := by decide +kernel
theorem dX12_step_23 : decode cX12_step 23 = .ok (.iload_n 2, 1) := by decide +kernel
theorem dX12_step_24 : decode cX12_step 24 = .ok (.goto 4, 3) := by decide +kernel
theorem dX12_step_27 : decode cX12_step 27 = .ok (.iload_n 3, 1) := by decide +kernel
theorem dX12_step_28 : decode cX12_step 28 = .ok (.ireturn, 1) := by decide +kernel
theorem dX12_go_0 : decode cX12_go 0 = .ok (.bipush 7, 2) := by decide +kernel
theorem dX12_go_2 : decode cX12_go 2 = .ok (.bipush 6, 2) := by decide +kernel
theorem dX12_go_4 : decode cX12_go 4 = .ok (.iload_n 1, 1) := by decide +kernel
theorem dX12_go_5 : decode cX12_go 5 = .ok (.imul, 1) := by decide +kernel
theorem dX12_go_6 : decode cX12_go 6 = .ok (.iadd, 1) := by decide +kernel
theorem dX12_go_7 : decode cX12_go 7 = .ok (.istore 5, 2) := by decide +kernel
theorem dX12_go_9 : decode cX12_go 9 = .ok (.aload_n 0, 1) := by decide +kernel
theorem dX12_go_10 : decode cX12_go 10 = .ok (.getfield 7, 3) := by decide +kernel
theorem dX12_go_13 : decode cX12_go 13 = .ok (.iload 5, 2) := by decide +kernel
theorem dX12_go_15 : decode cX12_go 15 = .ok (.iaload, 1) := by decide +kernel
theorem dX12_go_16 : decode cX12_go 16 = .ok (.istore 6, 2) := by decide +kernel
theorem dX12_go_18 : decode cX12_go 18 = .ok (.iload 6, 2) := by decide +kernel
theorem dX12_go_20 : decode cX12_go 20 = .ok (.iconst 1, 1) := by decide +kernel
theorem dX12_go_21 : decode cX12_go 21 = .ok (.if_icmp .ne 11, 3) := by decide +kernel
theorem dX12_go_24 : decode cX12_go 24 = .ok (.iload 4, 2) := by decide +kernel
theorem dX12_go_26 : decode cX12_go 26 = .ok (.iconst 2, 1) := by decide +kernel
theorem dX12_go_27 : decode cX12_go 27 = .ok (.irem, 1) := by decide +kernel
theorem dX12_go_28 : decode cX12_go 28 = .ok (.iconst 1, 1) := by decide +kernel
theorem dX12_go_29 : decode cX12_go 29 = .ok (.if_icmp .eq 16, 3) := by decide +kernel
theorem dX12_go_32 : decode cX12_go 32 = .ok (.iload 6, 2) := by decide +kernel
theorem dX12_go_34 : decode cX12_go 34 = .ok (.iconst 4, 1) := by decide +kernel
theorem dX12_go_35 : decode cX12_go 35 = .ok (.if_icmp .ne 12, 3) := by decide +kernel
theorem dX12_go_38 : decode cX12_go 38 = .ok (.iload 4, 2) := by decide +kernel
theorem dX12_go_40 : decode cX12_go 40 = .ok (.iconst 2, 1) := by decide +kernel
theorem dX12_go_41 : decode cX12_go 41 = .ok (.irem, 1) := by decide +kernel
theorem dX12_go_42 : decode cX12_go 42 = .ok (.ifCond .ne 5, 3) := by decide +kernel
theorem dX12_go_45 : decode cX12_go 45 = .ok (.iload_n 2, 1) := by decide +kernel
theorem dX12_go_46 : decode cX12_go 46 = .ok (.ireturn, 1) := by decide +kernel
theorem dX12_go_47 : decode cX12_go 47 = .ok (.iload 6, 2) := by decide +kernel
theorem dX12_go_49 : decode cX12_go 49 = .ok (.iconst 2, 1) := by decide +kernel
theorem dX12_go_50 : decode cX12_go 50 = .ok (.if_icmp .eq 9, 3) := by decide +kernel
theorem dX12_go_53 : decode cX12_go 53 = .ok (.iload 6, 2) := by decide +kernel
theorem dX12_go_55 : decode cX12_go 55 = .ok (.iconst 3, 1) := by decide +kernel
theorem dX12_go_56 : decode cX12_go 56 = .ok (.if_icmp .ne 21, 3) := by decide +kernel
theorem dX12_go_59 : decode cX12_go 59 = .ok (.iload 4, 2) := by decide +kernel
theorem dX12_go_61 : decode cX12_go 61 = .ok (.aload_n 0, 1) := by decide +kernel
theorem dX12_go_62 : decode cX12_go 62 = .ok (.getfield 7, 3) := by decide +kernel
theorem dX12_go_65 : decode cX12_go 65 = .ok (.iload 5, 2) := by decide +kernel
theorem dX12_go_67 : decode cX12_go 67 = .ok (.iconst 5, 1) := by decide +kernel
theorem dX12_go_68 : decode cX12_go 68 = .ok (.iadd, 1) := by decide +kernel
theorem dX12_go_69 : decode cX12_go 69 = .ok (.iaload, 1) := by decide +kernel
theorem dX12_go_70 : decode cX12_go 70 = .ok (.if_icmp .lt 7, 3) := by decide +kernel
theorem dX12_go_73 : decode cX12_go 73 = .ok (.iconst 1, 1) := by decide +kernel
theorem dX12_go_74 : decode cX12_go 74 = .ok (.goto 4, 3) := by decide +kernel
theorem dX12_go_77 : decode cX12_go 77 = .ok (.iconst 0, 1) := by decide +kernel
theorem dX12_go_78 : decode cX12_go 78 = .ok (.istore 7, 2) := by decide +kernel
theorem dX12_go_80 : decode cX12_go 80 = .ok (.aload_n 0, 1) := by decide +kernel
theorem dX12_go_81 : decode cX12_go 81 = .ok (.getfield 7, 3) := by decide +kernel
theorem dX12_go_84 : decode cX12_go 84 = .ok (.iload 5, 2) := by decide +kernel
theorem dX12_go_86 : decode cX12_go 86 = .ok (.iconst 1, 1) := by decide +kernel
theorem dX12_go_87 : decode cX12_go 87 = .ok (.iadd, 1) := by decide +kernel
theorem dX12_go_88 : decode cX12_go 88 = .ok (.iload_n 3, 1) := by decide +kernel
theorem dX12_go_89 : decode cX12_go 89 = .ok (.iadd, 1) := by decide +kernel
theorem dX12_go_90 : decode cX12_go 90 = .ok (.iload 7, 2) := by decide +kernel
theorem dX12_go_92 : decode cX12_go 92 = .ok (.ifCond .eq 7, 3) := by decide +kernel
theorem dX12_go_95 : decode cX12_go 95 = .ok (.iconst 2, 1) := by decide +kernel
theorem dX12_go_96 : decode cX12_go 96 = .ok (.goto 4, 3) := by decide +kernel
theorem dX12_go_99 : decode cX12_go 99 = .ok (.iconst 0, 1) := by decide +kernel
theorem dX12_go_100 : decode cX12_go 100 = .ok (.iadd, 1) := by decide +kernel
theorem dX12_go_101 : decode cX12_go 101 = .ok (.iaload, 1) := by decide +kernel
theorem dX12_go_102 : decode cX12_go 102 = .ok (.istore 8, 2) := by decide +kernel
theorem dX12_go_104 : decode cX12_go 104 = .ok (.aload_n 0, 1) := by decide +kernel
theorem dX12_go_105 : decode cX12_go 105 = .ok (.iload 8, 2) := by decide +kernel
theorem dX12_go_107 : decode cX12_go 107 = .ok (.iload_n 2, 1) := by decide +kernel
theorem dX12_go_108 : decode cX12_go 108 = .ok (.invokevirtual 137, 3) := by decide +kernel
theorem dX12_go_111 : decode cX12_go 111 = .ok (.istore 9, 2) := by decide +kernel
theorem dX12_go_113 : decode cX12_go 113 = .ok (.iload 7, 2) := by decide +kernel
theorem dX12_go_115 : decode cX12_go 115 = .ok (.ifCond .eq 20, 3) := by decide +kernel
theorem dX12_go_118 : decode cX12_go 118 = .ok (.iload 6, 2) := by decide +kernel
theorem dX12_go_120 : decode cX12_go 120 = .ok (.iconst 3, 1) := by decide +kernel
theorem dX12_go_121 : decode cX12_go 121 = .ok (.if_icmp .ne 14, 3) := by decide +kernel
theorem dX12_go_124 : decode cX12_go 124 = .ok (.aload_n 0, 1) := by decide +kernel
theorem dX12_go_125 : decode cX12_go 125 = .ok (.iload 8, 2) := by decide +kernel
theorem dX12_go_127 : decode cX12_go 127 = .ok (.iload 9, 2) := by decide +kernel
theorem dX12_go_129 : decode cX12_go 129 = .ok (.invokevirtual 137, 3) := by decide +kernel
theorem dX12_go_132 : decode cX12_go 132 = .ok (.goto 5, 3) := by decide +kernel
theorem dX12_go_135 : decode cX12_go 135 = .ok (.iload 9, 2) := by decide +kernel
theorem dX12_go_137 : decode cX12_go 137 = .ok (.ireturn, 1) := by decide +kernel
theorem dX12_goes_0 : decode cX12_goes 0 = .ok (.aload_n 0, 1) := by decide +kernel
theorem dX12_goes_1 : decode cX12_goes 1 = .ok (.iload_n 1, 1) := by decide +kernel
theorem dX12_goes_2 : decode cX12_goes 2 = .ok (.invokevirtual 140, 3) := by decide +kernel
theorem dX12_goes_5 : decode cX12_goes 5 = .ok (.ifCond .eq 43, 3) := by decide +kernel
theorem dX12_goes_8 : decode cX12_goes 8 = .ok (.aload_n 0, 1) := by decide +kernel
theorem dX12_goes_9 : decode cX12_goes 9 = .ok (.iload_n 2, 1) := by decide +kernel
theorem dX12_goes_10 : decode cX12_goes 10 = .ok (.invokevirtual 73, 3) := by decide +kernel
theorem dX12_goes_13 : decode cX12_goes 13 = .ok (.ifCond .eq 35, 3) := by decide +kernel
theorem dX12_goes_16 : decode cX12_goes 16 = .ok (.iload_n 3, 1) := by decide +kernel
theorem dX12_goes_17 : decode cX12_goes 17 = .ok (.iconst 0, 1) := by decide +kernel
theorem dX12_goes_18 : decode cX12_goes 18 = .ok (.iconst 1, 1) := by decide +kernel
theorem dX12_goes_19 : decode cX12_goes 19 = .ok (.invokestatic 57, 3) := by decide +kernel
theorem dX12_goes_22 : decode cX12_goes 22 = .ok (.ifCond .eq 26, 3) := by decide +kernel
theorem dX12_goes_25 : decode cX12_goes 25 = .ok (.iload 4, 2) := by decide +kernel
theorem dX12_goes_27 : decode cX12_goes 27 = .ok (.iconst 0, 1) := by decide +kernel
theorem dX12_goes_28 : decode cX12_goes 28 = .ok (.bipush 99, 2) := by decide +kernel
theorem dX12_goes_30 : decode cX12_goes 30 = .ok (.invokestatic 57, 3) := by decide +kernel
theorem dX12_goes_33 : decode cX12_goes 33 = .ok (.ifCond .eq 15, 3) := by decide +kernel
theorem dX12_goes_36 : decode cX12_goes 36 = .ok (.aload_n 0, 1) := by decide +kernel
theorem dX12_goes_37 : decode cX12_goes 37 = .ok (.iload_n 1, 1) := by decide +kernel
theorem dX12_goes_38 : decode cX12_goes 38 = .ok (.iload_n 2, 1) := by decide +kernel
theorem dX12_goes_39 : decode cX12_goes 39 = .ok (.iload_n 3, 1) := by decide +kernel
theorem dX12_goes_40 : decode cX12_goes 40 = .ok (.iload 4, 2) := by decide +kernel
theorem dX12_goes_42 : decode cX12_goes 42 = .ok (.invokevirtual 143, 3) := by decide +kernel
theorem dX12_goes_45 : decode cX12_goes 45 = .ok (.goto 7, 3) := by decide +kernel
theorem dX12_goes_48 : decode cX12_goes 48 = .ok (.aload_n 0, 1) := by decide +kernel
theorem dX12_goes_49 : decode cX12_goes 49 = .ok (.invokevirtual 61, 3) := by decide +kernel
theorem dX12_goes_52 : decode cX12_goes 52 = .ok (.ireturn, 1) := by decide +kernel
theorem dX12_ran_0 : decode cX12_ran 0 = .ok (.iload_n 2, 1) := by decide +kernel
theorem dX12_ran_1 : decode cX12_ran 1 = .ok (.istore 5, 2) := by decide +kernel
theorem dX12_ran_3 : decode cX12_ran 3 = .ok (.iconst 0, 1) := by decide +kernel
theorem dX12_ran_4 : decode cX12_ran 4 = .ok (.istore 6, 2) := by decide +kernel
theorem dX12_ran_6 : decode cX12_ran 6 = .ok (.iload 6, 2) := by decide +kernel
theorem dX12_ran_8 : decode cX12_ran 8 = .ok (.iload 4, 2) := by decide +kernel
theorem dX12_ran_10 : decode cX12_ran 10 = .ok (.if_icmp .ge 26, 3) := by decide +kernel
theorem dX12_ran_13 : decode cX12_ran 13 = .ok (.aload_n 0, 1) := by decide +kernel
theorem dX12_ran_14 : decode cX12_ran 14 = .ok (.iload_n 1, 1) := by decide +kernel
theorem dX12_ran_15 : decode cX12_ran 15 = .ok (.iload 5, 2) := by decide +kernel
theorem dX12_ran_17 : decode cX12_ran 17 = .ok (.iload_n 3, 1) := by decide +kernel
theorem dX12_ran_18 : decode cX12_ran 18 = .ok (.iload 6, 2) := by decide +kernel
theorem dX12_ran_20 : decode cX12_ran 20 = .ok (.ishr, 1) := by decide +kernel
theorem dX12_ran_21 : decode cX12_ran 21 = .ok (.iconst 1, 1) := by decide +kernel
theorem dX12_ran_22 : decode cX12_ran 22 = .ok (.iand, 1) := by decide +kernel
theorem dX12_ran_23 : decode cX12_ran 23 = .ok (.iload 6, 2) := by decide +kernel
theorem dX12_ran_25 : decode cX12_ran 25 = .ok (.invokevirtual 143, 3) := by decide +kernel
theorem dX12_ran_28 : decode cX12_ran 28 = .ok (.istore 5, 2) := by decide +kernel
theorem dX12_ran_30 : decode cX12_ran 30 = .ok (.iinc 6 1, 3) := by decide +kernel
theorem dX12_ran_33 : decode cX12_ran 33 = .ok (.goto (-27), 3) := by decide +kernel
theorem dX12_ran_36 : decode cX12_ran 36 = .ok (.iload 5, 2) := by decide +kernel
theorem dX12_ran_38 : decode cX12_ran 38 = .ok (.ireturn, 1) := by decide +kernel
theorem dX12_run_0 : decode cX12_run 0 = .ok (.aload_n 0, 1) := by decide +kernel
theorem dX12_run_1 : decode cX12_run 1 = .ok (.iload_n 1, 1) := by decide +kernel
theorem dX12_run_2 : decode cX12_run 2 = .ok (.invokevirtual 140, 3) := by decide +kernel
theorem dX12_run_5 : decode cX12_run 5 = .ok (.ifCond .eq 44, 3) := by decide +kernel
theorem dX12_run_8 : decode cX12_run 8 = .ok (.aload_n 0, 1) := by decide +kernel
theorem dX12_run_9 : decode cX12_run 9 = .ok (.iload_n 2, 1) := by decide +kernel
theorem dX12_run_10 : decode cX12_run 10 = .ok (.invokevirtual 73, 3) := by decide +kernel
theorem dX12_run_13 : decode cX12_run 13 = .ok (.ifCond .eq 36, 3) := by decide +kernel
theorem dX12_run_16 : decode cX12_run 16 = .ok (.iload 4, 2) := by decide +kernel
theorem dX12_run_18 : decode cX12_run 18 = .ok (.iconst 0, 1) := by decide +kernel
theorem dX12_run_19 : decode cX12_run 19 = .ok (.bipush 20, 2) := by decide +kernel
theorem dX12_run_21 : decode cX12_run 21 = .ok (.invokestatic 57, 3) := by decide +kernel
theorem dX12_run_24 : decode cX12_run 24 = .ok (.ifCond .eq 25, 3) := by decide +kernel
theorem dX12_run_27 : decode cX12_run 27 = .ok (.aload_n 0, 1) := by decide +kernel
theorem dX12_run_28 : decode cX12_run 28 = .ok (.iload_n 3, 1) := by decide +kernel
theorem dX12_run_29 : decode cX12_run 29 = .ok (.iload 4, 2) := by decide +kernel
theorem dX12_run_31 : decode cX12_run 31 = .ok (.invokevirtual 147, 3) := by decide +kernel
theorem dX12_run_34 : decode cX12_run 34 = .ok (.ifCond .eq 15, 3) := by decide +kernel
theorem dX12_run_37 : decode cX12_run 37 = .ok (.aload_n 0, 1) := by decide +kernel
theorem dX12_run_38 : decode cX12_run 38 = .ok (.iload_n 1, 1) := by decide +kernel
theorem dX12_run_39 : decode cX12_run 39 = .ok (.iload_n 2, 1) := by decide +kernel
theorem dX12_run_40 : decode cX12_run 40 = .ok (.iload_n 3, 1) := by decide +kernel
theorem dX12_run_41 : decode cX12_run 41 = .ok (.iload 4, 2) := by decide +kernel
theorem dX12_run_43 : decode cX12_run 43 = .ok (.invokevirtual 151, 3) := by decide +kernel
theorem dX12_run_46 : decode cX12_run 46 = .ok (.goto 7, 3) := by decide +kernel
theorem dX12_run_49 : decode cX12_run 49 = .ok (.aload_n 0, 1) := by decide +kernel
theorem dX12_run_50 : decode cX12_run 50 = .ok (.invokevirtual 61, 3) := by decide +kernel
theorem dX12_run_53 : decode cX12_run 53 = .ok (.ireturn, 1) := by decide +kernel
theorem dX12_meets_0 : decode cX12_meets 0 = .ok (.aload_n 0, 1) := by decide +kernel
theorem dX12_meets_1 : decode cX12_meets 1 = .ok (.iload_n 1, 1) := by decide +kernel
theorem dX12_meets_2 : decode cX12_meets 2 = .ok (.invokevirtual 140, 3) := by decide +kernel
theorem dX12_meets_5 : decode cX12_meets 5 = .ok (.ifCond .eq 22, 3) := by decide +kernel
theorem dX12_meets_8 : decode cX12_meets 8 = .ok (.iload_n 3, 1) := by decide +kernel
theorem dX12_meets_9 : decode cX12_meets 9 = .ok (.iconst 0, 1) := by decide +kernel
theorem dX12_meets_10 : decode cX12_meets 10 = .ok (.bipush 20, 2) := by decide +kernel
theorem dX12_meets_12 : decode cX12_meets 12 = .ok (.invokestatic 57, 3) := by decide +kernel
theorem dX12_meets_15 : decode cX12_meets 15 = .ok (.ifCond .eq 12, 3) := by decide +kernel
theorem dX12_meets_18 : decode cX12_meets 18 = .ok (.aload_n 0, 1) := by decide +kernel
theorem dX12_meets_19 : decode cX12_meets 19 = .ok (.iload_n 2, 1) := by decide +kernel
theorem dX12_meets_20 : decode cX12_meets 20 = .ok (.iload_n 3, 1) := by decide +kernel
theorem dX12_meets_21 : decode cX12_meets 21 = .ok (.invokevirtual 147, 3) := by decide +kernel
theorem dX12_meets_24 : decode cX12_meets 24 = .ok (.ifCond .ne 8, 3) := by decide +kernel
theorem dX12_meets_27 : decode cX12_meets 27 = .ok (.aload_n 0, 1) := by decide +kernel
theorem dX12_meets_28 : decode cX12_meets 28 = .ok (.invokevirtual 61, 3) := by decide +kernel
theorem dX12_meets_31 : decode cX12_meets 31 = .ok (.ireturn, 1) := by decide +kernel
theorem dX12_meets_32 : decode cX12_meets 32 = .ok (.iconst 0, 1) := by decide +kernel
theorem dX12_meets_33 : decode cX12_meets 33 = .ok (.istore 4, 2) := by decide +kernel
theorem dX12_meets_35 : decode cX12_meets 35 = .ok (.iconst 0, 1) := by decide +kernel
theorem dX12_meets_36 : decode cX12_meets 36 = .ok (.istore 5, 2) := by decide +kernel
theorem dX12_meets_38 : decode cX12_meets 38 = .ok (.iload 5, 2) := by decide +kernel
theorem dX12_meets_40 : decode cX12_meets 40 = .ok (.aload_n 0, 1) := by decide +kernel
theorem dX12_meets_41 : decode cX12_meets 41 = .ok (.getfield 7, 3) := by decide +kernel
theorem dX12_meets_44 : decode cX12_meets 44 = .ok (.iconst 0, 1) := by decide +kernel
theorem dX12_meets_45 : decode cX12_meets 45 = .ok (.iaload, 1) := by decide +kernel
theorem dX12_meets_46 : decode cX12_meets 46 = .ok (.if_icmp .ge 25, 3) := by decide +kernel
theorem dX12_meets_49 : decode cX12_meets 49 = .ok (.iload 4, 2) := by decide +kernel
theorem dX12_meets_51 : decode cX12_meets 51 = .ok (.iconst 1, 1) := by decide +kernel
theorem dX12_meets_52 : decode cX12_meets 52 = .ok (.aload_n 0, 1) := by decide +kernel
theorem dX12_meets_53 : decode cX12_meets 53 = .ok (.iload_n 1, 1) := by decide +kernel
theorem dX12_meets_54 : decode cX12_meets 54 = .ok (.iload 5, 2) := by decide +kernel
theorem dX12_meets_56 : decode cX12_meets 56 = .ok (.iload_n 2, 1) := by decide +kernel
theorem dX12_meets_57 : decode cX12_meets 57 = .ok (.iload_n 3, 1) := by decide +kernel
theorem dX12_meets_58 : decode cX12_meets 58 = .ok (.invokevirtual 151, 3) := by decide +kernel
theorem dX12_meets_61 : decode cX12_meets 61 = .ok (.ishl, 1) := by decide +kernel
theorem dX12_meets_62 : decode cX12_meets 62 = .ok (.ior, 1) := by decide +kernel
theorem dX12_meets_63 : decode cX12_meets 63 = .ok (.istore 4, 2) := by decide +kernel
theorem dX12_meets_65 : decode cX12_meets 65 = .ok (.iinc 5 1, 3) := by decide +kernel
theorem dX12_meets_68 : decode cX12_meets 68 = .ok (.goto (-30), 3) := by decide +kernel
theorem dX12_meets_71 : decode cX12_meets 71 = .ok (.iload 4, 2) := by decide +kernel
theorem dX12_meets_73 : decode cX12_meets 73 = .ok (.ireturn, 1) := by decide +kernel
theorem dX12_after_0 : decode cX12_after 0 = .ok (.iconst 0, 1) := by decide +kernel
theorem dX12_after_1 : decode cX12_after 1 = .ok (.istore 4, 2) := by decide +kernel
theorem dX12_after_3 : decode cX12_after 3 = .ok (.iconst 0, 1) := by decide +kernel
theorem dX12_after_4 : decode cX12_after 4 = .ok (.istore 5, 2) := by decide +kernel
theorem dX12_after_6 : decode cX12_after 6 = .ok (.iload 5, 2) := by decide +kernel
theorem dX12_after_8 : decode cX12_after 8 = .ok (.aload_n 0, 1) := by decide +kernel
theorem dX12_after_9 : decode cX12_after 9 = .ok (.getfield 7, 3) := by decide +kernel
theorem dX12_after_12 : decode cX12_after 12 = .ok (.bipush 6, 2) := by decide +kernel
theorem dX12_after_14 : decode cX12_after 14 = .ok (.iaload, 1) := by decide +kernel
theorem dX12_after_15 : decode cX12_after 15 = .ok (.if_icmp .ge 70, 3) := by decide +kernel
theorem dX12_after_18 : decode cX12_after 18 = .ok (.iconst 0, 1) := by decide +kernel
theorem dX12_after_19 : decode cX12_after 19 = .ok (.istore 6, 2) := by decide +kernel
theorem dX12_after_21 : decode cX12_after 21 = .ok (.iload 6, 2) := by decide +kernel
theorem dX12_after_23 : decode cX12_after 23 = .ok (.aload_n 0, 1) := by decide +kernel
theorem dX12_after_24 : decode cX12_after 24 = .ok (.getfield 7, 3) := by decide +kernel
theorem dX12_after_27 : decode cX12_after 27 = .ok (.iconst 0, 1) := by decide +kernel
theorem dX12_after_28 : decode cX12_after 28 = .ok (.iaload, 1) := by decide +kernel
theorem dX12_after_29 : decode cX12_after 29 = .ok (.if_icmp .ge 50, 3) := by decide +kernel
theorem dX12_after_32 : decode cX12_after 32 = .ok (.iload 4, 2) := by decide +kernel
theorem dX12_after_34 : decode cX12_after 34 = .ok (.iload_n 1, 1) := by decide +kernel
theorem dX12_after_35 : decode cX12_after 35 = .ok (.iconst 5, 1) := by decide +kernel
theorem dX12_after_36 : decode cX12_after 36 = .ok (.iload 5, 2) := by decide +kernel
theorem dX12_after_38 : decode cX12_after 38 = .ok (.imul, 1) := by decide +kernel
theorem dX12_after_39 : decode cX12_after 39 = .ok (.iload 6, 2) := by decide +kernel
theorem dX12_after_41 : decode cX12_after 41 = .ok (.iadd, 1) := by decide +kernel
theorem dX12_after_42 : decode cX12_after 42 = .ok (.ishr, 1) := by decide +kernel
theorem dX12_after_43 : decode cX12_after 43 = .ok (.iconst 1, 1) := by decide +kernel
theorem dX12_after_44 : decode cX12_after 44 = .ok (.iand, 1) := by decide +kernel
theorem dX12_after_45 : decode cX12_after 45 = .ok (.iconst 1, 1) := by decide +kernel
theorem dX12_after_46 : decode cX12_after 46 = .ok (.if_icmp .ne 23, 3) := by decide +kernel
