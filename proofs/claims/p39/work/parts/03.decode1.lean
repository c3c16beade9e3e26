theorem dX1_ofNoJob_0 : decode cX1_ofNoJob 0 = .ok (.aload_n 0, 1) := by decide +kernel
theorem dX1_ofNoJob_1 : decode cX1_ofNoJob 1 = .ok (.getstatic 5, 3) := by decide +kernel
theorem dX1_ofNoJob_4 : decode cX1_ofNoJob 4 = .ok (.if_acmp .ne 8, 3) := by decide +kernel
theorem dX1_ofNoJob_7 : decode cX1_ofNoJob 7 = .ok (.ldc 40, 2) := by decide +kernel
theorem dX1_ofNoJob_9 : decode cX1_ofNoJob 9 = .ok (.goto 4, 3) := by decide +kernel
theorem dX1_ofNoJob_12 : decode cX1_ofNoJob 12 = .ok (.iconst 0, 1) := by decide +kernel
theorem dX1_ofNoJob_13 : decode cX1_ofNoJob 13 = .ok (.ireturn, 1) := by decide +kernel
theorem dX1_with_0 : decode cX1_with 0 = .ok (.iload 4, 2) := by decide +kernel
theorem dX1_with_2 : decode cX1_with 2 = .ok (.aload_n 2, 1) := by decide +kernel
theorem dX1_with_3 : decode cX1_with 3 = .ok (.getfield 41, 3) := by decide +kernel
theorem dX1_with_6 : decode cX1_with 6 = .ok (.iload_n 3, 1) := by decide +kernel
theorem dX1_with_7 : decode cX1_with 7 = .ok (.iaload, 1) := by decide +kernel
theorem dX1_with_8 : decode cX1_with 8 = .ok (.isub, 1) := by decide +kernel
theorem dX1_with_9 : decode cX1_with 9 = .ok (.istore 5, 2) := by decide +kernel
theorem dX1_with_11 : decode cX1_with 11 = .ok (.getstatic 47, 3) := by decide +kernel
theorem dX1_with_14 : decode cX1_with 14 = .ok (.aload_n 0, 1) := by decide +kernel
theorem dX1_with_15 : decode cX1_with 15 = .ok (.invokevirtual 52, 3) := by decide +kernel
theorem dX1_with_18 : decode cX1_with 18 = .ok (.iaload, 1) := by decide +kernel
theorem dX1_with_19 : decode cX1_with 19 = .ok (.tableswitch 70 1 5 #[33, 40, 53, 58, 70], 33) := by decide +kernel
theorem dX1_with_52 : decode cX1_with 52 = .ok (.iload_n 1, 1) := by decide +kernel
theorem dX1_with_53 : decode cX1_with 53 = .ok (.iload 5, 2) := by decide +kernel
theorem dX1_with_55 : decode cX1_with 55 = .ok (.invokestatic 56, 3) := by decide +kernel
theorem dX1_with_58 : decode cX1_with 58 = .ok (.ireturn, 1) := by decide +kernel
theorem dX1_with_59 : decode cX1_with 59 = .ok (.iload 5, 2) := by decide +kernel
theorem dX1_with_61 : decode cX1_with 61 = .ok (.ifCond .le 9, 3) := by decide +kernel
theorem dX1_with_64 : decode cX1_with 64 = .ok (.iload_n 1, 1) := by decide +kernel
theorem dX1_with_65 : decode cX1_with 65 = .ok (.iconst 1, 1) := by decide +kernel
theorem dX1_with_66 : decode cX1_with 66 = .ok (.iadd, 1) := by decide +kernel
theorem dX1_with_67 : decode cX1_with 67 = .ok (.goto 4, 3) := by decide +kernel
theorem dX1_with_70 : decode cX1_with 70 = .ok (.iload_n 1, 1) := by decide +kernel
theorem dX1_with_71 : decode cX1_with 71 = .ok (.ireturn, 1) := by decide +kernel
theorem dX1_with_72 : decode cX1_with 72 = .ok (.iload_n 1, 1) := by decide +kernel
theorem dX1_with_73 : decode cX1_with 73 = .ok (.iload 4, 2) := by decide +kernel
theorem dX1_with_75 : decode cX1_with 75 = .ok (.iadd, 1) := by decide +kernel
theorem dX1_with_76 : decode cX1_with 76 = .ok (.ireturn, 1) := by decide +kernel
theorem dX1_with_77 : decode cX1_with 77 = .ok (.iload_n 1, 1) := by decide +kernel
theorem dX1_with_78 : decode cX1_with 78 = .ok (.aload_n 2, 1) := by decide +kernel
theorem dX1_with_79 : decode cX1_with 79 = .ok (.getfield 62, 3) := by decide +kernel
theorem dX1_with_82 : decode cX1_with 82 = .ok (.iload_n 3, 1) := by decide +kernel
theorem dX1_with_83 : decode cX1_with 83 = .ok (.iaload, 1) := by decide +kernel
theorem dX1_with_84 : decode cX1_with 84 = .ok (.iload 4, 2) := by decide +kernel
theorem dX1_with_86 : decode cX1_with 86 = .ok (.imul, 1) := by decide +kernel
theorem dX1_with_87 : decode cX1_with 87 = .ok (.iadd, 1) := by decide +kernel
theorem dX1_with_88 : decode cX1_with 88 = .ok (.ireturn, 1) := by decide +kernel
theorem dX1_with_89 : decode cX1_with 89 = .ok (.iload_n 1, 1) := by decide +kernel
theorem dX1_with_90 : decode cX1_with 90 = .ok (.aload_n 2, 1) := by decide +kernel
theorem dX1_with_91 : decode cX1_with 91 = .ok (.getfield 62, 3) := by decide +kernel
theorem dX1_with_94 : decode cX1_with 94 = .ok (.iload_n 3, 1) := by decide +kernel
theorem dX1_with_95 : decode cX1_with 95 = .ok (.iaload, 1) := by decide +kernel
theorem dX1_with_96 : decode cX1_with 96 = .ok (.iconst 0, 1) := by decide +kernel
theorem dX1_with_97 : decode cX1_with 97 = .ok (.iload 5, 2) := by decide +kernel
theorem dX1_with_99 : decode cX1_with 99 = .ok (.invokestatic 56, 3) := by decide +kernel
theorem dX1_with_102 : decode cX1_with 102 = .ok (.imul, 1) := by decide +kernel
theorem dX1_with_103 : decode cX1_with 103 = .ok (.iadd, 1) := by decide +kernel
theorem dX1_with_104 : decode cX1_with 104 = .ok (.ireturn, 1) := by decide +kernel
theorem dX2_init_0 : decode cX2_init 0 = .ok (.aload_n 0, 1) := by decide +kernel
theorem dX2_init_1 : decode cX2_init 1 = .ok (.invokespecial 3, 3) := by decide +kernel
theorem dX2_init_4 : decode cX2_init 4 = .ok (.aload_n 0, 1) := by decide +kernel
theorem dX2_init_5 : decode cX2_init 5 = .ok (.bipush 10, 2) := by decide +kernel
theorem dX2_init_7 : decode cX2_init 7 = .ok (.newarray .int, 2) := by decide +kernel
theorem dX2_init_9 : decode cX2_init 9 = .ok (.putfield 9, 3) := by decide +kernel
theorem dX2_init_12 : decode cX2_init 12 = .ok (.aload_n 0, 1) := by decide +kernel
theorem dX2_init_13 : decode cX2_init 13 = .ok (.bipush 10, 2) := by decide +kernel
theorem dX2_init_15 : decode cX2_init 15 = .ok (.newarray .int, 2) := by decide +kernel
theorem dX2_init_17 : decode cX2_init 17 = .ok (.putfield 15, 3) := by decide +kernel
theorem dX2_init_20 : decode cX2_init 20 = .ok (.aload_n 0, 1) := by decide +kernel
theorem dX2_init_21 : decode cX2_init 21 = .ok (.bipush 10, 2) := by decide +kernel
theorem dX2_init_23 : decode cX2_init 23 = .ok (.newarray .int, 2) := by decide +kernel
theorem dX2_init_25 : decode cX2_init 25 = .ok (.putfield 18, 3) := by decide +kernel
theorem dX2_init_28 : decode cX2_init 28 = .ok (.aload_n 0, 1) := by decide +kernel
theorem dX2_init_29 : decode cX2_init 29 = .ok (.bipush 10, 2) := by decide +kernel
theorem dX2_init_31 : decode cX2_init 31 = .ok (.newarray .int, 2) := by decide +kernel
theorem dX2_init_33 : decode cX2_init 33 = .ok (.putfield 21, 3) := by decide +kernel
theorem dX2_init_36 : decode cX2_init 36 = .ok (.aload_n 0, 1) := by decide +kernel
theorem dX2_init_37 : decode cX2_init 37 = .ok (.bipush 10, 2) := by decide +kernel
theorem dX2_init_39 : decode cX2_init 39 = .ok (.newarray .int, 2) := by decide +kernel
theorem dX2_init_41 : decode cX2_init 41 = .ok (.putfield 24, 3) := by decide +kernel
theorem dX2_init_44 : decode cX2_init 44 = .ok (.aload_n 0, 1) := by decide +kernel
theorem dX2_init_45 : decode cX2_init 45 = .ok (.iconst 4, 1) := by decide +kernel
theorem dX2_init_46 : decode cX2_init 46 = .ok (.newarray .int, 2) := by decide +kernel
theorem dX2_init_48 : decode cX2_init 48 = .ok (.putfield 27, 3) := by decide +kernel
theorem dX2_init_51 : decode cX2_init 51 = .ok (.return_, 1) := by decide +kernel
theorem dX2_put_0 : decode cX2_put 0 = .ok (.aload_n 0, 1) := by decide +kernel
theorem dX2_put_1 : decode cX2_put 1 = .ok (.getfield 9, 3) := by decide +kernel
theorem dX2_put_4 : decode cX2_put 4 = .ok (.iload_n 1, 1) := by decide +kernel
theorem dX2_put_5 : decode cX2_put 5 = .ok (.iload_n 2, 1) := by decide +kernel
theorem dX2_put_6 : decode cX2_put 6 = .ok (.iastore, 1) := by decide +kernel
theorem dX2_put_7 : decode cX2_put 7 = .ok (.aload_n 0, 1) := by decide +kernel
theorem dX2_put_8 : decode cX2_put 8 = .ok (.getfield 15, 3) := by decide +kernel
theorem dX2_put_11 : decode cX2_put 11 = .ok (.iload_n 1, 1) := by decide +kernel
theorem dX2_put_12 : decode cX2_put 12 = .ok (.iload_n 3, 1) := by decide +kernel
theorem dX2_put_13 : decode cX2_put 13 = .ok (.iastore, 1) := by decide +kernel
theorem dX2_put_14 : decode cX2_put 14 = .ok (.aload_n 0, 1) := by decide +kernel
theorem dX2_put_15 : decode cX2_put 15 = .ok (.getfield 18, 3) := by decide +kernel
theorem dX2_put_18 : decode cX2_put 18 = .ok (.iload_n 1, 1) := by decide +kernel
theorem dX2_put_19 : decode cX2_put 19 = .ok (.iload 4, 2) := by decide +kernel
theorem dX2_put_21 : decode cX2_put 21 = .ok (.iastore, 1) := by decide +kernel
theorem dX2_put_22 : decode cX2_put 22 = .ok (.aload_n 0, 1) := by decide +kernel
theorem dX2_put_23 : decode cX2_put 23 = .ok (.getfield 21, 3) := by decide +kernel
theorem dX2_put_26 : decode cX2_put 26 = .ok (.iload_n 1, 1) := by decide +kernel
theorem dX2_put_27 : decode cX2_put 27 = .ok (.iload 5, 2) := by decide +kernel
theorem dX2_put_29 : decode cX2_put 29 = .ok (.iastore, 1) := by decide +kernel
theorem dX2_put_30 : decode cX2_put 30 = .ok (.aload_n 0, 1) := by decide +kernel
theorem dX2_put_31 : decode cX2_put 31 = .ok (.getfield 24, 3) := by decide +kernel
theorem dX2_put_34 : decode cX2_put 34 = .ok (.iload_n 1, 1) := by decide +kernel
theorem dX2_put_35 : decode cX2_put 35 = .ok (.iload 6, 2) := by decide +kernel
theorem dX2_put_37 : decode cX2_put 37 = .ok (.iastore, 1) := by decide +kernel
theorem dX2_put_38 : decode cX2_put 38 = .ok (.return_, 1) := by decide +kernel
theorem dX2_remove_0 : decode cX2_remove 0 = .ok (.iload_n 1, 1) := by decide +kernel
theorem dX2_remove_1 : decode cX2_remove 1 = .ok (.iconst 1, 1) := by decide +kernel
theorem dX2_remove_2 : decode cX2_remove 2 = .ok (.iadd, 1) := by decide +kernel
theorem dX2_remove_3 : decode cX2_remove 3 = .ok (.istore_n 2, 1) := by decide +kernel
theorem dX2_remove_4 : decode cX2_remove 4 = .ok (.iload_n 2, 1) := by decide +kernel
theorem dX2_remove_5 : decode cX2_remove 5 = .ok (.aload_n 0, 1) := by decide +kernel
theorem dX2_remove_6 : decode cX2_remove 6 = .ok (.getfield 30, 3) := by decide +kernel
theorem dX2_remove_9 : decode cX2_remove 9 = .ok (.if_icmp .ge 46, 3) := by decide +kernel
theorem dX2_remove_12 : decode cX2_remove 12 = .ok (.aload_n 0, 1) := by decide +kernel
theorem dX2_remove_13 : decode cX2_remove 13 = .ok (.iload_n 2, 1) := by decide +kernel
theorem dX2_remove_14 : decode cX2_remove 14 = .ok (.iconst 1, 1) := by decide +kernel
theorem dX2_remove_15 : decode cX2_remove 15 = .ok (.isub, 1) := by decide +kernel
theorem dX2_remove_16 : decode cX2_remove 16 = .ok (.aload_n 0, 1) := by decide +kernel
theorem dX2_remove_17 : decode cX2_remove 17 = .ok (.getfield 9, 3) := by decide +kernel
theorem dX2_remove_20 : decode cX2_remove 20 = .ok (.iload_n 2, 1) := by decide +kernel
theorem dX2_remove_21 : decode cX2_remove 21 = .ok (.iaload, 1) := by decide +kernel
theorem dX2_remove_22 : decode cX2_remove 22 = .ok (.aload_n 0, 1) := by decide +kernel
theorem dX2_remove_23 : decode cX2_remove 23 = .ok (.getfield 15, 3) := by decide +kernel
theorem dX2_remove_26 : decode cX2_remove 26 = .ok (.iload_n 2, 1) := by decide +kernel
theorem dX2_remove_27 : decode cX2_remove 27 = .ok (.iaload, 1) := by decide +kernel
theorem dX2_remove_28 : decode cX2_remove 28 = .ok (.aload_n 0, 1) := by decide +kernel
theorem dX2_remove_29 : decode cX2_remove 29 = .ok (.getfield 18, 3) := by decide +kernel
theorem dX2_remove_32 : decode cX2_remove 32 = .ok (.iload_n 2, 1) := by decide +kernel
theorem dX2_remove_33 : decode cX2_remove 33 = .ok (.iaload, 1) := by decide +kernel
theorem dX2_remove_34 : decode cX2_remove 34 = .ok (.aload_n 0, 1) := by decide +kernel
theorem dX2_remove_35 : decode cX2_remove 35 = .ok (.getfield 21, 3) := by decide +kernel
theorem dX2_remove_38 : decode cX2_remove 38 = .ok (.iload_n 2, 1) := by decide +kernel
theorem dX2_remove_39 : decode cX2_remove 39 = .ok (.iaload, 1) := by decide +kernel
theorem dX2_remove_40 : decode cX2_remove 40 = .ok (.aload_n 0, 1) := by decide +kernel
theorem dX2_remove_41 : decode cX2_remove 41 = .ok (.getfield 24, 3) := by decide +kernel
theorem dX2_remove_44 : decode cX2_remove 44 = .ok (.iload_n 2, 1) := by decide +kernel
theorem dX2_remove_45 : decode cX2_remove 45 = .ok (.iaload, 1) := by decide +kernel
theorem dX2_remove_46 : decode cX2_remove 46 = .ok (.invokevirtual 34, 3) := by decide +kernel
theorem dX2_remove_49 : decode cX2_remove 49 = .ok (.iinc 2 1, 3) := by decide +kernel
theorem dX2_remove_52 : decode cX2_remove 52 = .ok (.goto (-48), 3) := by decide +kernel
theorem dX2_remove_55 : decode cX2_remove 55 = .ok (.aload_n 0, 1) := by decide +kernel
theorem dX2_remove_56 : decode cX2_remove 56 = .ok (.dup, 1) := by decide +kernel
theorem dX2_remove_57 : decode cX2_remove 57 = .ok (.getfield 30, 3) := by decide +kernel
theorem dX2_remove_60 : decode cX2_remove 60 = .ok (.iconst 1, 1) := by decide +kernel
theorem dX2_remove_61 : decode cX2_remove 61 = .ok (.isub, 1) := by decide +kernel
theorem dX2_remove_62 : decode cX2_remove 62 = .ok (.putfield 30, 3) := by decide +kernel
theorem dX2_remove_65 : decode cX2_remove 65 = .ok (.return_, 1) := by decide +kernel
theorem dX2_all_0 : decode cX2_all 0 = .ok (.iconst 1, 1) := by decide +kernel
theorem dX2_all_1 : decode cX2_all 1 = .ok (.aload_n 0, 1) := by decide +kernel
theorem dX2_all_2 : decode cX2_all 2 = .ok (.getfield 30, 3) := by decide +kernel
theorem dX2_all_5 : decode cX2_all 5 = .ok (.ishl, 1) := by decide +kernel
theorem dX2_all_6 : decode cX2_all 6 = .ok (.iconst 1, 1) := by decide +kernel
theorem dX2_all_7 : decode cX2_all 7 = .ok (.isub, 1) := by decide +kernel
theorem dX2_all_8 : decode cX2_all 8 = .ok (.ireturn, 1) := by decide +kernel
theorem dX2_isIn_0 : decode cX2_isIn 0 = .ok (.iload_n 1, 1) := by decide +kernel
theorem dX2_isIn_1 : decode cX2_isIn 1 = .ok (.iload_n 2, 1) := by decide +kernel
theorem dX2_isIn_2 : decode cX2_isIn 2 = .ok (.ishr, 1) := by decide +kernel
theorem dX2_isIn_3 : decode cX2_isIn 3 = .ok (.iconst 1, 1) := by decide +kernel
theorem dX2_isIn_4 : decode cX2_isIn 4 = .ok (.iand, 1) := by decide +kernel
theorem dX2_isIn_5 : decode cX2_isIn 5 = .ok (.ifCond .eq 7, 3) := by decide +kernel
theorem dX2_isIn_8 : decode cX2_isIn 8 = .ok (.iconst 1, 1) := by decide +kernel
theorem dX2_isIn_9 : decode cX2_isIn 9 = .ok (.goto 4, 3) := by decide +kernel
theorem dX2_isIn_12 : decode cX2_isIn 12 = .ok (.iconst 0, 1) := by decide +kernel
theorem dX2_isIn_13 : decode cX2_isIn 13 = .ok (.ireturn, 1) := by decide +kernel
theorem dX2_lengthOfSet_0 : decode cX2_lengthOfSet 0 = .ok (.iconst 0, 1) := by decide +kernel
theorem dX2_lengthOfSet_1 : decode cX2_lengthOfSet 1 = .ok (.istore_n 2, 1) := by decide +kernel
theorem dX2_lengthOfSet_2 : decode cX2_lengthOfSet 2 = .ok (.iconst 0, 1) := by decide +kernel
theorem dX2_lengthOfSet_3 : decode cX2_lengthOfSet 3 = .ok (.istore_n 3, 1) := by decide +kernel
theorem dX2_lengthOfSet_4 : decode cX2_lengthOfSet 4 = .ok (.iload_n 3, 1) := by decide +kernel
theorem dX2_lengthOfSet_5 : decode cX2_lengthOfSet 5 = .ok (.aload_n 0, 1) := by decide +kernel
theorem dX2_lengthOfSet_6 : decode cX2_lengthOfSet 6 = .ok (.getfield 30, 3) := by decide +kernel
theorem dX2_lengthOfSet_9 : decode cX2_lengthOfSet 9 = .ok (.if_icmp .ge 27, 3) := by decide +kernel
theorem dX2_lengthOfSet_12 : decode cX2_lengthOfSet 12 = .ok (.aload_n 0, 1) := by decide +kernel
theorem dX2_lengthOfSet_13 : decode cX2_lengthOfSet 13 = .ok (.iload_n 1, 1) := by decide +kernel
theorem dX2_lengthOfSet_14 : decode cX2_lengthOfSet 14 = .ok (.iload_n 3, 1) := by decide +kernel
theorem dX2_lengthOfSet_15 : decode cX2_lengthOfSet 15 = .ok (.invokevirtual 38, 3) := by decide +kernel
theorem dX2_lengthOfSet_18 : decode cX2_lengthOfSet 18 = .ok (.ifCond .eq 12, 3) := by decide +kernel
theorem dX2_lengthOfSet_21 : decode cX2_lengthOfSet 21 = .ok (.iload_n 2, 1) := by decide +kernel
theorem dX2_lengthOfSet_22 : decode cX2_lengthOfSet 22 = .ok (.aload_n 0, 1) := by decide +kernel
theorem dX2_lengthOfSet_23 : decode cX2_lengthOfSet 23 = .ok (.getfield 9, 3) := by decide +kernel
theorem dX2_lengthOfSet_26 : decode cX2_lengthOfSet 26 = .ok (.iload_n 3, 1) := by decide +kernel
theorem dX2_lengthOfSet_27 : decode cX2_lengthOfSet 27 = .ok (.iaload, 1) := by decide +kernel
theorem dX2_lengthOfSet_28 : decode cX2_lengthOfSet 28 = .ok (.iadd, 1) := by decide +kernel
theorem dX2_lengthOfSet_29 : decode cX2_lengthOfSet 29 = .ok (.istore_n 2, 1) := by decide +kernel
theorem dX2_lengthOfSet_30 : decode cX2_lengthOfSet 30 = .ok (.iinc 3 1, 3) := by decide +kernel
theorem dX2_lengthOfSet_33 : decode cX2_lengthOfSet 33 = .ok (.goto (-29), 3) := by decide +kernel
theorem dX2_lengthOfSet_36 : decode cX2_lengthOfSet 36 = .ok (.iload_n 2, 1) := by decide +kernel
theorem dX2_lengthOfSet_37 : decode cX2_lengthOfSet 37 = .ok (.ireturn, 1) := by decide +kernel
theorem dX2_setupBehind_0 : decode cX2_setupBehind 0 = .ok (.aload_n 0, 1) := by decide +kernel
theorem dX2_setupBehind_1 : decode cX2_setupBehind 1 = .ok (.getfield 24, 3) := by decide +kernel
theorem dX2_setupBehind_4 : decode cX2_setupBehind 4 = .ok (.iload_n 2, 1) := by decide +kernel
theorem dX2_setupBehind_5 : decode cX2_setupBehind 5 = .ok (.iaload, 1) := by decide +kernel
theorem dX2_setupBehind_6 : decode cX2_setupBehind 6 = .ok (.iload_n 1, 1) := by decide +kernel
theorem dX2_setupBehind_7 : decode cX2_setupBehind 7 = .ok (.if_icmp .ne 7, 3) := by decide +kernel
theorem dX2_setupBehind_10 : decode cX2_setupBehind 10 = .ok (.iconst 0, 1) := by decide +kernel
theorem dX2_setupBehind_11 : decode cX2_setupBehind 11 = .ok (.goto 14, 3) := by decide +kernel
theorem dX2_setupBehind_14 : decode cX2_setupBehind 14 = .ok (.aload_n 0, 1) := by decide +kernel
theorem dX2_setupBehind_15 : decode cX2_setupBehind 15 = .ok (.getfield 27, 3) := by decide +kernel
theorem dX2_setupBehind_18 : decode cX2_setupBehind 18 = .ok (.aload_n 0, 1) := by decide +kernel
theorem dX2_setupBehind_19 : decode cX2_setupBehind 19 = .ok (.getfield 24, 3) := by decide +kernel
theorem dX2_setupBehind_22 : decode cX2_setupBehind 22 = .ok (.iload_n 2, 1) := by decide +kernel
theorem dX2_setupBehind_23 : decode cX2_setupBehind 23 = .ok (.iaload, 1) := by decide +kernel
theorem dX2_setupBehind_24 : decode cX2_setupBehind 24 = .ok (.iaload, 1) := by decide +kernel
theorem dX2_setupBehind_25 : decode cX2_setupBehind 25 = .ok (.ireturn, 1) := by decide +kernel
theorem dX2_fillInOrder_0 : decode cX2_fillInOrder 0 = .ok (.iconst 0, 1) := by decide +kernel
theorem dX2_fillInOrder_1 : decode cX2_fillInOrder 1 = .ok (.istore_n 3, 1) := by decide +kernel
theorem dX2_fillInOrder_2 : decode cX2_fillInOrder 2 = .ok (.iload_n 3, 1) := by decide +kernel
theorem dX2_fillInOrder_3 : decode cX2_fillInOrder 3 = .ok (.aload_n 0, 1) := by decide +kernel
theorem dX2_fillInOrder_4 : decode cX2_fillInOrder 4 = .ok (.getfield 30, 3) := by decide +kernel
theorem dX2_fillInOrder_7 : decode cX2_fillInOrder 7 = .ok (.if_icmp .ge 53, 3) := by decide +kernel
theorem dX2_fillInOrder_10 : decode cX2_fillInOrder 10 = .ok (.iload_n 3, 1) := by decide +kernel
theorem dX2_fillInOrder_11 : decode cX2_fillInOrder 11 = .ok (.istore 4, 2) := by decide +kernel
theorem dX2_fillInOrder_13 : decode cX2_fillInOrder 13 = .ok (.iload 4, 2) := by decide +kernel
theorem dX2_fillInOrder_15 : decode cX2_fillInOrder 15 = .ok (.ifCond .le 34, 3) := by decide +kernel
theorem dX2_fillInOrder_18 : decode cX2_fillInOrder 18 = .ok (.aload_n 2, 1) := by decide +kernel
theorem dX2_fillInOrder_19 : decode cX2_fillInOrder 19 = .ok (.aload_n 0, 1) := by decide +kernel
theorem dX2_fillInOrder_20 : decode cX2_fillInOrder 20 = .ok (.aload_n 1, 1) := by decide +kernel
theorem dX2_fillInOrder_21 : decode cX2_fillInOrder 21 = .ok (.iload 4, 2) := by decide +kernel
theorem dX2_fillInOrder_23 : decode cX2_fillInOrder 23 = .ok (.iconst 1, 1) := by decide +kernel
theorem dX2_fillInOrder_24 : decode cX2_fillInOrder 24 = .ok (.isub, 1) := by decide +kernel
theorem dX2_fillInOrder_25 : decode cX2_fillInOrder 25 = .ok (.iaload, 1) := by decide +kernel
theorem dX2_fillInOrder_26 : decode cX2_fillInOrder 26 = .ok (.iload_n 3, 1) := by decide +kernel
theorem dX2_fillInOrder_27 : decode cX2_fillInOrder 27 = .ok (.invokevirtual 42, 3) := by decide +kernel
theorem dX2_fillInOrder_30 : decode cX2_fillInOrder 30 = .ok (.ifCond .eq 19, 3) := by decide +kernel
theorem dX2_fillInOrder_33 : decode cX2_fillInOrder 33 = .ok (.aload_n 1, 1) := by decide +kernel
theorem dX2_fillInOrder_34 : decode cX2_fillInOrder 34 = .ok (.iload 4, 2) := by decide +kernel
theorem dX2_fillInOrder_36 : decode cX2_fillInOrder 36 = .ok (.aload_n 1, 1) := by decide +kernel
theorem dX2_fillInOrder_37 : decode cX2_fillInOrder 37 = .ok (.iload 4, 2) := by decide +kernel
theorem dX2_fillInOrder_39 : decode cX2_fillInOrder 39 = .ok (.iconst 1, 1) := by decide +kernel
theorem dX2_fillInOrder_40 : decode cX2_fillInOrder 40 = .ok (.isub, 1) := by decide +kernel
theorem dX2_fillInOrder_41 : decode cX2_fillInOrder 41 = .ok (.iaload, 1) := by decide +kernel
theorem dX2_fillInOrder_42 : decode cX2_fillInOrder 42 = .ok (.iastore, 1) := by decide +kernel
theorem dX2_fillInOrder_43 : decode cX2_fillInOrder 43 = .ok (.iinc 4 (-1), 3) := by decide +kernel
theorem dX2_fillInOrder_46 : decode cX2_fillInOrder 46 = .ok (.goto (-33), 3) := by decide +kernel
theorem dX2_fillInOrder_49 : decode cX2_fillInOrder 49 = .ok (.aload_n 1, 1) := by decide +kernel
theorem dX2_fillInOrder_50 : decode cX2_fillInOrder 50 = .ok (.iload 4, 2) := by decide +kernel
theorem dX2_fillInOrder_52 : decode cX2_fillInOrder 52 = .ok (.iload_n 3, 1) := by decide +kernel
theorem dX2_fillInOrder_53 : decode cX2_fillInOrder 53 = .ok (.iastore, 1) := by decide +kernel
theorem dX2_fillInOrder_54 : decode cX2_fillInOrder 54 = .ok (.iinc 3 1, 3) := by decide +kernel
theorem dX2_fillInOrder_57 : decode cX2_fillInOrder 57 = .ok (.goto (-55), 3) := by decide +kernel
theorem dX2_fillInOrder_60 : decode cX2_fillInOrder 60 = .ok (.return_, 1) := by decide +kernel
theorem dX3_putsBehind_0 : decode cX3_putsBehind 0 = .ok (.getstatic 32, 3) := by decide +kernel
theorem dX3_putsBehind_3 : decode cX3_putsBehind 3 = .ok (.aload_n 0, 1) := by decide +kernel
theorem dX3_putsBehind_4 : decode cX3_putsBehind 4 = .ok (.invokevirtual 38, 3) := by decide +kernel
theorem dX3_putsBehind_7 : decode cX3_putsBehind 7 = .ok (.iaload, 1) := by decide +kernel
theorem dX3_putsBehind_8 : decode cX3_putsBehind 8 = .ok (.tableswitch 70 1 3 #[28, 49, 70], 28) := by decide +kernel
theorem dX3_putsBehind_36 : decode cX3_putsBehind 36 = .ok (.aload_n 1, 1) := by decide +kernel
theorem dX3_putsBehind_37 : decode cX3_putsBehind 37 = .ok (.getfield 42, 3) := by decide +kernel
theorem dX3_putsBehind_40 : decode cX3_putsBehind 40 = .ok (.iload_n 2, 1) := by decide +kernel
theorem dX3_putsBehind_41 : decode cX3_putsBehind 41 = .ok (.iaload, 1) := by decide +kernel
theorem dX3_putsBehind_42 : decode cX3_putsBehind 42 = .ok (.aload_n 1, 1) := by decide +kernel
theorem dX3_putsBehind_43 : decode cX3_putsBehind 43 = .ok (.getfield 42, 3) := by decide +kernel
theorem dX3_putsBehind_46 : decode cX3_putsBehind 46 = .ok (.iload_n 3, 1) := by decide +kernel
theorem dX3_putsBehind_47 : decode cX3_putsBehind 47 = .ok (.iaload, 1) := by decide +kernel
theorem dX3_putsBehind_48 : decode cX3_putsBehind 48 = .ok (.if_icmp .le 7, 3) := by decide +kernel
theorem dX3_putsBehind_51 : decode cX3_putsBehind 51 = .ok (.iconst 1, 1) := by decide +kernel
theorem dX3_putsBehind_52 : decode cX3_putsBehind 52 = .ok (.goto 4, 3) := by decide +kernel
theorem dX3_putsBehind_55 : decode cX3_putsBehind 55 = .ok (.iconst 0, 1) := by decide +kernel
theorem dX3_putsBehind_56 : decode cX3_putsBehind 56 = .ok (.ireturn, 1) := by decide +kernel
theorem dX3_putsBehind_57 : decode cX3_putsBehind 57 = .ok (.aload_n 1, 1) := by decide +kernel
theorem dX3_putsBehind_58 : decode cX3_putsBehind 58 = .ok (.getfield 47, 3) := by decide +kernel
theorem dX3_putsBehind_61 : decode cX3_putsBehind 61 = .ok (.iload_n 2, 1) := by decide +kernel
theorem dX3_putsBehind_62 : decode cX3_putsBehind 62 = .ok (.iaload, 1) := by decide +kernel
theorem dX3_putsBehind_63 : decode cX3_putsBehind 63 = .ok (.aload_n 1, 1) := by decide +kernel
theorem dX3_putsBehind_64 : decode cX3_putsBehind 64 = .ok (.getfield 47, 3) := by decide +kernel
theorem dX3_putsBehind_67 : decode cX3_putsBehind 67 = .ok (.iload_n 3, 1) := by decide +kernel
theorem dX3_putsBehind_68 : decode cX3_putsBehind 68 = .ok (.iaload, 1) := by decide +kernel
theorem dX3_putsBehind_69 : decode cX3_putsBehind 69 = .ok (.if_icmp .le 7, 3) := by decide +kernel
theorem dX3_putsBehind_72 : decode cX3_putsBehind 72 = .ok (.iconst 1, 1) := by decide +kernel
theorem dX3_putsBehind_73 : decode cX3_putsBehind 73 = .ok (.goto 4, 3) := by decide +kernel
theorem dX3_putsBehind_76 : decode cX3_putsBehind 76 = .ok (.iconst 0, 1) := by decide +kernel
theorem dX3_putsBehind_77 : decode cX3_putsBehind 77 = .ok (.ireturn, 1) := by decide +kernel
theorem dX3_putsBehind_78 : decode cX3_putsBehind 78 = .ok (.aload_n 1, 1) := by decide +kernel
theorem dX3_putsBehind_79 : decode cX3_putsBehind 79 = .ok (.getfield 50, 3) := by decide +kernel
theorem dX3_putsBehind_82 : decode cX3_putsBehind 82 = .ok (.iload_n 2, 1) := by decide +kernel
theorem dX3_putsBehind_83 : decode cX3_putsBehind 83 = .ok (.iaload, 1) := by decide +kernel
theorem dX3_putsBehind_84 : decode cX3_putsBehind 84 = .ok (.aload_n 1, 1) := by decide +kernel
theorem dX3_putsBehind_85 : decode cX3_putsBehind 85 = .ok (.getfield 53, 3) := by decide +kernel
theorem dX3_putsBehind_88 : decode cX3_putsBehind 88 = .ok (.iload_n 3, 1) := by decide +kernel
theorem dX3_putsBehind_89 : decode cX3_putsBehind 89 = .ok (.iaload, 1) := by decide +kernel
theorem dX3_putsBehind_90 : decode cX3_putsBehind 90 = .ok (.imul, 1) := by decide +kernel
theorem dX3_putsBehind_91 : decode cX3_putsBehind 91 = .ok (.aload_n 1, 1) := by decide +kernel
theorem dX3_putsBehind_92 : decode cX3_putsBehind 92 = .ok (.getfield 50, 3) := by decide +kernel
theorem dX3_putsBehind_95 : decode cX3_putsBehind 95 = .ok (.iload_n 3, 1) := by decide +kernel
theorem dX3_putsBehind_96 : decode cX3_putsBehind 96 = .ok (.iaload, 1) := by decide +kernel
theorem dX3_putsBehind_97 : decode cX3_putsBehind 97 = .ok (.aload_n 1, 1) := by decide +kernel
theorem dX3_putsBehind_98 : decode cX3_putsBehind 98 = .ok (.getfield 53, 3) := by decide +kernel
theorem dX3_putsBehind_101 : decode cX3_putsBehind 101 = .ok (.iload_n 2, 1) := by decide +kernel
theorem dX3_putsBehind_102 : decode cX3_putsBehind 102 = .ok (.iaload, 1) := by decide +kernel
theorem dX3_putsBehind_103 : decode cX3_putsBehind 103 = .ok (.imul, 1) := by decide +kernel
theorem dX3_putsBehind_104 : decode cX3_putsBehind 104 = .ok (.if_icmp .ge 7, 3) := by decide +kernel
theorem dX3_putsBehind_107 : decode cX3_putsBehind 107 = .ok (.iconst 1, 1) := by decide +kernel
theorem dX3_putsBehind_108 : decode cX3_putsBehind 108 = .ok (.goto 4, 3) := by decide +kernel
theorem dX3_putsBehind_111 : decode cX3_putsBehind 111 = .ok (.iconst 0, 1) := by decide +kernel
theorem dX3_putsBehind_112 : decode cX3_putsBehind 112 = .ok (.ireturn, 1) := by decide +kernel
theorem dX4_init_0 : decode cX4_init 0 = .ok (.aload_n 0, 1) := by decide +kernel
theorem dX4_init_1 : decode cX4_init 1 = .ok (.invokespecial 3, 3) := by decide +kernel
theorem dX4_init_4 : decode cX4_init 4 = .ok (.aload_n 0, 1) := by decide +kernel
theorem dX4_init_5 : decode cX4_init 5 = .ok (.bipush 10, 2) := by decide +kernel
theorem dX4_init_7 : decode cX4_init 7 = .ok (.newarray .int, 2) := by decide +kernel
theorem dX4_init_9 : decode cX4_init 9 = .ok (.putfield 9, 3) := by decide +kernel
theorem dX4_init_12 : decode cX4_init 12 = .ok (.aload_n 0, 1) := by decide +kernel
theorem dX4_init_13 : decode cX4_init 13 = .ok (.getstatic 15, 3) := by decide +kernel
theorem dX4_init_16 : decode cX4_init 16 = .ok (.putfield 21, 3) := by decide +kernel
theorem dX4_init_19 : decode cX4_init 19 = .ok (.aload_n 0, 1) := by decide +kernel
theorem dX4_init_20 : decode cX4_init 20 = .ok (.getstatic 24, 3) := by decide +kernel
theorem dX4_init_23 : decode cX4_init 23 = .ok (.putfield 30, 3) := by decide +kernel
theorem dX4_init_26 : decode cX4_init 26 = .ok (.return_, 1) := by decide +kernel
theorem dX4_least_0 : decode cX4_least 0 = .ok (.aload_n 0, 1) := by decide +kernel
theorem dX4_least_1 : decode cX4_least 1 = .ok (.aload_n 2, 1) := by decide +kernel
theorem dX4_least_2 : decode cX4_least 2 = .ok (.putfield 21, 3) := by decide +kernel
theorem dX4_least_5 : decode cX4_least 5 = .ok (.aload_n 0, 1) := by decide +kernel
theorem dX4_least_6 : decode cX4_least 6 = .ok (.aload_n 3, 1) := by decide +kernel
theorem dX4_least_7 : decode cX4_least 7 = .ok (.putfield 30, 3) := by decide +kernel
theorem dX4_least_10 : decode cX4_least 10 = .ok (.aload_n 0, 1) := by decide +kernel
theorem dX4_least_11 : decode cX4_least 11 = .ok (.ldc 33, 2) := by decide +kernel
theorem dX4_least_13 : decode cX4_least 13 = .ok (.putfield 34, 3) := by decide +kernel
theorem dX4_least_16 : decode cX4_least 16 = .ok (.aload_n 1, 1) := by decide +kernel
theorem dX4_least_17 : decode cX4_least 17 = .ok (.aload_n 0, 1) := by decide +kernel
theorem dX4_least_18 : decode cX4_least 18 = .ok (.getfield 9, 3) := by decide +kernel
theorem dX4_least_21 : decode cX4_least 21 = .ok (.getstatic 38, 3) := by decide +kernel
theorem dX4_least_24 : decode cX4_least 24 = .ok (.invokevirtual 44, 3) := by decide +kernel
theorem dX4_least_27 : decode cX4_least 27 = .ok (.aload_n 0, 1) := by decide +kernel
theorem dX4_least_28 : decode cX4_least 28 = .ok (.aload_n 1, 1) := by decide +kernel
theorem dX4_least_29 : decode cX4_least 29 = .ok (.iconst 0, 1) := by decide +kernel
theorem dX4_least_30 : decode cX4_least 30 = .ok (.iconst 4, 1) := by decide +kernel
theorem dX4_least_31 : decode cX4_least 31 = .ok (.iconst 0, 1) := by decide +kernel
theorem dX4_least_32 : decode cX4_least 32 = .ok (.aload_n 3, 1) := by decide +kernel
theorem dX4_least_33 : decode cX4_least 33 = .ok (.invokevirtual 50, 3) := by decide +kernel
theorem dX4_least_36 : decode cX4_least 36 = .ok (.iconst 0, 1) := by decide +kernel
theorem dX4_least_37 : decode cX4_least 37 = .ok (.invokestatic 54, 3) := by decide +kernel
theorem dX4_least_40 : decode cX4_least 40 = .ok (.aload_n 0, 1) := by decide +kernel
theorem dX4_least_41 : decode cX4_least 41 = .ok (.getfield 34, 3) := by decide +kernel
theorem dX4_least_44 : decode cX4_least 44 = .ok (.ireturn, 1) := by decide +kernel
theorem dX4_tryAll_0 : decode cX4_tryAll 0 = .ok (.iload 5, 2) := by decide +kernel
theorem dX4_tryAll_2 : decode cX4_tryAll 2 = .ok (.aload_n 0, 1) := by decide +kernel
theorem dX4_tryAll_3 : decode cX4_tryAll 3 = .ok (.getfield 34, 3) := by decide +kernel
theorem dX4_tryAll_6 : decode cX4_tryAll 6 = .ok (.if_icmp .ge 10, 3) := by decide +kernel
theorem dX4_tryAll_9 : decode cX4_tryAll 9 = .ok (.iload 6, 2) := by decide +kernel
theorem dX4_tryAll_11 : decode cX4_tryAll 11 = .ok (.bipush 7, 2) := by decide +kernel
theorem dX4_tryAll_13 : decode cX4_tryAll 13 = .ok (.if_icmp .le 4, 3) := by decide +kernel
theorem dX4_tryAll_16 : decode cX4_tryAll 16 = .ok (.return_, 1) := by decide +kernel
theorem dX4_tryAll_17 : decode cX4_tryAll 17 = .ok (.iload_n 2, 1) := by decide +kernel
theorem dX4_tryAll_18 : decode cX4_tryAll 18 = .ok (.aload_n 1, 1) := by decide +kernel
theorem dX4_tryAll_19 : decode cX4_tryAll 19 = .ok (.invokevirtual 58, 3) := by decide +kernel
theorem dX4_tryAll_22 : decode cX4_tryAll 22 = .ok (.if_icmp .ne 10, 3) := by decide +kernel
theorem dX4_tryAll_25 : decode cX4_tryAll 25 = .ok (.aload_n 0, 1) := by decide +kernel
theorem dX4_tryAll_26 : decode cX4_tryAll 26 = .ok (.iload 5, 2) := by decide +kernel
theorem dX4_tryAll_28 : decode cX4_tryAll 28 = .ok (.putfield 34, 3) := by decide +kernel
theorem dX4_tryAll_31 : decode cX4_tryAll 31 = .ok (.return_, 1) := by decide +kernel
theorem dX4_tryAll_32 : decode cX4_tryAll 32 = .ok (.iconst 0, 1) := by decide +kernel
theorem dX4_tryAll_33 : decode cX4_tryAll 33 = .ok (.istore 7, 2) := by decide +kernel
theorem dX4_tryAll_35 : decode cX4_tryAll 35 = .ok (.iload 7, 2) := by decide +kernel
theorem dX4_tryAll_37 : decode cX4_tryAll 37 = .ok (.aload_n 1, 1) := by decide +kernel
theorem dX4_tryAll_38 : decode cX4_tryAll 38 = .ok (.getfield 61, 3) := by decide +kernel
theorem dX4_tryAll_41 : decode cX4_tryAll 41 = .ok (.if_icmp .ge 74, 3) := by decide +kernel
theorem dX4_tryAll_44 : decode cX4_tryAll 44 = .ok (.aload_n 1, 1) := by decide +kernel
theorem dX4_tryAll_45 : decode cX4_tryAll 45 = .ok (.iload_n 2, 1) := by decide +kernel
theorem dX4_tryAll_46 : decode cX4_tryAll 46 = .ok (.iload 7, 2) := by decide +kernel
theorem dX4_tryAll_48 : decode cX4_tryAll 48 = .ok (.invokevirtual 64, 3) := by decide +kernel
theorem dX4_tryAll_51 : decode cX4_tryAll 51 = .ok (.ifCond .ne 58, 3) := by decide +kernel
theorem dX4_tryAll_54 : decode cX4_tryAll 54 = .ok (.aload_n 0, 1) := by decide +kernel
theorem dX4_tryAll_55 : decode cX4_tryAll 55 = .ok (.aload_n 1, 1) := by decide +kernel
theorem dX4_tryAll_56 : decode cX4_tryAll 56 = .ok (.iload_n 2, 1) := by decide +kernel
theorem dX4_tryAll_57 : decode cX4_tryAll 57 = .ok (.iload_n 3, 1) := by decide +kernel
theorem dX4_tryAll_58 : decode cX4_tryAll 58 = .ok (.iload 4, 2) := by decide +kernel
theorem dX4_tryAll_60 : decode cX4_tryAll 60 = .ok (.iload 7, 2) := by decide +kernel
theorem dX4_tryAll_62 : decode cX4_tryAll 62 = .ok (.invokevirtual 68, 3) := by decide +kernel
theorem dX4_tryAll_65 : decode cX4_tryAll 65 = .ok (.istore 8, 2) := by decide +kernel
theorem dX4_tryAll_67 : decode cX4_tryAll 67 = .ok (.aload_n 0, 1) := by decide +kernel
theorem dX4_tryAll_68 : decode cX4_tryAll 68 = .ok (.getfield 30, 3) := by decide +kernel
theorem dX4_tryAll_71 : decode cX4_tryAll 71 = .ok (.iload 5, 2) := by decide +kernel
theorem dX4_tryAll_73 : decode cX4_tryAll 73 = .ok (.aload_n 1, 1) := by decide +kernel
theorem dX4_tryAll_74 : decode cX4_tryAll 74 = .ok (.iload 7, 2) := by decide +kernel
theorem dX4_tryAll_76 : decode cX4_tryAll 76 = .ok (.iload 8, 2) := by decide +kernel
theorem dX4_tryAll_78 : decode cX4_tryAll 78 = .ok (.invokevirtual 72, 3) := by decide +kernel
theorem dX4_tryAll_81 : decode cX4_tryAll 81 = .ok (.istore 9, 2) := by decide +kernel
theorem dX4_tryAll_83 : decode cX4_tryAll 83 = .ok (.aload_n 0, 1) := by decide +kernel
theorem dX4_tryAll_84 : decode cX4_tryAll 84 = .ok (.aload_n 1, 1) := by decide +kernel
theorem dX4_tryAll_85 : decode cX4_tryAll 85 = .ok (.iload_n 2, 1) := by decide +kernel
theorem dX4_tryAll_86 : decode cX4_tryAll 86 = .ok (.iconst 1, 1) := by decide +kernel
theorem dX4_tryAll_87 : decode cX4_tryAll 87 = .ok (.iload 7, 2) := by decide +kernel
theorem dX4_tryAll_89 : decode cX4_tryAll 89 = .ok (.ishl, 1) := by decide +kernel
theorem dX4_tryAll_90 : decode cX4_tryAll 90 = .ok (.ior, 1) := by decide +kernel
theorem dX4_tryAll_91 : decode cX4_tryAll 91 = .ok (.aload_n 1, 1) := by decide +kernel
theorem dX4_tryAll_92 : decode cX4_tryAll 92 = .ok (.getfield 76, 3) := by decide +kernel
theorem dX4_tryAll_95 : decode cX4_tryAll 95 = .ok (.iload 7, 2) := by decide +kernel
theorem dX4_tryAll_97 : decode cX4_tryAll 97 = .ok (.iaload, 1) := by decide +kernel
theorem dX4_tryAll_98 : decode cX4_tryAll 98 = .ok (.iload 8, 2) := by decide +kernel
theorem dX4_tryAll_100 : decode cX4_tryAll 100 = .ok (.iload 9, 2) := by decide +kernel
theorem dX4_tryAll_102 : decode cX4_tryAll 102 = .ok (.iload 6, 2) := by decide +kernel
theorem dX4_tryAll_104 : decode cX4_tryAll 104 = .ok (.iconst 1, 1) := by decide +kernel
theorem dX4_tryAll_105 : decode cX4_tryAll 105 = .ok (.iadd, 1) := by decide +kernel
theorem dX4_tryAll_106 : decode cX4_tryAll 106 = .ok (.invokestatic 54, 3) := by decide +kernel
theorem dX4_tryAll_109 : decode cX4_tryAll 109 = .ok (.iinc 7 1, 3) := by decide +kernel
theorem dX4_tryAll_112 : decode cX4_tryAll 112 = .ok (.goto (-77), 3) := by decide +kernel
theorem dX4_tryAll_115 : decode cX4_tryAll 115 = .ok (.return_, 1) := by decide +kernel
theorem dX4_endBehind_0 : decode cX4_endBehind 0 = .ok (.getstatic 79, 3) := by decide +kernel
theorem dX4_endBehind_3 : decode cX4_endBehind 3 = .ok (.aload_n 0, 1) := by decide +kernel
theorem dX4_endBehind_4 : decode cX4_endBehind 4 = .ok (.getfield 21, 3) := by decide +kernel
theorem dX4_endBehind_7 : decode cX4_endBehind 7 = .ok (.invokevirtual 84, 3) := by decide +kernel
theorem dX4_endBehind_10 : decode cX4_endBehind 10 = .ok (.iaload, 1) := by decide +kernel
theorem dX4_endBehind_11 : decode cX4_endBehind 11 = .ok (.tableswitch 55 1 3 #[25, 36, 55], 25) := by decide +kernel
theorem dX4_endBehind_36 : decode cX4_endBehind 36 = .ok (.iload 4, 2) := by decide +kernel
theorem dX4_endBehind_38 : decode cX4_endBehind 38 = .ok (.aload_n 1, 1) := by decide +kernel
theorem dX4_endBehind_39 : decode cX4_endBehind 39 = .ok (.getfield 87, 3) := by decide +kernel
theorem dX4_endBehind_42 : decode cX4_endBehind 42 = .ok (.iload 5, 2) := by decide +kernel
theorem dX4_endBehind_44 : decode cX4_endBehind 44 = .ok (.iaload, 1) := by decide +kernel
theorem dX4_endBehind_45 : decode cX4_endBehind 45 = .ok (.iadd, 1) := by decide +kernel
theorem dX4_endBehind_46 : decode cX4_endBehind 46 = .ok (.ireturn, 1) := by decide +kernel
theorem dX4_endBehind_47 : decode cX4_endBehind 47 = .ok (.iload 4, 2) := by decide +kernel
theorem dX4_endBehind_49 : decode cX4_endBehind 49 = .ok (.aload_n 1, 1) := by decide +kernel
theorem dX4_endBehind_50 : decode cX4_endBehind 50 = .ok (.iload_n 3, 1) := by decide +kernel
theorem dX4_endBehind_51 : decode cX4_endBehind 51 = .ok (.iload 5, 2) := by decide +kernel
theorem dX4_endBehind_53 : decode cX4_endBehind 53 = .ok (.invokevirtual 90, 3) := by decide +kernel
theorem dX4_endBehind_56 : decode cX4_endBehind 56 = .ok (.iadd, 1) := by decide +kernel
theorem dX4_endBehind_57 : decode cX4_endBehind 57 = .ok (.aload_n 1, 1) := by decide +kernel
theorem dX4_endBehind_58 : decode cX4_endBehind 58 = .ok (.getfield 87, 3) := by decide +kernel
theorem dX4_endBehind_61 : decode cX4_endBehind 61 = .ok (.iload 5, 2) := by decide +kernel
theorem dX4_endBehind_63 : decode cX4_endBehind 63 = .ok (.iaload, 1) := by decide +kernel
theorem dX4_endBehind_64 : decode cX4_endBehind 64 = .ok (.iadd, 1) := by decide +kernel
theorem dX4_endBehind_65 : decode cX4_endBehind 65 = .ok (.ireturn, 1) := by decide +kernel
theorem dX4_endBehind_66 : decode cX4_endBehind 66 = .ok (.aload_n 0, 1) := by decide +kernel
theorem dX4_endBehind_67 : decode cX4_endBehind 67 = .ok (.aload_n 1, 1) := by decide +kernel
theorem dX4_endBehind_68 : decode cX4_endBehind 68 = .ok (.iload_n 2, 1) := by decide +kernel
theorem dX4_endBehind_69 : decode cX4_endBehind 69 = .ok (.iload 5, 2) := by decide +kernel
theorem dX4_endBehind_71 : decode cX4_endBehind 71 = .ok (.invokevirtual 94, 3) := by decide +kernel
theorem dX4_endBehind_74 : decode cX4_endBehind 74 = .ok (.ireturn, 1) := by decide +kernel
theorem dX4_endInGaps_0 : decode cX4_endInGaps 0 = .ok (.aload_n 1, 1) := by decide +kernel
theorem dX4_endInGaps_1 : decode cX4_endInGaps 1 = .ok (.getfield 87, 3) := by decide +kernel
theorem dX4_endInGaps_4 : decode cX4_endInGaps 4 = .ok (.iload_n 3, 1) := by decide +kernel
theorem dX4_endInGaps_5 : decode cX4_endInGaps 5 = .ok (.iaload, 1) := by decide +kernel
theorem dX4_endInGaps_6 : decode cX4_endInGaps 6 = .ok (.istore 4, 2) := by decide +kernel
theorem dX4_endInGaps_8 : decode cX4_endInGaps 8 = .ok (.iconst 0, 1) := by decide +kernel
theorem dX4_endInGaps_9 : decode cX4_endInGaps 9 = .ok (.istore 5, 2) := by decide +kernel
theorem dX4_endInGaps_11 : decode cX4_endInGaps 11 = .ok (.iconst 0, 1) := by decide +kernel
theorem dX4_endInGaps_12 : decode cX4_endInGaps 12 = .ok (.istore 6, 2) := by decide +kernel
theorem dX4_endInGaps_14 : decode cX4_endInGaps 14 = .ok (.iload 6, 2) := by decide +kernel
theorem dX4_endInGaps_16 : decode cX4_endInGaps 16 = .ok (.aload_n 1, 1) := by decide +kernel
theorem dX4_endInGaps_17 : decode cX4_endInGaps 17 = .ok (.getfield 61, 3) := by decide +kernel
theorem dX4_endInGaps_20 : decode cX4_endInGaps 20 = .ok (.if_icmp .ge 99, 3) := by decide +kernel
theorem dX4_endInGaps_23 : decode cX4_endInGaps 23 = .ok (.aload_n 0, 1) := by decide +kernel
theorem dX4_endInGaps_24 : decode cX4_endInGaps 24 = .ok (.getfield 9, 3) := by decide +kernel
theorem dX4_endInGaps_27 : decode cX4_endInGaps 27 = .ok (.iload 6, 2) := by decide +kernel
theorem dX4_endInGaps_29 : decode cX4_endInGaps 29 = .ok (.iaload, 1) := by decide +kernel
theorem dX4_endInGaps_30 : decode cX4_endInGaps 30 = .ok (.istore 7, 2) := by decide +kernel
theorem dX4_endInGaps_32 : decode cX4_endInGaps 32 = .ok (.aload_n 1, 1) := by decide +kernel
theorem dX4_endInGaps_33 : decode cX4_endInGaps 33 = .ok (.iload_n 2, 1) := by decide +kernel
theorem dX4_endInGaps_34 : decode cX4_endInGaps 34 = .ok (.iload 7, 2) := by decide +kernel
theorem dX4_endInGaps_36 : decode cX4_endInGaps 36 = .ok (.invokevirtual 64, 3) := by decide +kernel
theorem dX4_endInGaps_39 : decode cX4_endInGaps 39 = .ok (.ifCond .eq 74, 3) := by decide +kernel
theorem dX4_endInGaps_42 : decode cX4_endInGaps 42 = .ok (.iload 5, 2) := by decide +kernel
theorem dX4_endInGaps_44 : decode cX4_endInGaps 44 = .ok (.aload_n 1, 1) := by decide +kernel
theorem dX4_endInGaps_45 : decode cX4_endInGaps 45 = .ok (.getfield 98, 3) := by decide +kernel
theorem dX4_endInGaps_48 : decode cX4_endInGaps 48 = .ok (.iload_n 3, 1) := by decide +kernel
theorem dX4_endInGaps_49 : decode cX4_endInGaps 49 = .ok (.iaload, 1) := by decide +kernel
theorem dX4_endInGaps_50 : decode cX4_endInGaps 50 = .ok (.invokestatic 101, 3) := by decide +kernel
theorem dX4_endInGaps_53 : decode cX4_endInGaps 53 = .ok (.istore 8, 2) := by decide +kernel
theorem dX4_endInGaps_55 : decode cX4_endInGaps 55 = .ok (.iconst 0, 1) := by decide +kernel
theorem dX4_endInGaps_56 : decode cX4_endInGaps 56 = .ok (.aload_n 1, 1) := by decide +kernel
theorem dX4_endInGaps_57 : decode cX4_endInGaps 57 = .ok (.getfield 98, 3) := by decide +kernel
theorem dX4_endInGaps_60 : decode cX4_endInGaps 60 = .ok (.iload 7, 2) := by decide +kernel
theorem dX4_endInGaps_62 : decode cX4_endInGaps 62 = .ok (.iaload, 1) := by decide +kernel
theorem dX4_endInGaps_63 : decode cX4_endInGaps 63 = .ok (.iload 8, 2) := by decide +kernel
theorem dX4_endInGaps_65 : decode cX4_endInGaps 65 = .ok (.isub, 1) := by decide +kernel
theorem dX4_endInGaps_66 : decode cX4_endInGaps 66 = .ok (.invokestatic 101, 3) := by decide +kernel
theorem dX4_endInGaps_69 : decode cX4_endInGaps 69 = .ok (.istore 9, 2) := by decide +kernel
theorem dX4_endInGaps_71 : decode cX4_endInGaps 71 = .ok (.iload 9, 2) := by decide +kernel
theorem dX4_endInGaps_73 : decode cX4_endInGaps 73 = .ok (.iload 4, 2) := by decide +kernel
theorem dX4_endInGaps_75 : decode cX4_endInGaps 75 = .ok (.if_icmp .lt 9, 3) := by decide +kernel
theorem dX4_endInGaps_78 : decode cX4_endInGaps 78 = .ok (.iload 8, 2) := by decide +kernel
theorem dX4_endInGaps_80 : decode cX4_endInGaps 80 = .ok (.iload 4, 2) := by decide +kernel
theorem dX4_endInGaps_82 : decode cX4_endInGaps 82 = .ok (.iadd, 1) := by decide +kernel
theorem dX4_endInGaps_83 : decode cX4_endInGaps 83 = .ok (.ireturn, 1) := by decide +kernel
theorem dX4_endInGaps_84 : decode cX4_endInGaps 84 = .ok (.iload 4, 2) := by decide +kernel
theorem dX4_endInGaps_86 : decode cX4_endInGaps 86 = .ok (.iload 9, 2) := by decide +kernel
theorem dX4_endInGaps_88 : decode cX4_endInGaps 88 = .ok (.isub, 1) := by decide +kernel
theorem dX4_endInGaps_89 : decode cX4_endInGaps 89 = .ok (.istore 4, 2) := by decide +kernel
theorem dX4_endInGaps_91 : decode cX4_endInGaps 91 = .ok (.iload 5, 2) := by decide +kernel
theorem dX4_endInGaps_93 : decode cX4_endInGaps 93 = .ok (.aload_n 1, 1) := by decide +kernel
theorem dX4_endInGaps_94 : decode cX4_endInGaps 94 = .ok (.getfield 98, 3) := by decide +kernel
theorem dX4_endInGaps_97 : decode cX4_endInGaps 97 = .ok (.iload 7, 2) := by decide +kernel
theorem dX4_endInGaps_99 : decode cX4_endInGaps 99 = .ok (.iaload, 1) := by decide +kernel
theorem dX4_endInGaps_100 : decode cX4_endInGaps 100 = .ok (.invokestatic 101, 3) := by decide +kernel
theorem dX4_endInGaps_103 : decode cX4_endInGaps 103 = .ok (.aload_n 1, 1) := by decide +kernel
theorem dX4_endInGaps_104 : decode cX4_endInGaps 104 = .ok (.getfield 87, 3) := by decide +kernel
theorem dX4_endInGaps_107 : decode cX4_endInGaps 107 = .ok (.iload 7, 2) := by decide +kernel
theorem dX4_endInGaps_109 : decode cX4_endInGaps 109 = .ok (.iaload, 1) := by decide +kernel
theorem dX4_endInGaps_110 : decode cX4_endInGaps 110 = .ok (.iadd, 1) := by decide +kernel
theorem dX4_endInGaps_111 : decode cX4_endInGaps 111 = .ok (.istore 5, 2) := by decide +kernel
theorem dX4_endInGaps_113 : decode cX4_endInGaps 113 = .ok (.iinc 6 1, 3) := by decide +kernel
theorem dX4_endInGaps_116 : decode cX4_endInGaps 116 = .ok (.goto (-102), 3) := by decide +kernel
theorem dX4_endInGaps_119 : decode cX4_endInGaps 119 = .ok (.iload 5, 2) := by decide +kernel
theorem dX4_endInGaps_121 : decode cX4_endInGaps 121 = .ok (.aload_n 1, 1) := by decide +kernel
theorem dX4_endInGaps_122 : decode cX4_endInGaps 122 = .ok (.getfield 98, 3) := by decide +kernel
theorem dX4_endInGaps_125 : decode cX4_endInGaps 125 = .ok (.iload_n 3, 1) := by decide +kernel
theorem dX4_endInGaps_126 : decode cX4_endInGaps 126 = .ok (.iaload, 1) := by decide +kernel
theorem dX4_endInGaps_127 : decode cX4_endInGaps 127 = .ok (.invokestatic 101, 3) := by decide +kernel
theorem dX4_endInGaps_130 : decode cX4_endInGaps 130 = .ok (.iload 4, 2) := by decide +kernel
theorem dX4_endInGaps_132 : decode cX4_endInGaps 132 = .ok (.iadd, 1) := by decide +kernel
theorem dX4_endInGaps_133 : decode cX4_endInGaps 133 = .ok (.ireturn, 1) := by decide +kernel
theorem dX5_init_0 : decode cX5_init 0 = .ok (.aload_n 0, 1) := by decide +kernel
theorem dX5_init_1 : decode cX5_init 1 = .ok (.invokespecial 3, 3) := by decide +kernel
theorem dX5_init_4 : decode cX5_init 4 = .ok (.aload_n 0, 1) := by decide +kernel
theorem dX5_init_5 : decode cX5_init 5 = .ok (.bipush 20, 2) := by decide +kernel
theorem dX5_init_7 : decode cX5_init 7 = .ok (.newarray .int, 2) := by decide +kernel
theorem dX5_init_9 : decode cX5_init 9 = .ok (.putfield 9, 3) := by decide +kernel
theorem dX5_init_12 : decode cX5_init 12 = .ok (.aload_n 0, 1) := by decide +kernel
theorem dX5_init_13 : decode cX5_init 13 = .ok (.bipush 20, 2) := by decide +kernel
theorem dX5_init_15 : decode cX5_init 15 = .ok (.newarray .int, 2) := by decide +kernel
theorem dX5_init_17 : decode cX5_init 17 = .ok (.putfield 15, 3) := by decide +kernel
theorem dX5_init_20 : decode cX5_init 20 = .ok (.aload_n 0, 1) := by decide +kernel
theorem dX5_init_21 : decode cX5_init 21 = .ok (.bipush 20, 2) := by decide +kernel
theorem dX5_init_23 : decode cX5_init 23 = .ok (.newarray .int, 2) := by decide +kernel
theorem dX5_init_25 : decode cX5_init 25 = .ok (.putfield 18, 3) := by decide +kernel
theorem dX5_init_28 : decode cX5_init 28 = .ok (.aload_n 0, 1) := by decide +kernel
theorem dX5_init_29 : decode cX5_init 29 = .ok (.bipush 10, 2) := by decide +kernel
theorem dX5_init_31 : decode cX5_init 31 = .ok (.newarray .int, 2) := by decide +kernel
theorem dX5_init_33 : decode cX5_init 33 = .ok (.putfield 21, 3) := by decide +kernel
theorem dX5_init_36 : decode cX5_init 36 = .ok (.return_, 1) := by decide +kernel
theorem dX5_drop_0 : decode cX5_drop 0 = .ok (.aload_n 0, 1) := by decide +kernel
theorem dX5_drop_1 : decode cX5_drop 1 = .ok (.iconst 0, 1) := by decide +kernel
theorem dX5_drop_2 : decode cX5_drop 2 = .ok (.putfield 24, 3) := by decide +kernel
theorem dX5_drop_5 : decode cX5_drop 5 = .ok (.aload_n 0, 1) := by decide +kernel
theorem dX5_drop_6 : decode cX5_drop 6 = .ok (.iconst 0, 1) := by decide +kernel
theorem dX5_drop_7 : decode cX5_drop 7 = .ok (.putfield 28, 3) := by decide +kernel
theorem dX5_drop_10 : decode cX5_drop 10 = .ok (.return_, 1) := by decide +kernel
theorem dX5_begin_0 : decode cX5_begin 0 = .ok (.aload_n 0, 1) := by decide +kernel
theorem dX5_begin_1 : decode cX5_begin 1 = .ok (.iconst 1, 1) := by decide +kernel
theorem dX5_begin_2 : decode cX5_begin 2 = .ok (.putfield 24, 3) := by decide +kernel
theorem dX5_begin_5 : decode cX5_begin 5 = .ok (.aload_n 0, 1) := by decide +kernel
theorem dX5_begin_6 : decode cX5_begin 6 = .ok (.iconst 0, 1) := by decide +kernel
theorem dX5_begin_7 : decode cX5_begin 7 = .ok (.putfield 28, 3) := by decide +kernel
theorem dX5_begin_10 : decode cX5_begin 10 = .ok (.return_, 1) := by decide +kernel
theorem dX5_now_0 : decode cX5_now 0 = .ok (.aload_n 0, 1) := by decide +kernel
theorem dX5_now_1 : decode cX5_now 1 = .ok (.getfield 28, 3) := by decide +kernel
theorem dX5_now_4 : decode cX5_now 4 = .ok (.ifCond .ne 7, 3) := by decide +kernel
theorem dX5_now_7 : decode cX5_now 7 = .ok (.iconst 0, 1) := by decide +kernel
theorem dX5_now_8 : decode cX5_now 8 = .ok (.goto 14, 3) := by decide +kernel
theorem dX5_now_11 : decode cX5_now 11 = .ok (.aload_n 0, 1) := by decide +kernel
theorem dX5_now_12 : decode cX5_now 12 = .ok (.getfield 18, 3) := by decide +kernel
theorem dX5_now_15 : decode cX5_now 15 = .ok (.aload_n 0, 1) := by decide +kernel
theorem dX5_now_16 : decode cX5_now 16 = .ok (.getfield 28, 3) := by decide +kernel
theorem dX5_now_19 : decode cX5_now 19 = .ok (.iconst 1, 1) := by decide +kernel
theorem dX5_now_20 : decode cX5_now 20 = .ok (.isub, 1) := by decide +kernel
theorem dX5_now_21 : decode cX5_now 21 = .ok (.iaload, 1) := by decide +kernel
theorem dX5_now_22 : decode cX5_now 22 = .ok (.ireturn, 1) := by decide +kernel
theorem dX5_addWork_0 : decode cX5_addWork 0 = .ok (.aload_n 0, 1) := by decide +kernel
theorem dX5_addWork_1 : decode cX5_addWork 1 = .ok (.iconst 0, 1) := by decide +kernel
theorem dX5_addWork_2 : decode cX5_addWork 2 = .ok (.iload_n 1, 1) := by decide +kernel
theorem dX5_addWork_3 : decode cX5_addWork 3 = .ok (.iload_n 2, 1) := by decide +kernel
theorem dX5_addWork_4 : decode cX5_addWork 4 = .ok (.invokevirtual 32, 3) := by decide +kernel
theorem dX5_addWork_7 : decode cX5_addWork 7 = .ok (.aload_n 0, 1) := by decide +kernel
theorem dX5_addWork_8 : decode cX5_addWork 8 = .ok (.getfield 21, 3) := by decide +kernel
theorem dX5_addWork_11 : decode cX5_addWork 11 = .ok (.iload_n 1, 1) := by decide +kernel
theorem dX5_addWork_12 : decode cX5_addWork 12 = .ok (.aload_n 0, 1) := by decide +kernel
theorem dX5_addWork_13 : decode cX5_addWork 13 = .ok (.invokevirtual 36, 3) := by decide +kernel
theorem dX5_addWork_16 : decode cX5_addWork 16 = .ok (.iastore, 1) := by decide +kernel
theorem dX5_addWork_17 : decode cX5_addWork 17 = .ok (.return_, 1) := by decide +kernel
theorem dX5_add_0 : decode cX5_add 0 = .ok (.aload_n 0, 1) := by decide +kernel
theorem dX5_add_1 : decode cX5_add 1 = .ok (.invokevirtual 36, 3) := by decide +kernel
theorem dX5_add_4 : decode cX5_add 4 = .ok (.iload_n 3, 1) := by decide +kernel
theorem dX5_add_5 : decode cX5_add 5 = .ok (.iadd, 1) := by decide +kernel
theorem dX5_add_6 : decode cX5_add 6 = .ok (.istore 4, 2) := by decide +kernel
theorem dX5_add_8 : decode cX5_add 8 = .ok (.aload_n 0, 1) := by decide +kernel
theorem dX5_add_9 : decode cX5_add 9 = .ok (.getfield 28, 3) := by decide +kernel
theorem dX5_add_12 : decode cX5_add 12 = .ok (.ifCond .le 37, 3) := by decide +kernel
theorem dX5_add_15 : decode cX5_add 15 = .ok (.aload_n 0, 1) := by decide +kernel
theorem dX5_add_16 : decode cX5_add 16 = .ok (.getfield 9, 3) := by decide +kernel
theorem dX5_add_19 : decode cX5_add 19 = .ok (.aload_n 0, 1) := by decide +kernel
theorem dX5_add_20 : decode cX5_add 20 = .ok (.getfield 28, 3) := by decide +kernel
theorem dX5_add_23 : decode cX5_add 23 = .ok (.iconst 1, 1) := by decide +kernel
theorem dX5_add_24 : decode cX5_add 24 = .ok (.isub, 1) := by decide +kernel
theorem dX5_add_25 : decode cX5_add 25 = .ok (.iaload, 1) := by decide +kernel
theorem dX5_add_26 : decode cX5_add 26 = .ok (.iload_n 1, 1) := by decide +kernel
theorem dX5_add_27 : decode cX5_add 27 = .ok (.if_icmp .ne 22, 3) := by decide +kernel
theorem dX5_add_30 : decode cX5_add 30 = .ok (.aload_n 0, 1) := by decide +kernel
theorem dX5_add_31 : decode cX5_add 31 = .ok (.getfield 15, 3) := by decide +kernel
theorem dX5_add_34 : decode cX5_add 34 = .ok (.aload_n 0, 1) := by decide +kernel
theorem dX5_add_35 : decode cX5_add 35 = .ok (.getfield 28, 3) := by decide +kernel
theorem dX5_add_38 : decode cX5_add 38 = .ok (.iconst 1, 1) := by decide +kernel
theorem dX5_add_39 : decode cX5_add 39 = .ok (.isub, 1) := by decide +kernel
theorem dX5_add_40 : decode cX5_add 40 = .ok (.iaload, 1) := by decide +kernel
theorem dX5_add_41 : decode cX5_add 41 = .ok (.iload_n 2, 1) := by decide +kernel
theorem dX5_add_42 : decode cX5_add 42 = .ok (.if_icmp .ne 7, 3) := by decide +kernel
theorem dX5_add_45 : decode cX5_add 45 = .ok (.iconst 1, 1) := by decide +kernel
theorem dX5_add_46 : decode cX5_add 46 = .ok (.goto 4, 3) := by decide +kernel
theorem dX5_add_49 : decode cX5_add 49 = .ok (.iconst 0, 1) := by decide +kernel
theorem dX5_add_50 : decode cX5_add 50 = .ok (.istore 5, 2) := by decide +kernel
theorem dX5_add_52 : decode cX5_add 52 = .ok (.iload 5, 2) := by decide +kernel
theorem dX5_add_54 : decode cX5_add 54 = .ok (.ifCond .eq 19, 3) := by decide +kernel
theorem dX5_add_57 : decode cX5_add 57 = .ok (.aload_n 0, 1) := by decide +kernel
theorem dX5_add_58 : decode cX5_add 58 = .ok (.getfield 18, 3) := by decide +kernel
theorem dX5_add_61 : decode cX5_add 61 = .ok (.aload_n 0, 1) := by decide +kernel
theorem dX5_add_62 : decode cX5_add 62 = .ok (.getfield 28, 3) := by decide +kernel
theorem dX5_add_65 : decode cX5_add 65 = .ok (.iconst 1, 1) := by decide +kernel
theorem dX5_add_66 : decode cX5_add 66 = .ok (.isub, 1) := by decide +kernel
theorem dX5_add_67 : decode cX5_add 67 = .ok (.iload 4, 2) := by decide +kernel
theorem dX5_add_69 : decode cX5_add 69 = .ok (.iastore, 1) := by decide +kernel
theorem dX5_add_70 : decode cX5_add 70 = .ok (.goto 57, 3) := by decide +kernel
theorem dX5_add_73 : decode cX5_add 73 = .ok (.iload_n 3, 1) := by decide +kernel
theorem dX5_add_74 : decode cX5_add 74 = .ok (.ifCond .le 53, 3) := by decide +kernel
theorem dX5_add_77 : decode cX5_add 77 = .ok (.aload_n 0, 1) := by decide +kernel
theorem dX5_add_78 : decode cX5_add 78 = .ok (.getfield 28, 3) := by decide +kernel
theorem dX5_add_81 : decode cX5_add 81 = .ok (.bipush 20, 2) := by decide +kernel
theorem dX5_add_83 : decode cX5_add 83 = .ok (.if_icmp .ge 44, 3) := by decide +kernel
theorem dX5_add_86 : decode cX5_add 86 = .ok (.aload_n 0, 1) := by decide +kernel
theorem dX5_add_87 : decode cX5_add 87 = .ok (.getfield 9, 3) := by decide +kernel
theorem dX5_add_90 : decode cX5_add 90 = .ok (.aload_n 0, 1) := by decide +kernel
theorem dX5_add_91 : decode cX5_add 91 = .ok (.getfield 28, 3) := by decide +kernel
theorem dX5_add_94 : decode cX5_add 94 = .ok (.iload_n 1, 1) := by decide +kernel
theorem dX5_add_95 : decode cX5_add 95 = .ok (.iastore, 1) := by decide +kernel
theorem dX5_add_96 : decode cX5_add 96 = .ok (.aload_n 0, 1) := by decide +kernel
theorem dX5_add_97 : decode cX5_add 97 = .ok (.getfield 15, 3) := by decide +kernel
theorem dX5_add_100 : decode cX5_add 100 = .ok (.aload_n 0, 1) := by decide +kernel
theorem dX5_add_101 : decode cX5_add 101 = .ok (.getfield 28, 3) := by decide +kernel
theorem dX5_add_104 : decode cX5_add 104 = .ok (.iload_n 2, 1) := by decide +kernel
theorem dX5_add_105 : decode cX5_add 105 = .ok (.iastore, 1) := by decide +kernel
theorem dX5_add_106 : decode cX5_add 106 = .ok (.aload_n 0, 1) := by decide +kernel
theorem dX5_add_107 : decode cX5_add 107 = .ok (.getfield 18, 3) := by decide +kernel
theorem dX5_add_110 : decode cX5_add 110 = .ok (.aload_n 0, 1) := by decide +kernel
theorem dX5_add_111 : decode cX5_add 111 = .ok (.getfield 28, 3) := by decide +kernel
theorem dX5_add_114 : decode cX5_add 114 = .ok (.iload 4, 2) := by decide +kernel
theorem dX5_add_116 : decode cX5_add 116 = .ok (.iastore, 1) := by decide +kernel
theorem dX5_add_117 : decode cX5_add 117 = .ok (.aload_n 0, 1) := by decide +kernel
theorem dX5_add_118 : decode cX5_add 118 = .ok (.dup, 1) := by decide +kernel
theorem dX5_add_119 : decode cX5_add 119 = .ok (.getfield 28, 3) := by decide +kernel
theorem dX5_add_122 : decode cX5_add 122 = .ok (.iconst 1, 1) := by decide +kernel
theorem dX5_add_123 : decode cX5_add 123 = .ok (.iadd, 1) := by decide +kernel
theorem dX5_add_124 : decode cX5_add 124 = .ok (.putfield 28, 3) := by decide +kernel
theorem dX5_add_127 : decode cX5_add 127 = .ok (.return_, 1) := by decide +kernel
theorem dX5_follow_0 : decode cX5_follow 0 = .ok (.aload_n 0, 1) := by decide +kernel
theorem dX5_follow_1 : decode cX5_follow 1 = .ok (.invokevirtual 40, 3) := by decide +kernel
theorem dX5_follow_4 : decode cX5_follow 4 = .ok (.iconst 4, 1) := by decide +kernel
theorem dX5_follow_5 : decode cX5_follow 5 = .ok (.istore 4, 2) := by decide +kernel
theorem dX5_follow_7 : decode cX5_follow 7 = .ok (.iconst 0, 1) := by decide +kernel
theorem dX5_follow_8 : decode cX5_follow 8 = .ok (.istore 5, 2) := by decide +kernel
theorem dX5_follow_10 : decode cX5_follow 10 = .ok (.iload 5, 2) := by decide +kernel
theorem dX5_follow_12 : decode cX5_follow 12 = .ok (.aload_n 1, 1) := by decide +kernel
theorem dX5_follow_13 : decode cX5_follow 13 = .ok (.getfield 43, 3) := by decide +kernel
theorem dX5_follow_16 : decode cX5_follow 16 = .ok (.if_icmp .ge 61, 3) := by decide +kernel
theorem dX5_follow_19 : decode cX5_follow 19 = .ok (.aload_n 2, 1) := by decide +kernel
theorem dX5_follow_20 : decode cX5_follow 20 = .ok (.iload 5, 2) := by decide +kernel
theorem dX5_follow_22 : decode cX5_follow 22 = .ok (.iaload, 1) := by decide +kernel
theorem dX5_follow_23 : decode cX5_follow 23 = .ok (.istore 6, 2) := by decide +kernel
theorem dX5_follow_25 : decode cX5_follow 25 = .ok (.iload_n 3, 1) := by decide +kernel
theorem dX5_follow_26 : decode cX5_follow 26 = .ok (.ifCond .eq 32, 3) := by decide +kernel
theorem dX5_follow_29 : decode cX5_follow 29 = .ok (.aload_n 0, 1) := by decide +kernel
theorem dX5_follow_30 : decode cX5_follow 30 = .ok (.iconst 1, 1) := by decide +kernel
theorem dX5_follow_31 : decode cX5_follow 31 = .ok (.aload_n 1, 1) := by decide +kernel
theorem dX5_follow_32 : decode cX5_follow 32 = .ok (.getfield 46, 3) := by decide +kernel
theorem dX5_follow_35 : decode cX5_follow 35 = .ok (.iload 6, 2) := by decide +kernel
theorem dX5_follow_37 : decode cX5_follow 37 = .ok (.iaload, 1) := by decide +kernel
theorem dX5_follow_38 : decode cX5_follow 38 = .ok (.aload_n 1, 1) := by decide +kernel
theorem dX5_follow_39 : decode cX5_follow 39 = .ok (.iload 4, 2) := by decide +kernel
theorem dX5_follow_41 : decode cX5_follow 41 = .ok (.iload 6, 2) := by decide +kernel
theorem dX5_follow_43 : decode cX5_follow 43 = .ok (.invokevirtual 49, 3) := by decide +kernel
theorem dX5_follow_46 : decode cX5_follow 46 = .ok (.invokevirtual 32, 3) := by decide +kernel
theorem dX5_follow_49 : decode cX5_follow 49 = .ok (.aload_n 1, 1) := by decide +kernel
theorem dX5_follow_50 : decode cX5_follow 50 = .ok (.getfield 46, 3) := by decide +kernel
theorem dX5_follow_53 : decode cX5_follow 53 = .ok (.iload 6, 2) := by decide +kernel
theorem dX5_follow_55 : decode cX5_follow 55 = .ok (.iaload, 1) := by decide +kernel
theorem dX5_follow_56 : decode cX5_follow 56 = .ok (.istore 4, 2) := by decide +kernel
theorem dX5_follow_58 : decode cX5_follow 58 = .ok (.aload_n 0, 1) := by decide +kernel
theorem dX5_follow_59 : decode cX5_follow 59 = .ok (.iload 6, 2) := by decide +kernel
theorem dX5_follow_61 : decode cX5_follow 61 = .ok (.aload_n 1, 1) := by decide +kernel
theorem dX5_follow_62 : decode cX5_follow 62 = .ok (.getfield 53, 3) := by decide +kernel
theorem dX5_follow_65 : decode cX5_follow 65 = .ok (.iload 6, 2) := by decide +kernel
theorem dX5_follow_67 : decode cX5_follow 67 = .ok (.iaload, 1) := by decide +kernel
theorem dX5_follow_68 : decode cX5_follow 68 = .ok (.invokevirtual 56, 3) := by decide +kernel
theorem dX5_follow_71 : decode cX5_follow 71 = .ok (.iinc 5 1, 3) := by decide +kernel
theorem dX5_follow_74 : decode cX5_follow 74 = .ok (.goto (-64), 3) := by decide +kernel
theorem dX5_follow_77 : decode cX5_follow 77 = .ok (.return_, 1) := by decide +kernel
theorem dX5_total_0 : decode cX5_total 0 = .ok (.aload_n 2, 1) := by decide +kernel
theorem dX5_total_1 : decode cX5_total 1 = .ok (.invokevirtual 60, 3) := by decide +kernel
theorem dX5_total_4 : decode cX5_total 4 = .ok (.istore_n 3, 1) := by decide +kernel
theorem dX5_total_5 : decode cX5_total 5 = .ok (.iconst 0, 1) := by decide +kernel
theorem dX5_total_6 : decode cX5_total 6 = .ok (.istore 4, 2) := by decide +kernel
theorem dX5_total_8 : decode cX5_total 8 = .ok (.iload 4, 2) := by decide +kernel
theorem dX5_total_10 : decode cX5_total 10 = .ok (.aload_n 1, 1) := by decide +kernel
theorem dX5_total_11 : decode cX5_total 11 = .ok (.getfield 43, 3) := by decide +kernel
theorem dX5_total_14 : decode cX5_total 14 = .ok (.if_icmp .ge 25, 3) := by decide +kernel
theorem dX5_total_17 : decode cX5_total 17 = .ok (.aload_n 2, 1) := by decide +kernel
theorem dX5_total_18 : decode cX5_total 18 = .ok (.iload_n 3, 1) := by decide +kernel
theorem dX5_total_19 : decode cX5_total 19 = .ok (.aload_n 1, 1) := by decide +kernel
theorem dX5_total_20 : decode cX5_total 20 = .ok (.iload 4, 2) := by decide +kernel
theorem dX5_total_22 : decode cX5_total 22 = .ok (.aload_n 0, 1) := by decide +kernel
theorem dX5_total_23 : decode cX5_total 23 = .ok (.getfield 21, 3) := by decide +kernel
theorem dX5_total_26 : decode cX5_total 26 = .ok (.iload 4, 2) := by decide +kernel
theorem dX5_total_28 : decode cX5_total 28 = .ok (.iaload, 1) := by decide +kernel
theorem dX5_total_29 : decode cX5_total 29 = .ok (.invokevirtual 65, 3) := by decide +kernel
theorem dX5_total_32 : decode cX5_total 32 = .ok (.istore_n 3, 1) := by decide +kernel
theorem dX5_total_33 : decode cX5_total 33 = .ok (.iinc 4 1, 3) := by decide +kernel
theorem dX5_total_36 : decode cX5_total 36 = .ok (.goto (-28), 3) := by decide +kernel
theorem dX5_total_39 : decode cX5_total 39 = .ok (.iload_n 3, 1) := by decide +kernel
theorem dX5_total_40 : decode cX5_total 40 = .ok (.ireturn, 1) := by decide +kernel
theorem dX6_init_0 : decode cX6_init 0 = .ok (.aload_n 0, 1) := by decide +kernel
theorem dX6_init_1 : decode cX6_init 1 = .ok (.invokespecial 3, 3) := by decide +kernel
theorem dX6_init_4 : decode cX6_init 4 = .ok (.aload_n 0, 1) := by decide +kernel
theorem dX6_init_5 : decode cX6_init 5 = .ok (.bipush 10, 2) := by decide +kernel
theorem dX6_init_7 : decode cX6_init 7 = .ok (.newarray .int, 2) := by decide +kernel
theorem dX6_init_9 : decode cX6_init 9 = .ok (.putfield 9, 3) := by decide +kernel
theorem dX6_init_12 : decode cX6_init 12 = .ok (.aload_n 0, 1) := by decide +kernel
theorem dX6_init_13 : decode cX6_init 13 = .ok (.bipush 10, 2) := by decide +kernel
theorem dX6_init_15 : decode cX6_init 15 = .ok (.newarray .int, 2) := by decide +kernel
theorem dX6_init_17 : decode cX6_init 17 = .ok (.putfield 15, 3) := by decide +kernel
theorem dX6_init_20 : decode cX6_init 20 = .ok (.return_, 1) := by decide +kernel
theorem dX6_make_0 : decode cX6_make 0 = .ok (.aload_n 1, 1) := by decide +kernel
theorem dX6_make_1 : decode cX6_make 1 = .ok (.aload_n 0, 1) := by decide +kernel
theorem dX6_make_2 : decode cX6_make 2 = .ok (.getfield 9, 3) := by decide +kernel
theorem dX6_make_5 : decode cX6_make 5 = .ok (.getstatic 18, 3) := by decide +kernel
theorem dX6_make_8 : decode cX6_make 8 = .ok (.invokevirtual 24, 3) := by decide +kernel
theorem dX6_make_11 : decode cX6_make 11 = .ok (.aload_n 1, 1) := by decide +kernel
theorem dX6_make_12 : decode cX6_make 12 = .ok (.getfield 30, 3) := by decide +kernel
theorem dX6_make_15 : decode cX6_make 15 = .ok (.iconst 0, 1) := by decide +kernel
theorem dX6_make_16 : decode cX6_make 16 = .ok (.aload_n 0, 1) := by decide +kernel
theorem dX6_make_17 : decode cX6_make 17 = .ok (.getfield 15, 3) := by decide +kernel
theorem dX6_make_20 : decode cX6_make 20 = .ok (.iconst 0, 1) := by decide +kernel
theorem dX6_make_21 : decode cX6_make 21 = .ok (.bipush 10, 2) := by decide +kernel
theorem dX6_make_23 : decode cX6_make 23 = .ok (.invokestatic 33, 3) := by decide +kernel
theorem dX6_make_26 : decode cX6_make 26 = .ok (.aload_n 2, 1) := by decide +kernel
theorem dX6_make_27 : decode cX6_make 27 = .ok (.invokevirtual 39, 3) := by decide +kernel
theorem dX6_make_30 : decode cX6_make 30 = .ok (.iconst 0, 1) := by decide +kernel
theorem dX6_make_31 : decode cX6_make 31 = .ok (.istore 4, 2) := by decide +kernel
theorem dX6_make_33 : decode cX6_make 33 = .ok (.iload 4, 2) := by decide +kernel
theorem dX6_make_35 : decode cX6_make 35 = .ok (.bipush 20, 2) := by decide +kernel
theorem dX6_make_37 : decode cX6_make 37 = .ok (.if_icmp .ge 110, 3) := by decide +kernel
theorem dX6_make_40 : decode cX6_make 40 = .ok (.aload_n 2, 1) := by decide +kernel
theorem dX6_make_41 : decode cX6_make 41 = .ok (.invokevirtual 44, 3) := by decide +kernel
theorem dX6_make_44 : decode cX6_make 44 = .ok (.istore 5, 2) := by decide +kernel
theorem dX6_make_46 : decode cX6_make 46 = .ok (.iload_n 3, 1) := by decide +kernel
theorem dX6_make_47 : decode cX6_make 47 = .ok (.ifCond .eq 13, 3) := by decide +kernel
theorem dX6_make_50 : decode cX6_make 50 = .ok (.aload_n 0, 1) := by decide +kernel
theorem dX6_make_51 : decode cX6_make 51 = .ok (.aload_n 1, 1) := by decide +kernel
theorem dX6_make_52 : decode cX6_make 52 = .ok (.iload 5, 2) := by decide +kernel
theorem dX6_make_54 : decode cX6_make 54 = .ok (.invokevirtual 48, 3) := by decide +kernel
theorem dX6_make_57 : decode cX6_make 57 = .ok (.goto 10, 3) := by decide +kernel
theorem dX6_make_60 : decode cX6_make 60 = .ok (.aload_n 0, 1) := by decide +kernel
theorem dX6_make_61 : decode cX6_make 61 = .ok (.aload_n 1, 1) := by decide +kernel
theorem dX6_make_62 : decode cX6_make 62 = .ok (.iload 5, 2) := by decide +kernel
theorem dX6_make_64 : decode cX6_make 64 = .ok (.invokevirtual 52, 3) := by decide +kernel
theorem dX6_make_67 : decode cX6_make 67 = .ok (.istore 6, 2) := by decide +kernel
theorem dX6_make_69 : decode cX6_make 69 = .ok (.aload_n 1, 1) := by decide +kernel
theorem dX6_make_70 : decode cX6_make 70 = .ok (.iload 5, 2) := by decide +kernel
theorem dX6_make_72 : decode cX6_make 72 = .ok (.invokestatic 55, 3) := by decide +kernel
theorem dX6_make_75 : decode cX6_make 75 = .ok (.iload 5, 2) := by decide +kernel
theorem dX6_make_77 : decode cX6_make 77 = .ok (.isub, 1) := by decide +kernel
theorem dX6_make_78 : decode cX6_make 78 = .ok (.istore 7, 2) := by decide +kernel
theorem dX6_make_80 : decode cX6_make 80 = .ok (.iload 6, 2) := by decide +kernel
theorem dX6_make_82 : decode cX6_make 82 = .ok (.iconst (-1), 1) := by decide +kernel
theorem dX6_make_83 : decode cX6_make 83 = .ok (.if_icmp .eq 40, 3) := by decide +kernel
theorem dX6_make_86 : decode cX6_make 86 = .ok (.iload 7, 2) := by decide +kernel
theorem dX6_make_88 : decode cX6_make 88 = .ok (.aload_n 0, 1) := by decide +kernel
theorem dX6_make_89 : decode cX6_make 89 = .ok (.getfield 15, 3) := by decide +kernel
theorem dX6_make_92 : decode cX6_make 92 = .ok (.iload 6, 2) := by decide +kernel
theorem dX6_make_94 : decode cX6_make 94 = .ok (.iaload, 1) := by decide +kernel
theorem dX6_make_95 : decode cX6_make 95 = .ok (.invokestatic 58, 3) := by decide +kernel
theorem dX6_make_98 : decode cX6_make 98 = .ok (.istore 8, 2) := by decide +kernel
theorem dX6_make_100 : decode cX6_make 100 = .ok (.aload_n 0, 1) := by decide +kernel
theorem dX6_make_101 : decode cX6_make 101 = .ok (.getfield 15, 3) := by decide +kernel
theorem dX6_make_104 : decode cX6_make 104 = .ok (.iload 6, 2) := by decide +kernel
theorem dX6_make_106 : decode cX6_make 106 = .ok (.dup2, 1) := by decide +kernel
theorem dX6_make_107 : decode cX6_make 107 = .ok (.iaload, 1) := by decide +kernel
theorem dX6_make_108 : decode cX6_make 108 = .ok (.iload 8, 2) := by decide +kernel
theorem dX6_make_110 : decode cX6_make 110 = .ok (.isub, 1) := by decide +kernel
theorem dX6_make_111 : decode cX6_make 111 = .ok (.iastore, 1) := by decide +kernel
theorem dX6_make_112 : decode cX6_make 112 = .ok (.aload_n 2, 1) := by decide +kernel
theorem dX6_make_113 : decode cX6_make 113 = .ok (.iload 6, 2) := by decide +kernel
theorem dX6_make_115 : decode cX6_make 115 = .ok (.iload 8, 2) := by decide +kernel
theorem dX6_make_117 : decode cX6_make 117 = .ok (.invokevirtual 64, 3) := by decide +kernel
theorem dX6_make_120 : decode cX6_make 120 = .ok (.goto 21, 3) := by decide +kernel
theorem dX6_make_123 : decode cX6_make 123 = .ok (.iload 5, 2) := by decide +kernel
theorem dX6_make_125 : decode cX6_make 125 = .ok (.iload 7, 2) := by decide +kernel
theorem dX6_make_127 : decode cX6_make 127 = .ok (.iadd, 1) := by decide +kernel
theorem dX6_make_128 : decode cX6_make 128 = .ok (.ldc 68, 2) := by decide +kernel
theorem dX6_make_130 : decode cX6_make 130 = .ok (.if_icmp .ge 17, 3) := by decide +kernel
theorem dX6_make_133 : decode cX6_make 133 = .ok (.aload_n 2, 1) := by decide +kernel
theorem dX6_make_134 : decode cX6_make 134 = .ok (.iconst 2, 1) := by decide +kernel
theorem dX6_make_135 : decode cX6_make 135 = .ok (.iconst (-1), 1) := by decide +kernel
theorem dX6_make_136 : decode cX6_make 136 = .ok (.iload 7, 2) := by decide +kernel
theorem dX6_make_138 : decode cX6_make 138 = .ok (.invokevirtual 69, 3) := by decide +kernel
theorem dX6_make_141 : decode cX6_make 141 = .ok (.iinc 4 1, 3) := by decide +kernel
theorem dX6_make_144 : decode cX6_make 144 = .ok (.goto (-111), 3) := by decide +kernel
theorem dX6_make_147 : decode cX6_make 147 = .ok (.return_, 1) := by decide +kernel
theorem dX6_isOpen_0 : decode cX6_isOpen 0 = .ok (.aload_n 0, 1) := by decide +kernel
theorem dX6_isOpen_1 : decode cX6_isOpen 1 = .ok (.getfield 15, 3) := by decide +kernel
theorem dX6_isOpen_4 : decode cX6_isOpen 4 = .ok (.iload_n 2, 1) := by decide +kernel
theorem dX6_isOpen_5 : decode cX6_isOpen 5 = .ok (.iaload, 1) := by decide +kernel
theorem dX6_isOpen_6 : decode cX6_isOpen 6 = .ok (.ifCond .le 17, 3) := by decide +kernel
theorem dX6_isOpen_9 : decode cX6_isOpen 9 = .ok (.aload_n 1, 1) := by decide +kernel
theorem dX6_isOpen_10 : decode cX6_isOpen 10 = .ok (.getfield 73, 3) := by decide +kernel
theorem dX6_isOpen_13 : decode cX6_isOpen 13 = .ok (.iload_n 2, 1) := by decide +kernel
theorem dX6_isOpen_14 : decode cX6_isOpen 14 = .ok (.iaload, 1) := by decide +kernel
theorem dX6_isOpen_15 : decode cX6_isOpen 15 = .ok (.iload_n 3, 1) := by decide +kernel
theorem dX6_isOpen_16 : decode cX6_isOpen 16 = .ok (.if_icmp .gt 7, 3) := by decide +kernel
theorem dX6_isOpen_19 : decode cX6_isOpen 19 = .ok (.iconst 1, 1) := by decide +kernel
theorem dX6_isOpen_20 : decode cX6_isOpen 20 = .ok (.goto 4, 3) := by decide +kernel
theorem dX6_isOpen_23 : decode cX6_isOpen 23 = .ok (.iconst 0, 1) := by decide +kernel
theorem dX6_isOpen_24 : decode cX6_isOpen 24 = .ok (.ireturn, 1) := by decide +kernel
theorem dX6_firstByDateAt_0 : decode cX6_firstByDateAt 0 = .ok (.iconst 0, 1) := by decide +kernel
theorem dX6_firstByDateAt_1 : decode cX6_firstByDateAt 1 = .ok (.istore_n 3, 1) := by decide +kernel
theorem dX6_firstByDateAt_2 : decode cX6_firstByDateAt 2 = .ok (.iload_n 3, 1) := by decide +kernel
theorem dX6_firstByDateAt_3 : decode cX6_firstByDateAt 3 = .ok (.aload_n 1, 1) := by decide +kernel
theorem dX6_firstByDateAt_4 : decode cX6_firstByDateAt 4 = .ok (.getfield 76, 3) := by decide +kernel
theorem dX6_firstByDateAt_7 : decode cX6_firstByDateAt 7 = .ok (.if_icmp .ge 31, 3) := by decide +kernel
theorem dX6_firstByDateAt_10 : decode cX6_firstByDateAt 10 = .ok (.aload_n 0, 1) := by decide +kernel
theorem dX6_firstByDateAt_11 : decode cX6_firstByDateAt 11 = .ok (.aload_n 1, 1) := by decide +kernel
theorem dX6_firstByDateAt_12 : decode cX6_firstByDateAt 12 = .ok (.aload_n 0, 1) := by decide +kernel
theorem dX6_firstByDateAt_13 : decode cX6_firstByDateAt 13 = .ok (.getfield 9, 3) := by decide +kernel
theorem dX6_firstByDateAt_16 : decode cX6_firstByDateAt 16 = .ok (.iload_n 3, 1) := by decide +kernel
theorem dX6_firstByDateAt_17 : decode cX6_firstByDateAt 17 = .ok (.iaload, 1) := by decide +kernel
theorem dX6_firstByDateAt_18 : decode cX6_firstByDateAt 18 = .ok (.iload_n 2, 1) := by decide +kernel
theorem dX6_firstByDateAt_19 : decode cX6_firstByDateAt 19 = .ok (.invokevirtual 80, 3) := by decide +kernel
theorem dX6_firstByDateAt_22 : decode cX6_firstByDateAt 22 = .ok (.ifCond .eq 10, 3) := by decide +kernel
theorem dX6_firstByDateAt_25 : decode cX6_firstByDateAt 25 = .ok (.aload_n 0, 1) := by decide +kernel
theorem dX6_firstByDateAt_26 : decode cX6_firstByDateAt 26 = .ok (.getfield 9, 3) := by decide +kernel
theorem dX6_firstByDateAt_29 : decode cX6_firstByDateAt 29 = .ok (.iload_n 3, 1) := by decide +kernel
theorem dX6_firstByDateAt_30 : decode cX6_firstByDateAt 30 = .ok (.iaload, 1) := by decide +kernel
theorem dX6_firstByDateAt_31 : decode cX6_firstByDateAt 31 = .ok (.ireturn, 1) := by decide +kernel
theorem dX6_firstByDateAt_32 : decode cX6_firstByDateAt 32 = .ok (.iinc 3 1, 3) := by decide +kernel
theorem dX6_firstByDateAt_35 : decode cX6_firstByDateAt 35 = .ok (.goto (-33), 3) := by decide +kernel
theorem dX6_firstByDateAt_38 : decode cX6_firstByDateAt 38 = .ok (.iconst (-1), 1) := by decide +kernel
theorem dX6_firstByDateAt_39 : decode cX6_firstByDateAt 39 = .ok (.ireturn, 1) := by decide +kernel
theorem dX6_shortestAt_0 : decode cX6_shortestAt 0 = .ok (.iconst (-1), 1) := by decide +kernel
theorem dX6_shortestAt_1 : decode cX6_shortestAt 1 = .ok (.istore_n 3, 1) := by decide +kernel
theorem dX6_shortestAt_2 : decode cX6_shortestAt 2 = .ok (.ldc 68, 2) := by decide +kernel
theorem dX6_shortestAt_4 : decode cX6_shortestAt 4 = .ok (.istore 4, 2) := by decide +kernel
theorem dX6_shortestAt_6 : decode cX6_shortestAt 6 = .ok (.iconst 0, 1) := by decide +kernel
theorem dX6_shortestAt_7 : decode cX6_shortestAt 7 = .ok (.istore 5, 2) := by decide +kernel
theorem dX6_shortestAt_9 : decode cX6_shortestAt 9 = .ok (.iload 5, 2) := by decide +kernel
theorem dX6_shortestAt_11 : decode cX6_shortestAt 11 = .ok (.aload_n 1, 1) := by decide +kernel
theorem dX6_shortestAt_12 : decode cX6_shortestAt 12 = .ok (.getfield 76, 3) := by decide +kernel
theorem dX6_shortestAt_15 : decode cX6_shortestAt 15 = .ok (.if_icmp .ge 44, 3) := by decide +kernel
theorem dX6_shortestAt_18 : decode cX6_shortestAt 18 = .ok (.aload_n 0, 1) := by decide +kernel
theorem dX6_shortestAt_19 : decode cX6_shortestAt 19 = .ok (.aload_n 1, 1) := by decide +kernel
theorem dX6_shortestAt_20 : decode cX6_shortestAt 20 = .ok (.iload 5, 2) := by decide +kernel
theorem dX6_shortestAt_22 : decode cX6_shortestAt 22 = .ok (.iload_n 2, 1) := by decide +kernel
theorem dX6_shortestAt_23 : decode cX6_shortestAt 23 = .ok (.invokevirtual 80, 3) := by decide +kernel
theorem dX6_shortestAt_26 : decode cX6_shortestAt 26 = .ok (.ifCond .eq 27, 3) := by decide +kernel
theorem dX6_shortestAt_29 : decode cX6_shortestAt 29 = .ok (.aload_n 0, 1) := by decide +kernel
theorem dX6_shortestAt_30 : decode cX6_shortestAt 30 = .ok (.getfield 15, 3) := by decide +kernel
theorem dX6_shortestAt_33 : decode cX6_shortestAt 33 = .ok (.iload 5, 2) := by decide +kernel
theorem dX6_shortestAt_35 : decode cX6_shortestAt 35 = .ok (.iaload, 1) := by decide +kernel
theorem dX6_shortestAt_36 : decode cX6_shortestAt 36 = .ok (.iload 4, 2) := by decide +kernel
theorem dX6_shortestAt_38 : decode cX6_shortestAt 38 = .ok (.if_icmp .ge 15, 3) := by decide +kernel
theorem dX6_shortestAt_41 : decode cX6_shortestAt 41 = .ok (.iload 5, 2) := by decide +kernel
theorem dX6_shortestAt_43 : decode cX6_shortestAt 43 = .ok (.istore_n 3, 1) := by decide +kernel
theorem dX6_shortestAt_44 : decode cX6_shortestAt 44 = .ok (.aload_n 0, 1) := by decide +kernel
theorem dX6_shortestAt_45 : decode cX6_shortestAt 45 = .ok (.getfield 15, 3) := by decide +kernel
theorem dX6_shortestAt_48 : decode cX6_shortestAt 48 = .ok (.iload 5, 2) := by decide +kernel
theorem dX6_shortestAt_50 : decode cX6_shortestAt 50 = .ok (.iaload, 1) := by decide +kernel
theorem dX6_shortestAt_51 : decode cX6_shortestAt 51 = .ok (.istore 4, 2) := by decide +kernel
theorem dX6_shortestAt_53 : decode cX6_shortestAt 53 = .ok (.iinc 5 1, 3) := by decide +kernel
theorem dX6_shortestAt_56 : decode cX6_shortestAt 56 = .ok (.goto (-47), 3) := by decide +kernel
theorem dX6_shortestAt_59 : decode cX6_shortestAt 59 = .ok (.iload_n 3, 1) := by decide +kernel
theorem dX6_shortestAt_60 : decode cX6_shortestAt 60 = .ok (.ireturn, 1) := by decide +kernel
theorem dX6_nextRelease_0 : decode cX6_nextRelease 0 = .ok (.ldc 68, 2) := by decide +kernel
theorem dX6_nextRelease_2 : decode cX6_nextRelease 2 = .ok (.istore_n 2, 1) := by decide +kernel
theorem dX6_nextRelease_3 : decode cX6_nextRelease 3 = .ok (.iconst 0, 1) := by decide +kernel
theorem dX6_nextRelease_4 : decode cX6_nextRelease 4 = .ok (.istore_n 3, 1) := by decide +kernel
theorem dX6_nextRelease_5 : decode cX6_nextRelease 5 = .ok (.iload_n 3, 1) := by decide +kernel
theorem dX6_nextRelease_6 : decode cX6_nextRelease 6 = .ok (.aload_n 0, 1) := by decide +kernel
theorem dX6_nextRelease_7 : decode cX6_nextRelease 7 = .ok (.getfield 76, 3) := by decide +kernel
theorem dX6_nextRelease_10 : decode cX6_nextRelease 10 = .ok (.if_icmp .ge 30, 3) := by decide +kernel
theorem dX6_nextRelease_13 : decode cX6_nextRelease 13 = .ok (.aload_n 0, 1) := by decide +kernel
theorem dX6_nextRelease_14 : decode cX6_nextRelease 14 = .ok (.getfield 73, 3) := by decide +kernel
theorem dX6_nextRelease_17 : decode cX6_nextRelease 17 = .ok (.iload_n 3, 1) := by decide +kernel
theorem dX6_nextRelease_18 : decode cX6_nextRelease 18 = .ok (.iaload, 1) := by decide +kernel
theorem dX6_nextRelease_19 : decode cX6_nextRelease 19 = .ok (.iload_n 1, 1) := by decide +kernel
theorem dX6_nextRelease_20 : decode cX6_nextRelease 20 = .ok (.if_icmp .le 14, 3) := by decide +kernel
theorem dX6_nextRelease_23 : decode cX6_nextRelease 23 = .ok (.iload_n 2, 1) := by decide +kernel
theorem dX6_nextRelease_24 : decode cX6_nextRelease 24 = .ok (.aload_n 0, 1) := by decide +kernel
theorem dX6_nextRelease_25 : decode cX6_nextRelease 25 = .ok (.getfield 73, 3) := by decide +kernel
theorem dX6_nextRelease_28 : decode cX6_nextRelease 28 = .ok (.iload_n 3, 1) := by decide +kernel
theorem dX6_nextRelease_29 : decode cX6_nextRelease 29 = .ok (.iaload, 1) := by decide +kernel
theorem dX6_nextRelease_30 : decode cX6_nextRelease 30 = .ok (.invokestatic 58, 3) := by decide +kernel
theorem dX6_nextRelease_33 : decode cX6_nextRelease 33 = .ok (.istore_n 2, 1) := by decide +kernel
theorem dX6_nextRelease_34 : decode cX6_nextRelease 34 = .ok (.iinc 3 1, 3) := by decide +kernel
theorem dX6_nextRelease_37 : decode cX6_nextRelease 37 = .ok (.goto (-32), 3) := by decide +kernel
theorem dX6_nextRelease_40 : decode cX6_nextRelease 40 = .ok (.iload_n 2, 1) := by decide +kernel
theorem dX6_nextRelease_41 : decode cX6_nextRelease 41 = .ok (.ireturn, 1) := by decide +kernel
theorem dX7_init_0 : decode cX7_init 0 = .ok (.aload_n 0, 1) := by decide +kernel
theorem dX7_init_1 : decode cX7_init 1 = .ok (.invokespecial 3, 3) := by decide +kernel
theorem dX7_init_4 : decode cX7_init 4 = .ok (.aload_n 0, 1) := by decide +kernel
theorem dX7_init_5 : decode cX7_init 5 = .ok (.bipush 10, 2) := by decide +kernel
theorem dX7_init_7 : decode cX7_init 7 = .ok (.newarray .int, 2) := by decide +kernel
theorem dX7_init_9 : decode cX7_init 9 = .ok (.putfield 9, 3) := by decide +kernel
theorem dX7_init_12 : decode cX7_init 12 = .ok (.aload_n 0, 1) := by decide +kernel
theorem dX7_init_13 : decode cX7_init 13 = .ok (.bipush 10, 2) := by decide +kernel
theorem dX7_init_15 : decode cX7_init 15 = .ok (.newarray .int, 2) := by decide +kernel
theorem dX7_init_17 : decode cX7_init 17 = .ok (.putfield 15, 3) := by decide +kernel
theorem dX7_init_20 : decode cX7_init 20 = .ok (.aload_n 0, 1) := by decide +kernel
theorem dX7_init_21 : decode cX7_init 21 = .ok (.bipush 10, 2) := by decide +kernel
theorem dX7_init_23 : decode cX7_init 23 = .ok (.newarray .int, 2) := by decide +kernel
theorem dX7_init_25 : decode cX7_init 25 = .ok (.putfield 18, 3) := by decide +kernel
theorem dX7_init_28 : decode cX7_init 28 = .ok (.aload_n 0, 1) := by decide +kernel
theorem dX7_init_29 : decode cX7_init 29 = .ok (.bipush 10, 2) := by decide +kernel
theorem dX7_init_31 : decode cX7_init 31 = .ok (.newarray .int, 2) := by decide +kernel
theorem dX7_init_33 : decode cX7_init 33 = .ok (.putfield 21, 3) := by decide +kernel
theorem dX7_init_36 : decode cX7_init 36 = .ok (.aload_n 0, 1) := by decide +kernel
theorem dX7_init_37 : decode cX7_init 37 = .ok (.sipush 5120, 3) := by decide +kernel
theorem dX7_init_40 : decode cX7_init 40 = .ok (.newarray .int, 2) := by decide +kernel
theorem dX7_init_42 : decode cX7_init 42 = .ok (.putfield 24, 3) := by decide +kernel
theorem dX7_init_45 : decode cX7_init 45 = .ok (.return_, 1) := by decide +kernel
theorem dX7_orderByDueDates_0 : decode cX7_orderByDueDates 0 = .ok (.aload_n 1, 1) := by decide +kernel
theorem dX7_orderByDueDates_1 : decode cX7_orderByDueDates 1 = .ok (.aload_n 0, 1) := by decide +kernel
theorem dX7_orderByDueDates_2 : decode cX7_orderByDueDates 2 = .ok (.getfield 9, 3) := by decide +kernel
theorem dX7_orderByDueDates_5 : decode cX7_orderByDueDates 5 = .ok (.getstatic 27, 3) := by decide +kernel
theorem dX7_orderByDueDates_8 : decode cX7_orderByDueDates 8 = .ok (.invokevirtual 33, 3) := by decide +kernel
theorem dX7_orderByDueDates_11 : decode cX7_orderByDueDates 11 = .ok (.return_, 1) := by decide +kernel
theorem dX7_orderByRatios_0 : decode cX7_orderByRatios 0 = .ok (.aload_n 1, 1) := by decide +kernel
theorem dX7_orderByRatios_1 : decode cX7_orderByRatios 1 = .ok (.aload_n 0, 1) := by decide +kernel
theorem dX7_orderByRatios_2 : decode cX7_orderByRatios 2 = .ok (.getfield 9, 3) := by decide +kernel
theorem dX7_orderByRatios_5 : decode cX7_orderByRatios 5 = .ok (.getstatic 39, 3) := by decide +kernel
theorem dX7_orderByRatios_8 : decode cX7_orderByRatios 8 = .ok (.invokevirtual 33, 3) := by decide +kernel
theorem dX7_orderByRatios_11 : decode cX7_orderByRatios 11 = .ok (.return_, 1) := by decide +kernel
theorem dX7_orderWithFewestLate_0 : decode cX7_orderWithFewestLate 0 = .ok (.aload_n 1, 1) := by decide +kernel
theorem dX7_orderWithFewestLate_1 : decode cX7_orderWithFewestLate 1 = .ok (.aload_n 0, 1) := by decide +kernel
theorem dX7_orderWithFewestLate_2 : decode cX7_orderWithFewestLate 2 = .ok (.getfield 15, 3) := by decide +kernel
theorem dX7_orderWithFewestLate_5 : decode cX7_orderWithFewestLate 5 = .ok (.getstatic 27, 3) := by decide +kernel
theorem dX7_orderWithFewestLate_8 : decode cX7_orderWithFewestLate 8 = .ok (.invokevirtual 33, 3) := by decide +kernel
theorem dX7_orderWithFewestLate_11 : decode cX7_orderWithFewestLate 11 = .ok (.iconst 0, 1) := by decide +kernel
theorem dX7_orderWithFewestLate_12 : decode cX7_orderWithFewestLate 12 = .ok (.istore_n 2, 1) := by decide +kernel
theorem dX7_orderWithFewestLate_13 : decode cX7_orderWithFewestLate 13 = .ok (.iconst 0, 1) := by decide +kernel
theorem dX7_orderWithFewestLate_14 : decode cX7_orderWithFewestLate 14 = .ok (.istore_n 3, 1) := by decide +kernel
theorem dX7_orderWithFewestLate_15 : decode cX7_orderWithFewestLate 15 = .ok (.iconst 0, 1) := by decide +kernel
theorem dX7_orderWithFewestLate_16 : decode cX7_orderWithFewestLate 16 = .ok (.istore 4, 2) := by decide +kernel
theorem dX7_orderWithFewestLate_18 : decode cX7_orderWithFewestLate 18 = .ok (.iload 4, 2) := by decide +kernel
theorem dX7_orderWithFewestLate_20 : decode cX7_orderWithFewestLate 20 = .ok (.aload_n 1, 1) := by decide +kernel
theorem dX7_orderWithFewestLate_21 : decode cX7_orderWithFewestLate 21 = .ok (.getfield 42, 3) := by decide +kernel
theorem dX7_orderWithFewestLate_24 : decode cX7_orderWithFewestLate 24 = .ok (.if_icmp .ge 67, 3) := by decide +kernel
theorem dX7_orderWithFewestLate_27 : decode cX7_orderWithFewestLate 27 = .ok (.aload_n 0, 1) := by decide +kernel
theorem dX7_orderWithFewestLate_28 : decode cX7_orderWithFewestLate 28 = .ok (.getfield 15, 3) := by decide +kernel
theorem dX7_orderWithFewestLate_31 : decode cX7_orderWithFewestLate 31 = .ok (.iload 4, 2) := by decide +kernel
theorem dX7_orderWithFewestLate_33 : decode cX7_orderWithFewestLate 33 = .ok (.iaload, 1) := by decide +kernel
theorem dX7_orderWithFewestLate_34 : decode cX7_orderWithFewestLate 34 = .ok (.istore 5, 2) := by decide +kernel
theorem dX7_orderWithFewestLate_36 : decode cX7_orderWithFewestLate 36 = .ok (.iload_n 2, 1) := by decide +kernel
theorem dX7_orderWithFewestLate_37 : decode cX7_orderWithFewestLate 37 = .ok (.iconst 1, 1) := by decide +kernel
theorem dX7_orderWithFewestLate_38 : decode cX7_orderWithFewestLate 38 = .ok (.iload 5, 2) := by decide +kernel
theorem dX7_orderWithFewestLate_40 : decode cX7_orderWithFewestLate 40 = .ok (.ishl, 1) := by decide +kernel
theorem dX7_orderWithFewestLate_41 : decode cX7_orderWithFewestLate 41 = .ok (.ior, 1) := by decide +kernel
theorem dX7_orderWithFewestLate_42 : decode cX7_orderWithFewestLate 42 = .ok (.istore_n 2, 1) := by decide +kernel
theorem dX7_orderWithFewestLate_43 : decode cX7_orderWithFewestLate 43 = .ok (.aload_n 1, 1) := by decide +kernel
theorem dX7_orderWithFewestLate_44 : decode cX7_orderWithFewestLate 44 = .ok (.iload_n 2, 1) := by decide +kernel
theorem dX7_orderWithFewestLate_45 : decode cX7_orderWithFewestLate 45 = .ok (.invokevirtual 46, 3) := by decide +kernel
theorem dX7_orderWithFewestLate_48 : decode cX7_orderWithFewestLate 48 = .ok (.aload_n 1, 1) := by decide +kernel
theorem dX7_orderWithFewestLate_49 : decode cX7_orderWithFewestLate 49 = .ok (.getfield 50, 3) := by decide +kernel
theorem dX7_orderWithFewestLate_52 : decode cX7_orderWithFewestLate 52 = .ok (.iload 5, 2) := by decide +kernel
theorem dX7_orderWithFewestLate_54 : decode cX7_orderWithFewestLate 54 = .ok (.iaload, 1) := by decide +kernel
theorem dX7_orderWithFewestLate_55 : decode cX7_orderWithFewestLate 55 = .ok (.if_icmp .le 30, 3) := by decide +kernel
theorem dX7_orderWithFewestLate_58 : decode cX7_orderWithFewestLate 58 = .ok (.aload_n 1, 1) := by decide +kernel
theorem dX7_orderWithFewestLate_59 : decode cX7_orderWithFewestLate 59 = .ok (.iload_n 2, 1) := by decide +kernel
theorem dX7_orderWithFewestLate_60 : decode cX7_orderWithFewestLate 60 = .ok (.invokestatic 53, 3) := by decide +kernel
theorem dX7_orderWithFewestLate_63 : decode cX7_orderWithFewestLate 63 = .ok (.istore 6, 2) := by decide +kernel
theorem dX7_orderWithFewestLate_65 : decode cX7_orderWithFewestLate 65 = .ok (.iload_n 2, 1) := by decide +kernel
theorem dX7_orderWithFewestLate_66 : decode cX7_orderWithFewestLate 66 = .ok (.iconst 1, 1) := by decide +kernel
theorem dX7_orderWithFewestLate_67 : decode cX7_orderWithFewestLate 67 = .ok (.iload 6, 2) := by decide +kernel
theorem dX7_orderWithFewestLate_69 : decode cX7_orderWithFewestLate 69 = .ok (.ishl, 1) := by decide +kernel
theorem dX7_orderWithFewestLate_70 : decode cX7_orderWithFewestLate 70 = .ok (.iconst (-1), 1) := by decide +kernel
theorem dX7_orderWithFewestLate_71 : decode cX7_orderWithFewestLate 71 = .ok (.ixor, 1) := by decide +kernel
theorem dX7_orderWithFewestLate_72 : decode cX7_orderWithFewestLate 72 = .ok (.iand, 1) := by decide +kernel
theorem dX7_orderWithFewestLate_73 : decode cX7_orderWithFewestLate 73 = .ok (.istore_n 2, 1) := by decide +kernel
theorem dX7_orderWithFewestLate_74 : decode cX7_orderWithFewestLate 74 = .ok (.aload_n 0, 1) := by decide +kernel
theorem dX7_orderWithFewestLate_75 : decode cX7_orderWithFewestLate 75 = .ok (.getfield 18, 3) := by decide +kernel
theorem dX7_orderWithFewestLate_78 : decode cX7_orderWithFewestLate 78 = .ok (.iload_n 3, 1) := by decide +kernel
theorem dX7_orderWithFewestLate_79 : decode cX7_orderWithFewestLate 79 = .ok (.iload 6, 2) := by decide +kernel
theorem dX7_orderWithFewestLate_81 : decode cX7_orderWithFewestLate 81 = .ok (.iastore, 1) := by decide +kernel
theorem dX7_orderWithFewestLate_82 : decode cX7_orderWithFewestLate 82 = .ok (.iinc 3 1, 3) := by decide +kernel
theorem dX7_orderWithFewestLate_85 : decode cX7_orderWithFewestLate 85 = .ok (.iinc 4 1, 3) := by decide +kernel
theorem dX7_orderWithFewestLate_88 : decode cX7_orderWithFewestLate 88 = .ok (.goto (-70), 3) := by decide +kernel
theorem dX7_orderWithFewestLate_91 : decode cX7_orderWithFewestLate 91 = .ok (.aload_n 0, 1) := by decide +kernel
theorem dX7_orderWithFewestLate_92 : decode cX7_orderWithFewestLate 92 = .ok (.aload_n 1, 1) := by decide +kernel
theorem dX7_orderWithFewestLate_93 : decode cX7_orderWithFewestLate 93 = .ok (.iload_n 2, 1) := by decide +kernel
theorem dX7_orderWithFewestLate_94 : decode cX7_orderWithFewestLate 94 = .ok (.iload_n 3, 1) := by decide +kernel
theorem dX7_orderWithFewestLate_95 : decode cX7_orderWithFewestLate 95 = .ok (.invokevirtual 57, 3) := by decide +kernel
theorem dX7_orderWithFewestLate_98 : decode cX7_orderWithFewestLate 98 = .ok (.iload_n 3, 1) := by decide +kernel
theorem dX7_orderWithFewestLate_99 : decode cX7_orderWithFewestLate 99 = .ok (.ireturn, 1) := by decide +kernel
theorem dX7_longestOf_0 : decode cX7_longestOf 0 = .ok (.iconst 0, 1) := by decide +kernel
theorem dX7_longestOf_1 : decode cX7_longestOf 1 = .ok (.istore_n 2, 1) := by decide +kernel
theorem dX7_longestOf_2 : decode cX7_longestOf 2 = .ok (.iconst 0, 1) := by decide +kernel
theorem dX7_longestOf_3 : decode cX7_longestOf 3 = .ok (.istore_n 3, 1) := by decide +kernel
theorem dX7_longestOf_4 : decode cX7_longestOf 4 = .ok (.iconst 0, 1) := by decide +kernel
theorem dX7_longestOf_5 : decode cX7_longestOf 5 = .ok (.istore 4, 2) := by decide +kernel
theorem dX7_longestOf_7 : decode cX7_longestOf 7 = .ok (.iload 4, 2) := by decide +kernel
theorem dX7_longestOf_9 : decode cX7_longestOf 9 = .ok (.aload_n 0, 1) := by decide +kernel
theorem dX7_longestOf_10 : decode cX7_longestOf 10 = .ok (.getfield 42, 3) := by decide +kernel
theorem dX7_longestOf_13 : decode cX7_longestOf 13 = .ok (.if_icmp .ge 41, 3) := by decide +kernel
theorem dX7_longestOf_16 : decode cX7_longestOf 16 = .ok (.aload_n 0, 1) := by decide +kernel
theorem dX7_longestOf_17 : decode cX7_longestOf 17 = .ok (.iload_n 1, 1) := by decide +kernel
theorem dX7_longestOf_18 : decode cX7_longestOf 18 = .ok (.iload 4, 2) := by decide +kernel
theorem dX7_longestOf_20 : decode cX7_longestOf 20 = .ok (.invokevirtual 61, 3) := by decide +kernel
theorem dX7_longestOf_23 : decode cX7_longestOf 23 = .ok (.ifCond .eq 25, 3) := by decide +kernel
theorem dX7_longestOf_26 : decode cX7_longestOf 26 = .ok (.aload_n 0, 1) := by decide +kernel
theorem dX7_longestOf_27 : decode cX7_longestOf 27 = .ok (.getfield 65, 3) := by decide +kernel
theorem dX7_longestOf_30 : decode cX7_longestOf 30 = .ok (.iload 4, 2) := by decide +kernel
theorem dX7_longestOf_32 : decode cX7_longestOf 32 = .ok (.iaload, 1) := by decide +kernel
theorem dX7_longestOf_33 : decode cX7_longestOf 33 = .ok (.iload_n 3, 1) := by decide +kernel
theorem dX7_longestOf_34 : decode cX7_longestOf 34 = .ok (.if_icmp .lt 14, 3) := by decide +kernel
theorem dX7_longestOf_37 : decode cX7_longestOf 37 = .ok (.iload 4, 2) := by decide +kernel
theorem dX7_longestOf_39 : decode cX7_longestOf 39 = .ok (.istore_n 2, 1) := by decide +kernel
theorem dX7_longestOf_40 : decode cX7_longestOf 40 = .ok (.aload_n 0, 1) := by decide +kernel
theorem dX7_longestOf_41 : decode cX7_longestOf 41 = .ok (.getfield 65, 3) := by decide +kernel
theorem dX7_longestOf_44 : decode cX7_longestOf 44 = .ok (.iload 4, 2) := by decide +kernel
theorem dX7_longestOf_46 : decode cX7_longestOf 46 = .ok (.iaload, 1) := by decide +kernel
theorem dX7_longestOf_47 : decode cX7_longestOf 47 = .ok (.istore_n 3, 1) := by decide +kernel
theorem dX7_longestOf_48 : decode cX7_longestOf 48 = .ok (.iinc 4 1, 3) := by decide +kernel
theorem dX7_longestOf_51 : decode cX7_longestOf 51 = .ok (.goto (-44), 3) := by decide +kernel
theorem dX7_longestOf_54 : decode cX7_longestOf 54 = .ok (.iload_n 2, 1) := by decide +kernel
theorem dX7_longestOf_55 : decode cX7_longestOf 55 = .ok (.ireturn, 1) := by decide +kernel
theorem dX7_putDroppedBehind_0 : decode cX7_putDroppedBehind 0 = .ok (.iconst 0, 1) := by decide +kernel
theorem dX7_putDroppedBehind_1 : decode cX7_putDroppedBehind 1 = .ok (.istore 4, 2) := by decide +kernel
theorem dX7_putDroppedBehind_3 : decode cX7_putDroppedBehind 3 = .ok (.iconst 0, 1) := by decide +kernel
theorem dX7_putDroppedBehind_4 : decode cX7_putDroppedBehind 4 = .ok (.istore 5, 2) := by decide +kernel
theorem dX7_putDroppedBehind_6 : decode cX7_putDroppedBehind 6 = .ok (.iload 5, 2) := by decide +kernel
theorem dX7_putDroppedBehind_8 : decode cX7_putDroppedBehind 8 = .ok (.aload_n 1, 1) := by decide +kernel
theorem dX7_putDroppedBehind_9 : decode cX7_putDroppedBehind 9 = .ok (.getfield 42, 3) := by decide +kernel
theorem dX7_putDroppedBehind_12 : decode cX7_putDroppedBehind 12 = .ok (.if_icmp .ge 41, 3) := by decide +kernel
theorem dX7_putDroppedBehind_15 : decode cX7_putDroppedBehind 15 = .ok (.aload_n 1, 1) := by decide +kernel
theorem dX7_putDroppedBehind_16 : decode cX7_putDroppedBehind 16 = .ok (.iload_n 2, 1) := by decide +kernel
theorem dX7_putDroppedBehind_17 : decode cX7_putDroppedBehind 17 = .ok (.aload_n 0, 1) := by decide +kernel
theorem dX7_putDroppedBehind_18 : decode cX7_putDroppedBehind 18 = .ok (.getfield 15, 3) := by decide +kernel
theorem dX7_putDroppedBehind_21 : decode cX7_putDroppedBehind 21 = .ok (.iload 5, 2) := by decide +kernel
theorem dX7_putDroppedBehind_23 : decode cX7_putDroppedBehind 23 = .ok (.iaload, 1) := by decide +kernel
theorem dX7_putDroppedBehind_24 : decode cX7_putDroppedBehind 24 = .ok (.invokevirtual 61, 3) := by decide +kernel
theorem dX7_putDroppedBehind_27 : decode cX7_putDroppedBehind 27 = .ok (.ifCond .eq 20, 3) := by decide +kernel
theorem dX7_putDroppedBehind_30 : decode cX7_putDroppedBehind 30 = .ok (.aload_n 0, 1) := by decide +kernel
theorem dX7_putDroppedBehind_31 : decode cX7_putDroppedBehind 31 = .ok (.getfield 9, 3) := by decide +kernel
theorem dX7_putDroppedBehind_34 : decode cX7_putDroppedBehind 34 = .ok (.iload 4, 2) := by decide +kernel
theorem dX7_putDroppedBehind_36 : decode cX7_putDroppedBehind 36 = .ok (.aload_n 0, 1) := by decide +kernel
theorem dX7_putDroppedBehind_37 : decode cX7_putDroppedBehind 37 = .ok (.getfield 15, 3) := by decide +kernel
theorem dX7_putDroppedBehind_40 : decode cX7_putDroppedBehind 40 = .ok (.iload 5, 2) := by decide +kernel
theorem dX7_putDroppedBehind_42 : decode cX7_putDroppedBehind 42 = .ok (.iaload, 1) := by decide +kernel
theorem dX7_putDroppedBehind_43 : decode cX7_putDroppedBehind 43 = .ok (.iastore, 1) := by decide +kernel
theorem dX7_putDroppedBehind_44 : decode cX7_putDroppedBehind 44 = .ok (.iinc 4 1, 3) := by decide +kernel
theorem dX7_putDroppedBehind_47 : decode cX7_putDroppedBehind 47 = .ok (.iinc 5 1, 3) := by decide +kernel
theorem dX7_putDroppedBehind_50 : decode cX7_putDroppedBehind 50 = .ok (.goto (-44), 3) := by decide +kernel
theorem dX7_putDroppedBehind_53 : decode cX7_putDroppedBehind 53 = .ok (.iconst 0, 1) := by decide +kernel
theorem dX7_putDroppedBehind_54 : decode cX7_putDroppedBehind 54 = .ok (.istore 5, 2) := by decide +kernel
theorem dX7_putDroppedBehind_56 : decode cX7_putDroppedBehind 56 = .ok (.iload 5, 2) := by decide +kernel
theorem dX7_putDroppedBehind_58 : decode cX7_putDroppedBehind 58 = .ok (.iload_n 3, 1) := by decide +kernel
theorem dX7_putDroppedBehind_59 : decode cX7_putDroppedBehind 59 = .ok (.if_icmp .ge 26, 3) := by decide +kernel
theorem dX7_putDroppedBehind_62 : decode cX7_putDroppedBehind 62 = .ok (.aload_n 0, 1) := by decide +kernel
theorem dX7_putDroppedBehind_63 : decode cX7_putDroppedBehind 63 = .ok (.getfield 9, 3) := by decide +kernel
theorem dX7_putDroppedBehind_66 : decode cX7_putDroppedBehind 66 = .ok (.iload 4, 2) := by decide +kernel
theorem dX7_putDroppedBehind_68 : decode cX7_putDroppedBehind 68 = .ok (.aload_n 0, 1) := by decide +kernel
theorem dX7_putDroppedBehind_69 : decode cX7_putDroppedBehind 69 = .ok (.getfield 18, 3) := by decide +kernel
theorem dX7_putDroppedBehind_72 : decode cX7_putDroppedBehind 72 = .ok (.iload 5, 2) := by decide +kernel
theorem dX7_putDroppedBehind_74 : decode cX7_putDroppedBehind 74 = .ok (.iaload, 1) := by decide +kernel
theorem dX7_putDroppedBehind_75 : decode cX7_putDroppedBehind 75 = .ok (.iastore, 1) := by decide +kernel
theorem dX7_putDroppedBehind_76 : decode cX7_putDroppedBehind 76 = .ok (.iinc 4 1, 3) := by decide +kernel
theorem dX7_putDroppedBehind_79 : decode cX7_putDroppedBehind 79 = .ok (.iinc 5 1, 3) := by decide +kernel
theorem dX7_putDroppedBehind_82 : decode cX7_putDroppedBehind 82 = .ok (.goto (-26), 3) := by decide +kernel
theorem dX7_putDroppedBehind_85 : decode cX7_putDroppedBehind 85 = .ok (.return_, 1) := by decide +kernel
theorem dX7_orderByTardiness_0 : decode cX7_orderByTardiness 0 = .ok (.aload_n 0, 1) := by decide +kernel
theorem dX7_orderByTardiness_1 : decode cX7_orderByTardiness 1 = .ok (.aload_n 1, 1) := by decide +kernel
theorem dX7_orderByTardiness_2 : decode cX7_orderByTardiness 2 = .ok (.invokevirtual 68, 3) := by decide +kernel
theorem dX7_orderByTardiness_5 : decode cX7_orderByTardiness 5 = .ok (.iconst 0, 1) := by decide +kernel
theorem dX7_orderByTardiness_6 : decode cX7_orderByTardiness 6 = .ok (.istore_n 2, 1) := by decide +kernel
theorem dX7_orderByTardiness_7 : decode cX7_orderByTardiness 7 = .ok (.iconst 0, 1) := by decide +kernel
theorem dX7_orderByTardiness_8 : decode cX7_orderByTardiness 8 = .ok (.istore_n 3, 1) := by decide +kernel
theorem dX7_orderByTardiness_9 : decode cX7_orderByTardiness 9 = .ok (.iload_n 3, 1) := by decide +kernel
theorem dX7_orderByTardiness_10 : decode cX7_orderByTardiness 10 = .ok (.aload_n 1, 1) := by decide +kernel
theorem dX7_orderByTardiness_11 : decode cX7_orderByTardiness 11 = .ok (.getfield 42, 3) := by decide +kernel
theorem dX7_orderByTardiness_14 : decode cX7_orderByTardiness 14 = .ok (.if_icmp .ge 81, 3) := by decide +kernel
theorem dX7_orderByTardiness_17 : decode cX7_orderByTardiness 17 = .ok (.aload_n 1, 1) := by decide +kernel
theorem dX7_orderByTardiness_18 : decode cX7_orderByTardiness 18 = .ok (.iload_n 2, 1) := by decide +kernel
theorem dX7_orderByTardiness_19 : decode cX7_orderByTardiness 19 = .ok (.invokevirtual 46, 3) := by decide +kernel
theorem dX7_orderByTardiness_22 : decode cX7_orderByTardiness 22 = .ok (.istore 4, 2) := by decide +kernel
theorem dX7_orderByTardiness_24 : decode cX7_orderByTardiness 24 = .ok (.iconst 0, 1) := by decide +kernel
theorem dX7_orderByTardiness_25 : decode cX7_orderByTardiness 25 = .ok (.istore 5, 2) := by decide +kernel
theorem dX7_orderByTardiness_27 : decode cX7_orderByTardiness 27 = .ok (.iload 5, 2) := by decide +kernel
theorem dX7_orderByTardiness_29 : decode cX7_orderByTardiness 29 = .ok (.aload_n 1, 1) := by decide +kernel
theorem dX7_orderByTardiness_30 : decode cX7_orderByTardiness 30 = .ok (.getfield 42, 3) := by decide +kernel
theorem dX7_orderByTardiness_33 : decode cX7_orderByTardiness 33 = .ok (.if_icmp .ge 56, 3) := by decide +kernel
theorem dX7_orderByTardiness_36 : decode cX7_orderByTardiness 36 = .ok (.aload_n 1, 1) := by decide +kernel
theorem dX7_orderByTardiness_37 : decode cX7_orderByTardiness 37 = .ok (.iload_n 2, 1) := by decide +kernel
theorem dX7_orderByTardiness_38 : decode cX7_orderByTardiness 38 = .ok (.iload 5, 2) := by decide +kernel
theorem dX7_orderByTardiness_40 : decode cX7_orderByTardiness 40 = .ok (.invokevirtual 61, 3) := by decide +kernel
theorem dX7_orderByTardiness_43 : decode cX7_orderByTardiness 43 = .ok (.ifCond .ne 40, 3) := by decide +kernel
theorem dX7_orderByTardiness_46 : decode cX7_orderByTardiness 46 = .ok (.aload_n 0, 1) := by decide +kernel
theorem dX7_orderByTardiness_47 : decode cX7_orderByTardiness 47 = .ok (.aload_n 1, 1) := by decide +kernel
theorem dX7_orderByTardiness_48 : decode cX7_orderByTardiness 48 = .ok (.iload_n 2, 1) := by decide +kernel
theorem dX7_orderByTardiness_49 : decode cX7_orderByTardiness 49 = .ok (.iload 4, 2) := by decide +kernel
theorem dX7_orderByTardiness_51 : decode cX7_orderByTardiness 51 = .ok (.iload 5, 2) := by decide +kernel
theorem dX7_orderByTardiness_53 : decode cX7_orderByTardiness 53 = .ok (.invokevirtual 72, 3) := by decide +kernel
theorem dX7_orderByTardiness_56 : decode cX7_orderByTardiness 56 = .ok (.aload_n 0, 1) := by decide +kernel
theorem dX7_orderByTardiness_57 : decode cX7_orderByTardiness 57 = .ok (.getfield 24, 3) := by decide +kernel
theorem dX7_orderByTardiness_60 : decode cX7_orderByTardiness 60 = .ok (.iload_n 2, 1) := by decide +kernel
theorem dX7_orderByTardiness_61 : decode cX7_orderByTardiness 61 = .ok (.iaload, 1) := by decide +kernel
theorem dX7_orderByTardiness_62 : decode cX7_orderByTardiness 62 = .ok (.if_icmp .ne 21, 3) := by decide +kernel
theorem dX7_orderByTardiness_65 : decode cX7_orderByTardiness 65 = .ok (.aload_n 0, 1) := by decide +kernel
theorem dX7_orderByTardiness_66 : decode cX7_orderByTardiness 66 = .ok (.getfield 9, 3) := by decide +kernel
theorem dX7_orderByTardiness_69 : decode cX7_orderByTardiness 69 = .ok (.iload_n 3, 1) := by decide +kernel
theorem dX7_orderByTardiness_70 : decode cX7_orderByTardiness 70 = .ok (.iload 5, 2) := by decide +kernel
theorem dX7_orderByTardiness_72 : decode cX7_orderByTardiness 72 = .ok (.iastore, 1) := by decide +kernel
theorem dX7_orderByTardiness_73 : decode cX7_orderByTardiness 73 = .ok (.iload_n 2, 1) := by decide +kernel
theorem dX7_orderByTardiness_74 : decode cX7_orderByTardiness 74 = .ok (.iconst 1, 1) := by decide +kernel
theorem dX7_orderByTardiness_75 : decode cX7_orderByTardiness 75 = .ok (.iload 5, 2) := by decide +kernel
theorem dX7_orderByTardiness_77 : decode cX7_orderByTardiness 77 = .ok (.ishl, 1) := by decide +kernel
theorem dX7_orderByTardiness_78 : decode cX7_orderByTardiness 78 = .ok (.ior, 1) := by decide +kernel
theorem dX7_orderByTardiness_79 : decode cX7_orderByTardiness 79 = .ok (.istore_n 2, 1) := by decide +kernel
theorem dX7_orderByTardiness_80 : decode cX7_orderByTardiness 80 = .ok (.goto 9, 3) := by decide +kernel
theorem dX7_orderByTardiness_83 : decode cX7_orderByTardiness 83 = .ok (.iinc 5 1, 3) := by decide +kernel
theorem dX7_orderByTardiness_86 : decode cX7_orderByTardiness 86 = .ok (.goto (-59), 3) := by decide +kernel
theorem dX7_orderByTardiness_89 : decode cX7_orderByTardiness 89 = .ok (.iinc 3 1, 3) := by decide +kernel
theorem dX7_orderByTardiness_92 : decode cX7_orderByTardiness 92 = .ok (.goto (-83), 3) := by decide +kernel
theorem dX7_orderByTardiness_95 : decode cX7_orderByTardiness 95 = .ok (.return_, 1) := by decide +kernel
theorem dX7_fillLeastTardiness_0 : decode cX7_fillLeastTardiness 0 = .ok (.aload_n 0, 1) := by decide +kernel
theorem dX7_fillLeastTardiness_1 : decode cX7_fillLeastTardiness 1 = .ok (.getfield 24, 3) := by decide +kernel
theorem dX7_fillLeastTardiness_4 : decode cX7_fillLeastTardiness 4 = .ok (.aload_n 1, 1) := by decide +kernel
theorem dX7_fillLeastTardiness_5 : decode cX7_fillLeastTardiness 5 = .ok (.invokevirtual 76, 3) := by decide +kernel
theorem dX7_fillLeastTardiness_8 : decode cX7_fillLeastTardiness 8 = .ok (.iconst 0, 1) := by decide +kernel
theorem dX7_fillLeastTardiness_9 : decode cX7_fillLeastTardiness 9 = .ok (.iastore, 1) := by decide +kernel
theorem dX7_fillLeastTardiness_10 : decode cX7_fillLeastTardiness 10 = .ok (.aload_n 1, 1) := by decide +kernel
theorem dX7_fillLeastTardiness_11 : decode cX7_fillLeastTardiness 11 = .ok (.invokevirtual 76, 3) := by decide +kernel
theorem dX7_fillLeastTardiness_14 : decode cX7_fillLeastTardiness 14 = .ok (.iconst 1, 1) := by decide +kernel
theorem dX7_fillLeastTardiness_15 : decode cX7_fillLeastTardiness 15 = .ok (.isub, 1) := by decide +kernel
theorem dX7_fillLeastTardiness_16 : decode cX7_fillLeastTardiness 16 = .ok (.istore_n 2, 1) := by decide +kernel
theorem dX7_fillLeastTardiness_17 : decode cX7_fillLeastTardiness 17 = .ok (.iload_n 2, 1) := by decide +kernel
theorem dX7_fillLeastTardiness_18 : decode cX7_fillLeastTardiness 18 = .ok (.ifCond .lt 75, 3) := by decide +kernel
theorem dX7_fillLeastTardiness_21 : decode cX7_fillLeastTardiness 21 = .ok (.aload_n 1, 1) := by decide +kernel
theorem dX7_fillLeastTardiness_22 : decode cX7_fillLeastTardiness 22 = .ok (.iload_n 2, 1) := by decide +kernel
theorem dX7_fillLeastTardiness_23 : decode cX7_fillLeastTardiness 23 = .ok (.invokevirtual 46, 3) := by decide +kernel
theorem dX7_fillLeastTardiness_26 : decode cX7_fillLeastTardiness 26 = .ok (.istore_n 3, 1) := by decide +kernel
theorem dX7_fillLeastTardiness_27 : decode cX7_fillLeastTardiness 27 = .ok (.aload_n 0, 1) := by decide +kernel
theorem dX7_fillLeastTardiness_28 : decode cX7_fillLeastTardiness 28 = .ok (.getfield 24, 3) := by decide +kernel
theorem dX7_fillLeastTardiness_31 : decode cX7_fillLeastTardiness 31 = .ok (.iload_n 2, 1) := by decide +kernel
theorem dX7_fillLeastTardiness_32 : decode cX7_fillLeastTardiness 32 = .ok (.ldc 80, 2) := by decide +kernel
theorem dX7_fillLeastTardiness_34 : decode cX7_fillLeastTardiness 34 = .ok (.iastore, 1) := by decide +kernel
theorem dX7_fillLeastTardiness_35 : decode cX7_fillLeastTardiness 35 = .ok (.iconst 0, 1) := by decide +kernel
theorem dX7_fillLeastTardiness_36 : decode cX7_fillLeastTardiness 36 = .ok (.istore 4, 2) := by decide +kernel
theorem dX7_fillLeastTardiness_38 : decode cX7_fillLeastTardiness 38 = .ok (.iload 4, 2) := by decide +kernel
theorem dX7_fillLeastTardiness_40 : decode cX7_fillLeastTardiness 40 = .ok (.aload_n 1, 1) := by decide +kernel
theorem dX7_fillLeastTardiness_41 : decode cX7_fillLeastTardiness 41 = .ok (.getfield 42, 3) := by decide +kernel
theorem dX7_fillLeastTardiness_44 : decode cX7_fillLeastTardiness 44 = .ok (.if_icmp .ge 43, 3) := by decide +kernel
theorem dX7_fillLeastTardiness_47 : decode cX7_fillLeastTardiness 47 = .ok (.aload_n 1, 1) := by decide +kernel
theorem dX7_fillLeastTardiness_48 : decode cX7_fillLeastTardiness 48 = .ok (.iload_n 2, 1) := by decide +kernel
theorem dX7_fillLeastTardiness_49 : decode cX7_fillLeastTardiness 49 = .ok (.iload 4, 2) := by decide +kernel
theorem dX7_fillLeastTardiness_51 : decode cX7_fillLeastTardiness 51 = .ok (.invokevirtual 61, 3) := by decide +kernel
theorem dX7_fillLeastTardiness_54 : decode cX7_fillLeastTardiness 54 = .ok (.ifCond .ne 27, 3) := by decide +kernel
theorem dX7_fillLeastTardiness_57 : decode cX7_fillLeastTardiness 57 = .ok (.aload_n 0, 1) := by decide +kernel
theorem dX7_fillLeastTardiness_58 : decode cX7_fillLeastTardiness 58 = .ok (.getfield 24, 3) := by decide +kernel
theorem dX7_fillLeastTardiness_61 : decode cX7_fillLeastTardiness 61 = .ok (.iload_n 2, 1) := by decide +kernel
theorem dX7_fillLeastTardiness_62 : decode cX7_fillLeastTardiness 62 = .ok (.aload_n 0, 1) := by decide +kernel
theorem dX7_fillLeastTardiness_63 : decode cX7_fillLeastTardiness 63 = .ok (.getfield 24, 3) := by decide +kernel
theorem dX7_fillLeastTardiness_66 : decode cX7_fillLeastTardiness 66 = .ok (.iload_n 2, 1) := by decide +kernel
theorem dX7_fillLeastTardiness_67 : decode cX7_fillLeastTardiness 67 = .ok (.iaload, 1) := by decide +kernel
theorem dX7_fillLeastTardiness_68 : decode cX7_fillLeastTardiness 68 = .ok (.aload_n 0, 1) := by decide +kernel
theorem dX7_fillLeastTardiness_69 : decode cX7_fillLeastTardiness 69 = .ok (.aload_n 1, 1) := by decide +kernel
theorem dX7_fillLeastTardiness_70 : decode cX7_fillLeastTardiness 70 = .ok (.iload_n 2, 1) := by decide +kernel
theorem dX7_fillLeastTardiness_71 : decode cX7_fillLeastTardiness 71 = .ok (.iload_n 3, 1) := by decide +kernel
theorem dX7_fillLeastTardiness_72 : decode cX7_fillLeastTardiness 72 = .ok (.iload 4, 2) := by decide +kernel
theorem dX7_fillLeastTardiness_74 : decode cX7_fillLeastTardiness 74 = .ok (.invokevirtual 72, 3) := by decide +kernel
theorem dX7_fillLeastTardiness_77 : decode cX7_fillLeastTardiness 77 = .ok (.invokestatic 81, 3) := by decide +kernel
theorem dX7_fillLeastTardiness_80 : decode cX7_fillLeastTardiness 80 = .ok (.iastore, 1) := by decide +kernel
theorem dX7_fillLeastTardiness_81 : decode cX7_fillLeastTardiness 81 = .ok (.iinc 4 1, 3) := by decide +kernel
theorem dX7_fillLeastTardiness_84 : decode cX7_fillLeastTardiness 84 = .ok (.goto (-46), 3) := by decide +kernel
theorem dX7_fillLeastTardiness_87 : decode cX7_fillLeastTardiness 87 = .ok (.iinc 2 (-1), 3) := by decide +kernel
theorem dX7_fillLeastTardiness_90 : decode cX7_fillLeastTardiness 90 = .ok (.goto (-73), 3) := by decide +kernel
theorem dX7_fillLeastTardiness_93 : decode cX7_fillLeastTardiness 93 = .ok (.return_, 1) := by decide +kernel
theorem dX7_tardinessBy_0 : decode cX7_tardinessBy 0 = .ok (.getstatic 87, 3) := by decide +kernel
theorem dX7_tardinessBy_3 : decode cX7_tardinessBy 3 = .ok (.aload_n 0, 1) := by decide +kernel
theorem dX7_tardinessBy_4 : decode cX7_tardinessBy 4 = .ok (.getfield 24, 3) := by decide +kernel
theorem dX7_tardinessBy_7 : decode cX7_tardinessBy 7 = .ok (.iload_n 2, 1) := by decide +kernel
theorem dX7_tardinessBy_8 : decode cX7_tardinessBy 8 = .ok (.iconst 1, 1) := by decide +kernel
theorem dX7_tardinessBy_9 : decode cX7_tardinessBy 9 = .ok (.iload 4, 2) := by decide +kernel
theorem dX7_tardinessBy_11 : decode cX7_tardinessBy 11 = .ok (.ishl, 1) := by decide +kernel
theorem dX7_tardinessBy_12 : decode cX7_tardinessBy 12 = .ok (.ior, 1) := by decide +kernel
theorem dX7_tardinessBy_13 : decode cX7_tardinessBy 13 = .ok (.iaload, 1) := by decide +kernel
theorem dX7_tardinessBy_14 : decode cX7_tardinessBy 14 = .ok (.aload_n 1, 1) := by decide +kernel
theorem dX7_tardinessBy_15 : decode cX7_tardinessBy 15 = .ok (.iload 4, 2) := by decide +kernel
theorem dX7_tardinessBy_17 : decode cX7_tardinessBy 17 = .ok (.iload_n 3, 1) := by decide +kernel
theorem dX7_tardinessBy_18 : decode cX7_tardinessBy 18 = .ok (.aload_n 1, 1) := by decide +kernel
theorem dX7_tardinessBy_19 : decode cX7_tardinessBy 19 = .ok (.getfield 65, 3) := by decide +kernel
theorem dX7_tardinessBy_22 : decode cX7_tardinessBy 22 = .ok (.iload 4, 2) := by decide +kernel
theorem dX7_tardinessBy_24 : decode cX7_tardinessBy 24 = .ok (.iaload, 1) := by decide +kernel
theorem dX7_tardinessBy_25 : decode cX7_tardinessBy 25 = .ok (.iadd, 1) := by decide +kernel
theorem dX7_tardinessBy_26 : decode cX7_tardinessBy 26 = .ok (.invokevirtual 93, 3) := by decide +kernel
theorem dX7_tardinessBy_29 : decode cX7_tardinessBy 29 = .ok (.ireturn, 1) := by decide +kernel
theorem dX7_orderByFamilies_0 : decode cX7_orderByFamilies 0 = .ok (.aload_n 0, 1) := by decide +kernel
theorem dX7_orderByFamilies_1 : decode cX7_orderByFamilies 1 = .ok (.aload_n 1, 1) := by decide +kernel
theorem dX7_orderByFamilies_2 : decode cX7_orderByFamilies 2 = .ok (.invokevirtual 97, 3) := by decide +kernel
theorem dX7_orderByFamilies_5 : decode cX7_orderByFamilies 5 = .ok (.aload_n 0, 1) := by decide +kernel
theorem dX7_orderByFamilies_6 : decode cX7_orderByFamilies 6 = .ok (.aload_n 1, 1) := by decide +kernel
theorem dX7_orderByFamilies_7 : decode cX7_orderByFamilies 7 = .ok (.invokevirtual 100, 3) := by decide +kernel
theorem dX7_orderByFamilies_10 : decode cX7_orderByFamilies 10 = .ok (.aload_n 0, 1) := by decide +kernel
theorem dX7_orderByFamilies_11 : decode cX7_orderByFamilies 11 = .ok (.getfield 24, 3) := by decide +kernel
theorem dX7_orderByFamilies_14 : decode cX7_orderByFamilies 14 = .ok (.iconst 0, 1) := by decide +kernel
theorem dX7_orderByFamilies_15 : decode cX7_orderByFamilies 15 = .ok (.iconst 4, 1) := by decide +kernel
theorem dX7_orderByFamilies_16 : decode cX7_orderByFamilies 16 = .ok (.invokestatic 103, 3) := by decide +kernel
theorem dX7_orderByFamilies_19 : decode cX7_orderByFamilies 19 = .ok (.iaload, 1) := by decide +kernel
theorem dX7_orderByFamilies_20 : decode cX7_orderByFamilies 20 = .ok (.istore_n 2, 1) := by decide +kernel
theorem dX7_orderByFamilies_21 : decode cX7_orderByFamilies 21 = .ok (.iconst 0, 1) := by decide +kernel
theorem dX7_orderByFamilies_22 : decode cX7_orderByFamilies 22 = .ok (.istore_n 3, 1) := by decide +kernel
theorem dX7_orderByFamilies_23 : decode cX7_orderByFamilies 23 = .ok (.iconst 4, 1) := by decide +kernel
theorem dX7_orderByFamilies_24 : decode cX7_orderByFamilies 24 = .ok (.istore 4, 2) := by decide +kernel
theorem dX7_orderByFamilies_26 : decode cX7_orderByFamilies 26 = .ok (.iconst 0, 1) := by decide +kernel
theorem dX7_orderByFamilies_27 : decode cX7_orderByFamilies 27 = .ok (.istore 5, 2) := by decide +kernel
theorem dX7_orderByFamilies_29 : decode cX7_orderByFamilies 29 = .ok (.iconst 0, 1) := by decide +kernel
theorem dX7_orderByFamilies_30 : decode cX7_orderByFamilies 30 = .ok (.istore 6, 2) := by decide +kernel
theorem dX7_orderByFamilies_32 : decode cX7_orderByFamilies 32 = .ok (.iload 6, 2) := by decide +kernel
theorem dX7_orderByFamilies_34 : decode cX7_orderByFamilies 34 = .ok (.aload_n 1, 1) := by decide +kernel
theorem dX7_orderByFamilies_35 : decode cX7_orderByFamilies 35 = .ok (.getfield 42, 3) := by decide +kernel
theorem dX7_orderByFamilies_38 : decode cX7_orderByFamilies 38 = .ok (.if_icmp .ge 104, 3) := by decide +kernel
theorem dX7_orderByFamilies_41 : decode cX7_orderByFamilies 41 = .ok (.iconst 0, 1) := by decide +kernel
theorem dX7_orderByFamilies_42 : decode cX7_orderByFamilies 42 = .ok (.istore 7, 2) := by decide +kernel
theorem dX7_orderByFamilies_44 : decode cX7_orderByFamilies 44 = .ok (.iload 7, 2) := by decide +kernel
theorem dX7_orderByFamilies_46 : decode cX7_orderByFamilies 46 = .ok (.aload_n 1, 1) := by decide +kernel
theorem dX7_orderByFamilies_47 : decode cX7_orderByFamilies 47 = .ok (.getfield 42, 3) := by decide +kernel
theorem dX7_orderByFamilies_50 : decode cX7_orderByFamilies 50 = .ok (.if_icmp .ge 86, 3) := by decide +kernel
theorem dX7_orderByFamilies_53 : decode cX7_orderByFamilies 53 = .ok (.aload_n 0, 1) := by decide +kernel
theorem dX7_orderByFamilies_54 : decode cX7_orderByFamilies 54 = .ok (.aload_n 1, 1) := by decide +kernel
theorem dX7_orderByFamilies_55 : decode cX7_orderByFamilies 55 = .ok (.iload_n 3, 1) := by decide +kernel
theorem dX7_orderByFamilies_56 : decode cX7_orderByFamilies 56 = .ok (.iload 7, 2) := by decide +kernel
theorem dX7_orderByFamilies_58 : decode cX7_orderByFamilies 58 = .ok (.invokevirtual 106, 3) := by decide +kernel
theorem dX7_orderByFamilies_61 : decode cX7_orderByFamilies 61 = .ok (.ifCond .eq 69, 3) := by decide +kernel
theorem dX7_orderByFamilies_64 : decode cX7_orderByFamilies 64 = .ok (.iload 5, 2) := by decide +kernel
theorem dX7_orderByFamilies_66 : decode cX7_orderByFamilies 66 = .ok (.aload_n 0, 1) := by decide +kernel
theorem dX7_orderByFamilies_67 : decode cX7_orderByFamilies 67 = .ok (.aload_n 1, 1) := by decide +kernel
theorem dX7_orderByFamilies_68 : decode cX7_orderByFamilies 68 = .ok (.iload_n 3, 1) := by decide +kernel
theorem dX7_orderByFamilies_69 : decode cX7_orderByFamilies 69 = .ok (.iload 4, 2) := by decide +kernel
theorem dX7_orderByFamilies_71 : decode cX7_orderByFamilies 71 = .ok (.iload 7, 2) := by decide +kernel
theorem dX7_orderByFamilies_73 : decode cX7_orderByFamilies 73 = .ok (.invokevirtual 110, 3) := by decide +kernel
theorem dX7_orderByFamilies_76 : decode cX7_orderByFamilies 76 = .ok (.iadd, 1) := by decide +kernel
theorem dX7_orderByFamilies_77 : decode cX7_orderByFamilies 77 = .ok (.iload_n 2, 1) := by decide +kernel
theorem dX7_orderByFamilies_78 : decode cX7_orderByFamilies 78 = .ok (.if_icmp .gt 52, 3) := by decide +kernel
theorem dX7_orderByFamilies_81 : decode cX7_orderByFamilies 81 = .ok (.aload_n 0, 1) := by decide +kernel
theorem dX7_orderByFamilies_82 : decode cX7_orderByFamilies 82 = .ok (.getfield 9, 3) := by decide +kernel
theorem dX7_orderByFamilies_85 : decode cX7_orderByFamilies 85 = .ok (.iload 6, 2) := by decide +kernel
theorem dX7_orderByFamilies_87 : decode cX7_orderByFamilies 87 = .ok (.iload 7, 2) := by decide +kernel
theorem dX7_orderByFamilies_89 : decode cX7_orderByFamilies 89 = .ok (.iastore, 1) := by decide +kernel
theorem dX7_orderByFamilies_90 : decode cX7_orderByFamilies 90 = .ok (.iload 5, 2) := by decide +kernel
theorem dX7_orderByFamilies_92 : decode cX7_orderByFamilies 92 = .ok (.aload_n 1, 1) := by decide +kernel
theorem dX7_orderByFamilies_93 : decode cX7_orderByFamilies 93 = .ok (.iload 4, 2) := by decide +kernel
theorem dX7_orderByFamilies_95 : decode cX7_orderByFamilies 95 = .ok (.iload 7, 2) := by decide +kernel
theorem dX7_orderByFamilies_97 : decode cX7_orderByFamilies 97 = .ok (.invokevirtual 113, 3) := by decide +kernel
theorem dX7_orderByFamilies_100 : decode cX7_orderByFamilies 100 = .ok (.aload_n 1, 1) := by decide +kernel
theorem dX7_orderByFamilies_101 : decode cX7_orderByFamilies 101 = .ok (.getfield 65, 3) := by decide +kernel
theorem dX7_orderByFamilies_104 : decode cX7_orderByFamilies 104 = .ok (.iload 7, 2) := by decide +kernel
theorem dX7_orderByFamilies_106 : decode cX7_orderByFamilies 106 = .ok (.iaload, 1) := by decide +kernel
theorem dX7_orderByFamilies_107 : decode cX7_orderByFamilies 107 = .ok (.iadd, 1) := by decide +kernel
theorem dX7_orderByFamilies_108 : decode cX7_orderByFamilies 108 = .ok (.iadd, 1) := by decide +kernel
theorem dX7_orderByFamilies_109 : decode cX7_orderByFamilies 109 = .ok (.istore 5, 2) := by decide +kernel
theorem dX7_orderByFamilies_111 : decode cX7_orderByFamilies 111 = .ok (.iload_n 3, 1) := by decide +kernel
theorem dX7_orderByFamilies_112 : decode cX7_orderByFamilies 112 = .ok (.iconst 1, 1) := by decide +kernel
theorem dX7_orderByFamilies_113 : decode cX7_orderByFamilies 113 = .ok (.iload 7, 2) := by decide +kernel
theorem dX7_orderByFamilies_115 : decode cX7_orderByFamilies 115 = .ok (.ishl, 1) := by decide +kernel
theorem dX7_orderByFamilies_116 : decode cX7_orderByFamilies 116 = .ok (.ior, 1) := by decide +kernel
theorem dX7_orderByFamilies_117 : decode cX7_orderByFamilies 117 = .ok (.istore_n 3, 1) := by decide +kernel
theorem dX7_orderByFamilies_118 : decode cX7_orderByFamilies 118 = .ok (.aload_n 1, 1) := by decide +kernel
theorem dX7_orderByFamilies_119 : decode cX7_orderByFamilies 119 = .ok (.getfield 116, 3) := by decide +kernel
theorem dX7_orderByFamilies_122 : decode cX7_orderByFamilies 122 = .ok (.iload 7, 2) := by decide +kernel
theorem dX7_orderByFamilies_124 : decode cX7_orderByFamilies 124 = .ok (.iaload, 1) := by decide +kernel
theorem dX7_orderByFamilies_125 : decode cX7_orderByFamilies 125 = .ok (.istore 4, 2) := by decide +kernel
theorem dX7_orderByFamilies_127 : decode cX7_orderByFamilies 127 = .ok (.goto 9, 3) := by decide +kernel
theorem dX7_orderByFamilies_130 : decode cX7_orderByFamilies 130 = .ok (.iinc 7 1, 3) := by decide +kernel
theorem dX7_orderByFamilies_133 : decode cX7_orderByFamilies 133 = .ok (.goto (-89), 3) := by decide +kernel
theorem dX7_orderByFamilies_136 : decode cX7_orderByFamilies 136 = .ok (.iinc 6 1, 3) := by decide +kernel
theorem dX7_orderByFamilies_139 : decode cX7_orderByFamilies 139 = .ok (.goto (-107), 3) := by decide +kernel
theorem dX7_orderByFamilies_142 : decode cX7_orderByFamilies 142 = .ok (.return_, 1) := by decide +kernel
theorem dX7_fillMustBeDone_0 : decode cX7_fillMustBeDone 0 = .ok (.aload_n 1, 1) := by decide +kernel
theorem dX7_fillMustBeDone_1 : decode cX7_fillMustBeDone 1 = .ok (.aload_n 0, 1) := by decide +kernel
theorem dX7_fillMustBeDone_2 : decode cX7_fillMustBeDone 2 = .ok (.getfield 15, 3) := by decide +kernel
theorem dX7_fillMustBeDone_5 : decode cX7_fillMustBeDone 5 = .ok (.getstatic 27, 3) := by decide +kernel
theorem dX7_fillMustBeDone_8 : decode cX7_fillMustBeDone 8 = .ok (.invokevirtual 33, 3) := by decide +kernel
theorem dX7_fillMustBeDone_11 : decode cX7_fillMustBeDone 11 = .ok (.iconst 0, 1) := by decide +kernel
theorem dX7_fillMustBeDone_12 : decode cX7_fillMustBeDone 12 = .ok (.istore_n 2, 1) := by decide +kernel
theorem dX7_fillMustBeDone_13 : decode cX7_fillMustBeDone 13 = .ok (.iload_n 2, 1) := by decide +kernel
theorem dX7_fillMustBeDone_14 : decode cX7_fillMustBeDone 14 = .ok (.aload_n 1, 1) := by decide +kernel
theorem dX7_fillMustBeDone_15 : decode cX7_fillMustBeDone 15 = .ok (.getfield 42, 3) := by decide +kernel
theorem dX7_fillMustBeDone_18 : decode cX7_fillMustBeDone 18 = .ok (.if_icmp .ge 77, 3) := by decide +kernel
theorem dX7_fillMustBeDone_21 : decode cX7_fillMustBeDone 21 = .ok (.aload_n 0, 1) := by decide +kernel
theorem dX7_fillMustBeDone_22 : decode cX7_fillMustBeDone 22 = .ok (.getfield 15, 3) := by decide +kernel
theorem dX7_fillMustBeDone_25 : decode cX7_fillMustBeDone 25 = .ok (.iload_n 2, 1) := by decide +kernel
theorem dX7_fillMustBeDone_26 : decode cX7_fillMustBeDone 26 = .ok (.iaload, 1) := by decide +kernel
theorem dX7_fillMustBeDone_27 : decode cX7_fillMustBeDone 27 = .ok (.istore_n 3, 1) := by decide +kernel
theorem dX7_fillMustBeDone_28 : decode cX7_fillMustBeDone 28 = .ok (.aload_n 0, 1) := by decide +kernel
theorem dX7_fillMustBeDone_29 : decode cX7_fillMustBeDone 29 = .ok (.getfield 21, 3) := by decide +kernel
theorem dX7_fillMustBeDone_32 : decode cX7_fillMustBeDone 32 = .ok (.iload_n 3, 1) := by decide +kernel
theorem dX7_fillMustBeDone_33 : decode cX7_fillMustBeDone 33 = .ok (.iconst 0, 1) := by decide +kernel
theorem dX7_fillMustBeDone_34 : decode cX7_fillMustBeDone 34 = .ok (.iastore, 1) := by decide +kernel
theorem dX7_fillMustBeDone_35 : decode cX7_fillMustBeDone 35 = .ok (.iconst 0, 1) := by decide +kernel
theorem dX7_fillMustBeDone_36 : decode cX7_fillMustBeDone 36 = .ok (.istore 4, 2) := by decide +kernel
theorem dX7_fillMustBeDone_38 : decode cX7_fillMustBeDone 38 = .ok (.iload 4, 2) := by decide +kernel
theorem dX7_fillMustBeDone_40 : decode cX7_fillMustBeDone 40 = .ok (.iload_n 2, 1) := by decide +kernel
theorem dX7_fillMustBeDone_41 : decode cX7_fillMustBeDone 41 = .ok (.if_icmp .ge 48, 3) := by decide +kernel
theorem dX7_fillMustBeDone_44 : decode cX7_fillMustBeDone 44 = .ok (.aload_n 1, 1) := by decide +kernel
theorem dX7_fillMustBeDone_45 : decode cX7_fillMustBeDone 45 = .ok (.getfield 116, 3) := by decide +kernel
theorem dX7_fillMustBeDone_48 : decode cX7_fillMustBeDone 48 = .ok (.aload_n 0, 1) := by decide +kernel
theorem dX7_fillMustBeDone_49 : decode cX7_fillMustBeDone 49 = .ok (.getfield 15, 3) := by decide +kernel
theorem dX7_fillMustBeDone_52 : decode cX7_fillMustBeDone 52 = .ok (.iload 4, 2) := by decide +kernel
theorem dX7_fillMustBeDone_54 : decode cX7_fillMustBeDone 54 = .ok (.iaload, 1) := by decide +kernel
theorem dX7_fillMustBeDone_55 : decode cX7_fillMustBeDone 55 = .ok (.iaload, 1) := by decide +kernel
theorem dX7_fillMustBeDone_56 : decode cX7_fillMustBeDone 56 = .ok (.aload_n 1, 1) := by decide +kernel
theorem dX7_fillMustBeDone_57 : decode cX7_fillMustBeDone 57 = .ok (.getfield 116, 3) := by decide +kernel
theorem dX7_fillMustBeDone_60 : decode cX7_fillMustBeDone 60 = .ok (.iload_n 3, 1) := by decide +kernel
theorem dX7_fillMustBeDone_61 : decode cX7_fillMustBeDone 61 = .ok (.iaload, 1) := by decide +kernel
theorem dX7_fillMustBeDone_62 : decode cX7_fillMustBeDone 62 = .ok (.if_icmp .ne 21, 3) := by decide +kernel
theorem dX7_fillMustBeDone_65 : decode cX7_fillMustBeDone 65 = .ok (.aload_n 0, 1) := by decide +kernel
theorem dX7_fillMustBeDone_66 : decode cX7_fillMustBeDone 66 = .ok (.getfield 21, 3) := by decide +kernel
theorem dX7_fillMustBeDone_69 : decode cX7_fillMustBeDone 69 = .ok (.iload_n 3, 1) := by decide +kernel
theorem dX7_fillMustBeDone_70 : decode cX7_fillMustBeDone 70 = .ok (.dup2, 1) := by decide +kernel
theorem dX7_fillMustBeDone_71 : decode cX7_fillMustBeDone 71 = .ok (.iaload, 1) := by decide +kernel
theorem dX7_fillMustBeDone_72 : decode cX7_fillMustBeDone 72 = .ok (.iconst 1, 1) := by decide +kernel
theorem dX7_fillMustBeDone_73 : decode cX7_fillMustBeDone 73 = .ok (.aload_n 0, 1) := by decide +kernel
theorem dX7_fillMustBeDone_74 : decode cX7_fillMustBeDone 74 = .ok (.getfield 15, 3) := by decide +kernel
theorem dX7_fillMustBeDone_77 : decode cX7_fillMustBeDone 77 = .ok (.iload 4, 2) := by decide +kernel
theorem dX7_fillMustBeDone_79 : decode cX7_fillMustBeDone 79 = .ok (.iaload, 1) := by decide +kernel
theorem dX7_fillMustBeDone_80 : decode cX7_fillMustBeDone 80 = .ok (.ishl, 1) := by decide +kernel
theorem dX7_fillMustBeDone_81 : decode cX7_fillMustBeDone 81 = .ok (.ior, 1) := by decide +kernel
theorem dX7_fillMustBeDone_82 : decode cX7_fillMustBeDone 82 = .ok (.iastore, 1) := by decide +kernel
theorem dX7_fillMustBeDone_83 : decode cX7_fillMustBeDone 83 = .ok (.iinc 4 1, 3) := by decide +kernel
theorem dX7_fillMustBeDone_86 : decode cX7_fillMustBeDone 86 = .ok (.goto (-48), 3) := by decide +kernel
theorem dX7_fillMustBeDone_89 : decode cX7_fillMustBeDone 89 = .ok (.iinc 2 1, 3) := by decide +kernel
theorem dX7_fillMustBeDone_92 : decode cX7_fillMustBeDone 92 = .ok (.goto (-79), 3) := by decide +kernel
theorem dX7_fillMustBeDone_95 : decode cX7_fillMustBeDone 95 = .ok (.return_, 1) := by decide +kernel
theorem dX7_fillLeastLateness_0 : decode cX7_fillLeastLateness 0 = .ok (.iconst 0, 1) := by decide +kernel
theorem dX7_fillLeastLateness_1 : decode cX7_fillLeastLateness 1 = .ok (.istore_n 2, 1) := by decide +kernel
theorem dX7_fillLeastLateness_2 : decode cX7_fillLeastLateness 2 = .ok (.iload_n 2, 1) := by decide +kernel
theorem dX7_fillLeastLateness_3 : decode cX7_fillLeastLateness 3 = .ok (.iconst 4, 1) := by decide +kernel
theorem dX7_fillLeastLateness_4 : decode cX7_fillLeastLateness 4 = .ok (.if_icmp .gt 24, 3) := by decide +kernel
theorem dX7_fillLeastLateness_7 : decode cX7_fillLeastLateness 7 = .ok (.aload_n 0, 1) := by decide +kernel
theorem dX7_fillLeastLateness_8 : decode cX7_fillLeastLateness 8 = .ok (.getfield 24, 3) := by decide +kernel
theorem dX7_fillLeastLateness_11 : decode cX7_fillLeastLateness 11 = .ok (.aload_n 1, 1) := by decide +kernel
theorem dX7_fillLeastLateness_12 : decode cX7_fillLeastLateness 12 = .ok (.invokevirtual 76, 3) := by decide +kernel
theorem dX7_fillLeastLateness_15 : decode cX7_fillLeastLateness 15 = .ok (.iload_n 2, 1) := by decide +kernel
theorem dX7_fillLeastLateness_16 : decode cX7_fillLeastLateness 16 = .ok (.invokestatic 103, 3) := by decide +kernel
theorem dX7_fillLeastLateness_19 : decode cX7_fillLeastLateness 19 = .ok (.ldc 119, 2) := by decide +kernel
theorem dX7_fillLeastLateness_21 : decode cX7_fillLeastLateness 21 = .ok (.iastore, 1) := by decide +kernel
theorem dX7_fillLeastLateness_22 : decode cX7_fillLeastLateness 22 = .ok (.iinc 2 1, 3) := by decide +kernel
theorem dX7_fillLeastLateness_25 : decode cX7_fillLeastLateness 25 = .ok (.goto (-23), 3) := by decide +kernel
theorem dX7_fillLeastLateness_28 : decode cX7_fillLeastLateness 28 = .ok (.aload_n 1, 1) := by decide +kernel
theorem dX7_fillLeastLateness_29 : decode cX7_fillLeastLateness 29 = .ok (.invokevirtual 76, 3) := by decide +kernel
theorem dX7_fillLeastLateness_32 : decode cX7_fillLeastLateness 32 = .ok (.iconst 1, 1) := by decide +kernel
theorem dX7_fillLeastLateness_33 : decode cX7_fillLeastLateness 33 = .ok (.isub, 1) := by decide +kernel
theorem dX7_fillLeastLateness_34 : decode cX7_fillLeastLateness 34 = .ok (.istore_n 2, 1) := by decide +kernel
theorem dX7_fillLeastLateness_35 : decode cX7_fillLeastLateness 35 = .ok (.iload_n 2, 1) := by decide +kernel
theorem dX7_fillLeastLateness_36 : decode cX7_fillLeastLateness 36 = .ok (.ifCond .lt 48, 3) := by decide +kernel
theorem dX7_fillLeastLateness_39 : decode cX7_fillLeastLateness 39 = .ok (.aload_n 0, 1) := by decide +kernel
theorem dX7_fillLeastLateness_40 : decode cX7_fillLeastLateness 40 = .ok (.aload_n 1, 1) := by decide +kernel
theorem dX7_fillLeastLateness_41 : decode cX7_fillLeastLateness 41 = .ok (.iload_n 2, 1) := by decide +kernel
theorem dX7_fillLeastLateness_42 : decode cX7_fillLeastLateness 42 = .ok (.invokevirtual 120, 3) := by decide +kernel
theorem dX7_fillLeastLateness_45 : decode cX7_fillLeastLateness 45 = .ok (.ifCond .eq 33, 3) := by decide +kernel
theorem dX7_fillLeastLateness_48 : decode cX7_fillLeastLateness 48 = .ok (.iconst 0, 1) := by decide +kernel
theorem dX7_fillLeastLateness_49 : decode cX7_fillLeastLateness 49 = .ok (.istore_n 3, 1) := by decide +kernel
theorem dX7_fillLeastLateness_50 : decode cX7_fillLeastLateness 50 = .ok (.iload_n 3, 1) := by decide +kernel
theorem dX7_fillLeastLateness_51 : decode cX7_fillLeastLateness 51 = .ok (.iconst 4, 1) := by decide +kernel
theorem dX7_fillLeastLateness_52 : decode cX7_fillLeastLateness 52 = .ok (.if_icmp .gt 26, 3) := by decide +kernel
theorem dX7_fillLeastLateness_55 : decode cX7_fillLeastLateness 55 = .ok (.aload_n 0, 1) := by decide +kernel
theorem dX7_fillLeastLateness_56 : decode cX7_fillLeastLateness 56 = .ok (.getfield 24, 3) := by decide +kernel
theorem dX7_fillLeastLateness_59 : decode cX7_fillLeastLateness 59 = .ok (.iload_n 2, 1) := by decide +kernel
theorem dX7_fillLeastLateness_60 : decode cX7_fillLeastLateness 60 = .ok (.iload_n 3, 1) := by decide +kernel
theorem dX7_fillLeastLateness_61 : decode cX7_fillLeastLateness 61 = .ok (.invokestatic 103, 3) := by decide +kernel
theorem dX7_fillLeastLateness_64 : decode cX7_fillLeastLateness 64 = .ok (.aload_n 0, 1) := by decide +kernel
theorem dX7_fillLeastLateness_65 : decode cX7_fillLeastLateness 65 = .ok (.aload_n 1, 1) := by decide +kernel
theorem dX7_fillLeastLateness_66 : decode cX7_fillLeastLateness 66 = .ok (.iload_n 2, 1) := by decide +kernel
theorem dX7_fillLeastLateness_67 : decode cX7_fillLeastLateness 67 = .ok (.iload_n 3, 1) := by decide +kernel
theorem dX7_fillLeastLateness_68 : decode cX7_fillLeastLateness 68 = .ok (.invokevirtual 124, 3) := by decide +kernel
theorem dX7_fillLeastLateness_71 : decode cX7_fillLeastLateness 71 = .ok (.iastore, 1) := by decide +kernel
theorem dX7_fillLeastLateness_72 : decode cX7_fillLeastLateness 72 = .ok (.iinc 3 1, 3) := by decide +kernel
theorem dX7_fillLeastLateness_75 : decode cX7_fillLeastLateness 75 = .ok (.goto (-25), 3) := by decide +kernel
theorem dX7_fillLeastLateness_78 : decode cX7_fillLeastLateness 78 = .ok (.iinc 2 (-1), 3) := by decide +kernel
theorem dX7_fillLeastLateness_81 : decode cX7_fillLeastLateness 81 = .ok (.goto (-46), 3) := by decide +kernel
theorem dX7_fillLeastLateness_84 : decode cX7_fillLeastLateness 84 = .ok (.return_, 1) := by decide +kernel
theorem dX7_keepsFamilyOrders_0 : decode cX7_keepsFamilyOrders 0 = .ok (.iconst 0, 1) := by decide +kernel
theorem dX7_keepsFamilyOrders_1 : decode cX7_keepsFamilyOrders 1 = .ok (.istore_n 3, 1) := by decide +kernel
theorem dX7_keepsFamilyOrders_2 : decode cX7_keepsFamilyOrders 2 = .ok (.iload_n 3, 1) := by decide +kernel
theorem dX7_keepsFamilyOrders_3 : decode cX7_keepsFamilyOrders 3 = .ok (.aload_n 1, 1) := by decide +kernel
theorem dX7_keepsFamilyOrders_4 : decode cX7_keepsFamilyOrders 4 = .ok (.getfield 42, 3) := by decide +kernel
theorem dX7_keepsFamilyOrders_7 : decode cX7_keepsFamilyOrders 7 = .ok (.if_icmp .ge 33, 3) := by decide +kernel
theorem dX7_keepsFamilyOrders_10 : decode cX7_keepsFamilyOrders 10 = .ok (.aload_n 1, 1) := by decide +kernel
theorem dX7_keepsFamilyOrders_11 : decode cX7_keepsFamilyOrders 11 = .ok (.iload_n 2, 1) := by decide +kernel
theorem dX7_keepsFamilyOrders_12 : decode cX7_keepsFamilyOrders 12 = .ok (.iload_n 3, 1) := by decide +kernel
theorem dX7_keepsFamilyOrders_13 : decode cX7_keepsFamilyOrders 13 = .ok (.invokevirtual 61, 3) := by decide +kernel
theorem dX7_keepsFamilyOrders_16 : decode cX7_keepsFamilyOrders 16 = .ok (.ifCond .eq 18, 3) := by decide +kernel
theorem dX7_keepsFamilyOrders_19 : decode cX7_keepsFamilyOrders 19 = .ok (.aload_n 0, 1) := by decide +kernel
theorem dX7_keepsFamilyOrders_20 : decode cX7_keepsFamilyOrders 20 = .ok (.getfield 21, 3) := by decide +kernel
theorem dX7_keepsFamilyOrders_23 : decode cX7_keepsFamilyOrders 23 = .ok (.iload_n 3, 1) := by decide +kernel
theorem dX7_keepsFamilyOrders_24 : decode cX7_keepsFamilyOrders 24 = .ok (.iaload, 1) := by decide +kernel
theorem dX7_keepsFamilyOrders_25 : decode cX7_keepsFamilyOrders 25 = .ok (.iload_n 2, 1) := by decide +kernel
theorem dX7_keepsFamilyOrders_26 : decode cX7_keepsFamilyOrders 26 = .ok (.iconst (-1), 1) := by decide +kernel
theorem dX7_keepsFamilyOrders_27 : decode cX7_keepsFamilyOrders 27 = .ok (.ixor, 1) := by decide +kernel
theorem dX7_keepsFamilyOrders_28 : decode cX7_keepsFamilyOrders 28 = .ok (.iand, 1) := by decide +kernel
theorem dX7_keepsFamilyOrders_29 : decode cX7_keepsFamilyOrders 29 = .ok (.ifCond .eq 5, 3) := by decide +kernel
theorem dX7_keepsFamilyOrders_32 : decode cX7_keepsFamilyOrders 32 = .ok (.iconst 0, 1) := by decide +kernel
theorem dX7_keepsFamilyOrders_33 : decode cX7_keepsFamilyOrders 33 = .ok (.ireturn, 1) := by decide +kernel
theorem dX7_keepsFamilyOrders_34 : decode cX7_keepsFamilyOrders 34 = .ok (.iinc 3 1, 3) := by decide +kernel
theorem dX7_keepsFamilyOrders_37 : decode cX7_keepsFamilyOrders 37 = .ok (.goto (-35), 3) := by decide +kernel
theorem dX7_keepsFamilyOrders_40 : decode cX7_keepsFamilyOrders 40 = .ok (.iconst 1, 1) := by decide +kernel
theorem dX7_keepsFamilyOrders_41 : decode cX7_keepsFamilyOrders 41 = .ok (.ireturn, 1) := by decide +kernel
theorem dX7_leastLatenessFrom_0 : decode cX7_leastLatenessFrom 0 = .ok (.ldc 80, 2) := by decide +kernel
theorem dX7_leastLatenessFrom_2 : decode cX7_leastLatenessFrom 2 = .ok (.istore 4, 2) := by decide +kernel
theorem dX7_leastLatenessFrom_4 : decode cX7_leastLatenessFrom 4 = .ok (.iconst 0, 1) := by decide +kernel
theorem dX7_leastLatenessFrom_5 : decode cX7_leastLatenessFrom 5 = .ok (.istore 5, 2) := by decide +kernel
theorem dX7_leastLatenessFrom_7 : decode cX7_leastLatenessFrom 7 = .ok (.iload 5, 2) := by decide +kernel
theorem dX7_leastLatenessFrom_9 : decode cX7_leastLatenessFrom 9 = .ok (.aload_n 1, 1) := by decide +kernel
theorem dX7_leastLatenessFrom_10 : decode cX7_leastLatenessFrom 10 = .ok (.getfield 42, 3) := by decide +kernel
theorem dX7_leastLatenessFrom_13 : decode cX7_leastLatenessFrom 13 = .ok (.if_icmp .ge 36, 3) := by decide +kernel
theorem dX7_leastLatenessFrom_16 : decode cX7_leastLatenessFrom 16 = .ok (.aload_n 0, 1) := by decide +kernel
theorem dX7_leastLatenessFrom_17 : decode cX7_leastLatenessFrom 17 = .ok (.aload_n 1, 1) := by decide +kernel
theorem dX7_leastLatenessFrom_18 : decode cX7_leastLatenessFrom 18 = .ok (.iload_n 2, 1) := by decide +kernel
theorem dX7_leastLatenessFrom_19 : decode cX7_leastLatenessFrom 19 = .ok (.iload 5, 2) := by decide +kernel
theorem dX7_leastLatenessFrom_21 : decode cX7_leastLatenessFrom 21 = .ok (.invokevirtual 106, 3) := by decide +kernel
theorem dX7_leastLatenessFrom_24 : decode cX7_leastLatenessFrom 24 = .ok (.ifCond .eq 19, 3) := by decide +kernel
theorem dX7_leastLatenessFrom_27 : decode cX7_leastLatenessFrom 27 = .ok (.iload 4, 2) := by decide +kernel
theorem dX7_leastLatenessFrom_29 : decode cX7_leastLatenessFrom 29 = .ok (.aload_n 0, 1) := by decide +kernel
theorem dX7_leastLatenessFrom_30 : decode cX7_leastLatenessFrom 30 = .ok (.aload_n 1, 1) := by decide +kernel
theorem dX7_leastLatenessFrom_31 : decode cX7_leastLatenessFrom 31 = .ok (.iload_n 2, 1) := by decide +kernel
theorem dX7_leastLatenessFrom_32 : decode cX7_leastLatenessFrom 32 = .ok (.iload_n 3, 1) := by decide +kernel
theorem dX7_leastLatenessFrom_33 : decode cX7_leastLatenessFrom 33 = .ok (.iload 5, 2) := by decide +kernel
theorem dX7_leastLatenessFrom_35 : decode cX7_leastLatenessFrom 35 = .ok (.invokevirtual 110, 3) := by decide +kernel
theorem dX7_leastLatenessFrom_38 : decode cX7_leastLatenessFrom 38 = .ok (.invokestatic 81, 3) := by decide +kernel
theorem dX7_leastLatenessFrom_41 : decode cX7_leastLatenessFrom 41 = .ok (.istore 4, 2) := by decide +kernel
theorem dX7_leastLatenessFrom_43 : decode cX7_leastLatenessFrom 43 = .ok (.iinc 5 1, 3) := by decide +kernel
theorem dX7_leastLatenessFrom_46 : decode cX7_leastLatenessFrom 46 = .ok (.goto (-39), 3) := by decide +kernel
theorem dX7_leastLatenessFrom_49 : decode cX7_leastLatenessFrom 49 = .ok (.iload 4, 2) := by decide +kernel
theorem dX7_leastLatenessFrom_51 : decode cX7_leastLatenessFrom 51 = .ok (.ireturn, 1) := by decide +kernel
theorem dX7_latenessBy_0 : decode cX7_latenessBy 0 = .ok (.aload_n 1, 1) := by decide +kernel
theorem dX7_latenessBy_1 : decode cX7_latenessBy 1 = .ok (.iload_n 3, 1) := by decide +kernel
theorem dX7_latenessBy_2 : decode cX7_latenessBy 2 = .ok (.iload 4, 2) := by decide +kernel
theorem dX7_latenessBy_4 : decode cX7_latenessBy 4 = .ok (.invokevirtual 113, 3) := by decide +kernel
theorem dX7_latenessBy_7 : decode cX7_latenessBy 7 = .ok (.aload_n 1, 1) := by decide +kernel
theorem dX7_latenessBy_8 : decode cX7_latenessBy 8 = .ok (.getfield 65, 3) := by decide +kernel
theorem dX7_latenessBy_11 : decode cX7_latenessBy 11 = .ok (.iload 4, 2) := by decide +kernel
theorem dX7_latenessBy_13 : decode cX7_latenessBy 13 = .ok (.iaload, 1) := by decide +kernel
theorem dX7_latenessBy_14 : decode cX7_latenessBy 14 = .ok (.iadd, 1) := by decide +kernel
theorem dX7_latenessBy_15 : decode cX7_latenessBy 15 = .ok (.istore 5, 2) := by decide +kernel
theorem dX7_latenessBy_17 : decode cX7_latenessBy 17 = .ok (.iload 5, 2) := by decide +kernel
theorem dX7_latenessBy_19 : decode cX7_latenessBy 19 = .ok (.aload_n 1, 1) := by decide +kernel
theorem dX7_latenessBy_20 : decode cX7_latenessBy 20 = .ok (.getfield 50, 3) := by decide +kernel
theorem dX7_latenessBy_23 : decode cX7_latenessBy 23 = .ok (.iload 4, 2) := by decide +kernel
theorem dX7_latenessBy_25 : decode cX7_latenessBy 25 = .ok (.iaload, 1) := by decide +kernel
theorem dX7_latenessBy_26 : decode cX7_latenessBy 26 = .ok (.ineg, 1) := by decide +kernel
theorem dX7_latenessBy_27 : decode cX7_latenessBy 27 = .ok (.aload_n 0, 1) := by decide +kernel
theorem dX7_latenessBy_28 : decode cX7_latenessBy 28 = .ok (.getfield 24, 3) := by decide +kernel
theorem dX7_latenessBy_31 : decode cX7_latenessBy 31 = .ok (.iload_n 2, 1) := by decide +kernel
theorem dX7_latenessBy_32 : decode cX7_latenessBy 32 = .ok (.iconst 1, 1) := by decide +kernel
theorem dX7_latenessBy_33 : decode cX7_latenessBy 33 = .ok (.iload 4, 2) := by decide +kernel
theorem dX7_latenessBy_35 : decode cX7_latenessBy 35 = .ok (.ishl, 1) := by decide +kernel
theorem dX7_latenessBy_36 : decode cX7_latenessBy 36 = .ok (.ior, 1) := by decide +kernel
theorem dX7_latenessBy_37 : decode cX7_latenessBy 37 = .ok (.aload_n 1, 1) := by decide +kernel
theorem dX7_latenessBy_38 : decode cX7_latenessBy 38 = .ok (.getfield 116, 3) := by decide +kernel
theorem dX7_latenessBy_41 : decode cX7_latenessBy 41 = .ok (.iload 4, 2) := by decide +kernel
theorem dX7_latenessBy_43 : decode cX7_latenessBy 43 = .ok (.iaload, 1) := by decide +kernel
theorem dX7_latenessBy_44 : decode cX7_latenessBy 44 = .ok (.invokestatic 103, 3) := by decide +kernel
theorem dX7_latenessBy_47 : decode cX7_latenessBy 47 = .ok (.iaload, 1) := by decide +kernel
theorem dX7_latenessBy_48 : decode cX7_latenessBy 48 = .ok (.invokestatic 128, 3) := by decide +kernel
theorem dX7_latenessBy_51 : decode cX7_latenessBy 51 = .ok (.iadd, 1) := by decide +kernel
theorem dX7_latenessBy_52 : decode cX7_latenessBy 52 = .ok (.ireturn, 1) := by decide +kernel
theorem dX7_isNext_0 : decode cX7_isNext 0 = .ok (.aload_n 1, 1) := by decide +kernel
theorem dX7_isNext_1 : decode cX7_isNext 1 = .ok (.iload_n 2, 1) := by decide +kernel
theorem dX7_isNext_2 : decode cX7_isNext 2 = .ok (.iload_n 3, 1) := by decide +kernel
theorem dX7_isNext_3 : decode cX7_isNext 3 = .ok (.invokevirtual 61, 3) := by decide +kernel
theorem dX7_isNext_6 : decode cX7_isNext 6 = .ok (.ifCond .ne 20, 3) := by decide +kernel
theorem dX7_isNext_9 : decode cX7_isNext 9 = .ok (.aload_n 0, 1) := by decide +kernel
theorem dX7_isNext_10 : decode cX7_isNext 10 = .ok (.getfield 21, 3) := by decide +kernel
theorem dX7_isNext_13 : decode cX7_isNext 13 = .ok (.iload_n 3, 1) := by decide +kernel
theorem dX7_isNext_14 : decode cX7_isNext 14 = .ok (.iaload, 1) := by decide +kernel
theorem dX7_isNext_15 : decode cX7_isNext 15 = .ok (.iload_n 2, 1) := by decide +kernel
theorem dX7_isNext_16 : decode cX7_isNext 16 = .ok (.iconst (-1), 1) := by decide +kernel
theorem dX7_isNext_17 : decode cX7_isNext 17 = .ok (.ixor, 1) := by decide +kernel
theorem dX7_isNext_18 : decode cX7_isNext 18 = .ok (.iand, 1) := by decide +kernel
theorem dX7_isNext_19 : decode cX7_isNext 19 = .ok (.ifCond .ne 7, 3) := by decide +kernel
theorem dX7_isNext_22 : decode cX7_isNext 22 = .ok (.iconst 1, 1) := by decide +kernel
theorem dX7_isNext_23 : decode cX7_isNext 23 = .ok (.goto 4, 3) := by decide +kernel
theorem dX7_isNext_26 : decode cX7_isNext 26 = .ok (.iconst 0, 1) := by decide +kernel
theorem dX7_isNext_27 : decode cX7_isNext 27 = .ok (.ireturn, 1) := by decide +kernel
theorem dX7_state_0 : decode cX7_state 0 = .ok (.iload_n 0, 1) := by decide +kernel
theorem dX7_state_1 : decode cX7_state 1 = .ok (.iconst 5, 1) := by decide +kernel
theorem dX7_state_2 : decode cX7_state 2 = .ok (.imul, 1) := by decide +kernel
theorem dX7_state_3 : decode cX7_state 3 = .ok (.iload_n 1, 1) := by decide +kernel
theorem dX7_state_4 : decode cX7_state 4 = .ok (.iadd, 1) := by decide +kernel
theorem dX7_state_5 : decode cX7_state 5 = .ok (.ireturn, 1) := by decide +kernel
theorem dX8_init_0 : decode cX8_init 0 = .ok (.aload_n 0, 1) := by decide +kernel
theorem dX8_init_1 : decode cX8_init 1 = .ok (.invokespecial 3, 3) := by decide +kernel
theorem dX8_init_4 : decode cX8_init 4 = .ok (.aload_n 0, 1) := by decide +kernel
theorem dX8_init_5 : decode cX8_init 5 = .ok (.bipush 10, 2) := by decide +kernel
theorem dX8_init_7 : decode cX8_init 7 = .ok (.newarray .int, 2) := by decide +kernel
theorem dX8_init_9 : decode cX8_init 9 = .ok (.putfield 9, 3) := by decide +kernel
theorem dX8_init_12 : decode cX8_init 12 = .ok (.return_, 1) := by decide +kernel
theorem dX8_isOnTime_0 : decode cX8_isOnTime 0 = .ok (.aload_n 1, 1) := by decide +kernel
theorem dX8_isOnTime_1 : decode cX8_isOnTime 1 = .ok (.aload_n 0, 1) := by decide +kernel
theorem dX8_isOnTime_2 : decode cX8_isOnTime 2 = .ok (.getfield 9, 3) := by decide +kernel
theorem dX8_isOnTime_5 : decode cX8_isOnTime 5 = .ok (.getstatic 15, 3) := by decide +kernel
theorem dX8_isOnTime_8 : decode cX8_isOnTime 8 = .ok (.invokevirtual 21, 3) := by decide +kernel
theorem dX8_isOnTime_11 : decode cX8_isOnTime 11 = .ok (.aload_n 0, 1) := by decide +kernel
theorem dX8_isOnTime_12 : decode cX8_isOnTime 12 = .ok (.aload_n 1, 1) := by decide +kernel
theorem dX8_isOnTime_13 : decode cX8_isOnTime 13 = .ok (.iload_n 2, 1) := by decide +kernel
theorem dX8_isOnTime_14 : decode cX8_isOnTime 14 = .ok (.invokevirtual 27, 3) := by decide +kernel
theorem dX8_isOnTime_17 : decode cX8_isOnTime 17 = .ok (.ireturn, 1) := by decide +kernel
theorem dX8_mostOnTime_0 : decode cX8_mostOnTime 0 = .ok (.aload_n 1, 1) := by decide +kernel
theorem dX8_mostOnTime_1 : decode cX8_mostOnTime 1 = .ok (.aload_n 0, 1) := by decide +kernel
theorem dX8_mostOnTime_2 : decode cX8_mostOnTime 2 = .ok (.getfield 9, 3) := by decide +kernel
theorem dX8_mostOnTime_5 : decode cX8_mostOnTime 5 = .ok (.getstatic 15, 3) := by decide +kernel
theorem dX8_mostOnTime_8 : decode cX8_mostOnTime 8 = .ok (.invokevirtual 21, 3) := by decide +kernel
theorem dX8_mostOnTime_11 : decode cX8_mostOnTime 11 = .ok (.iconst 0, 1) := by decide +kernel
theorem dX8_mostOnTime_12 : decode cX8_mostOnTime 12 = .ok (.istore_n 2, 1) := by decide +kernel
theorem dX8_mostOnTime_13 : decode cX8_mostOnTime 13 = .ok (.iconst 0, 1) := by decide +kernel
theorem dX8_mostOnTime_14 : decode cX8_mostOnTime 14 = .ok (.istore_n 3, 1) := by decide +kernel
theorem dX8_mostOnTime_15 : decode cX8_mostOnTime 15 = .ok (.iload_n 3, 1) := by decide +kernel
theorem dX8_mostOnTime_16 : decode cX8_mostOnTime 16 = .ok (.aload_n 1, 1) := by decide +kernel
theorem dX8_mostOnTime_17 : decode cX8_mostOnTime 17 = .ok (.invokevirtual 31, 3) := by decide +kernel
theorem dX8_mostOnTime_20 : decode cX8_mostOnTime 20 = .ok (.if_icmp .gt 31, 3) := by decide +kernel
theorem dX8_mostOnTime_23 : decode cX8_mostOnTime 23 = .ok (.iload_n 3, 1) := by decide +kernel
theorem dX8_mostOnTime_24 : decode cX8_mostOnTime 24 = .ok (.invokestatic 35, 3) := by decide +kernel
theorem dX8_mostOnTime_27 : decode cX8_mostOnTime 27 = .ok (.iload_n 2, 1) := by decide +kernel
theorem dX8_mostOnTime_28 : decode cX8_mostOnTime 28 = .ok (.if_icmp .le 17, 3) := by decide +kernel
theorem dX8_mostOnTime_31 : decode cX8_mostOnTime 31 = .ok (.aload_n 0, 1) := by decide +kernel
theorem dX8_mostOnTime_32 : decode cX8_mostOnTime 32 = .ok (.aload_n 1, 1) := by decide +kernel
theorem dX8_mostOnTime_33 : decode cX8_mostOnTime 33 = .ok (.iload_n 3, 1) := by decide +kernel
theorem dX8_mostOnTime_34 : decode cX8_mostOnTime 34 = .ok (.invokevirtual 27, 3) := by decide +kernel
theorem dX8_mostOnTime_37 : decode cX8_mostOnTime 37 = .ok (.ifCond .eq 8, 3) := by decide +kernel
theorem dX8_mostOnTime_40 : decode cX8_mostOnTime 40 = .ok (.iload_n 3, 1) := by decide +kernel
theorem dX8_mostOnTime_41 : decode cX8_mostOnTime 41 = .ok (.invokestatic 35, 3) := by decide +kernel
theorem dX8_mostOnTime_44 : decode cX8_mostOnTime 44 = .ok (.istore_n 2, 1) := by decide +kernel
theorem dX8_mostOnTime_45 : decode cX8_mostOnTime 45 = .ok (.iinc 3 1, 3) := by decide +kernel
theorem dX8_mostOnTime_48 : decode cX8_mostOnTime 48 = .ok (.goto (-33), 3) := by decide +kernel
theorem dX8_mostOnTime_51 : decode cX8_mostOnTime 51 = .ok (.iload_n 2, 1) := by decide +kernel
theorem dX8_mostOnTime_52 : decode cX8_mostOnTime 52 = .ok (.ireturn, 1) := by decide +kernel
theorem dX8_isOnTimeByDue_0 : decode cX8_isOnTimeByDue 0 = .ok (.iconst 0, 1) := by decide +kernel
theorem dX8_isOnTimeByDue_1 : decode cX8_isOnTimeByDue 1 = .ok (.istore_n 3, 1) := by decide +kernel
theorem dX8_isOnTimeByDue_2 : decode cX8_isOnTimeByDue 2 = .ok (.iconst 0, 1) := by decide +kernel
theorem dX8_isOnTimeByDue_3 : decode cX8_isOnTimeByDue 3 = .ok (.istore 4, 2) := by decide +kernel
theorem dX8_isOnTimeByDue_5 : decode cX8_isOnTimeByDue 5 = .ok (.iload 4, 2) := by decide +kernel
theorem dX8_isOnTimeByDue_7 : decode cX8_isOnTimeByDue 7 = .ok (.aload_n 1, 1) := by decide +kernel
theorem dX8_isOnTimeByDue_8 : decode cX8_isOnTimeByDue 8 = .ok (.getfield 41, 3) := by decide +kernel
theorem dX8_isOnTimeByDue_11 : decode cX8_isOnTimeByDue 11 = .ok (.if_icmp .ge 51, 3) := by decide +kernel
theorem dX8_isOnTimeByDue_14 : decode cX8_isOnTimeByDue 14 = .ok (.aload_n 0, 1) := by decide +kernel
theorem dX8_isOnTimeByDue_15 : decode cX8_isOnTimeByDue 15 = .ok (.getfield 9, 3) := by decide +kernel
theorem dX8_isOnTimeByDue_18 : decode cX8_isOnTimeByDue 18 = .ok (.iload 4, 2) := by decide +kernel
theorem dX8_isOnTimeByDue_20 : decode cX8_isOnTimeByDue 20 = .ok (.iaload, 1) := by decide +kernel
theorem dX8_isOnTimeByDue_21 : decode cX8_isOnTimeByDue 21 = .ok (.istore 5, 2) := by decide +kernel
theorem dX8_isOnTimeByDue_23 : decode cX8_isOnTimeByDue 23 = .ok (.aload_n 1, 1) := by decide +kernel
theorem dX8_isOnTimeByDue_24 : decode cX8_isOnTimeByDue 24 = .ok (.iload_n 2, 1) := by decide +kernel
theorem dX8_isOnTimeByDue_25 : decode cX8_isOnTimeByDue 25 = .ok (.iload 5, 2) := by decide +kernel
theorem dX8_isOnTimeByDue_27 : decode cX8_isOnTimeByDue 27 = .ok (.invokevirtual 45, 3) := by decide +kernel
theorem dX8_isOnTimeByDue_30 : decode cX8_isOnTimeByDue 30 = .ok (.ifCond .eq 26, 3) := by decide +kernel
theorem dX8_isOnTimeByDue_33 : decode cX8_isOnTimeByDue 33 = .ok (.iload_n 3, 1) := by decide +kernel
theorem dX8_isOnTimeByDue_34 : decode cX8_isOnTimeByDue 34 = .ok (.aload_n 1, 1) := by decide +kernel
theorem dX8_isOnTimeByDue_35 : decode cX8_isOnTimeByDue 35 = .ok (.getfield 49, 3) := by decide +kernel
theorem dX8_isOnTimeByDue_38 : decode cX8_isOnTimeByDue 38 = .ok (.iload 5, 2) := by decide +kernel
theorem dX8_isOnTimeByDue_40 : decode cX8_isOnTimeByDue 40 = .ok (.iaload, 1) := by decide +kernel
theorem dX8_isOnTimeByDue_41 : decode cX8_isOnTimeByDue 41 = .ok (.iadd, 1) := by decide +kernel
theorem dX8_isOnTimeByDue_42 : decode cX8_isOnTimeByDue 42 = .ok (.istore_n 3, 1) := by decide +kernel
theorem dX8_isOnTimeByDue_43 : decode cX8_isOnTimeByDue 43 = .ok (.iload_n 3, 1) := by decide +kernel
theorem dX8_isOnTimeByDue_44 : decode cX8_isOnTimeByDue 44 = .ok (.aload_n 1, 1) := by decide +kernel
theorem dX8_isOnTimeByDue_45 : decode cX8_isOnTimeByDue 45 = .ok (.getfield 52, 3) := by decide +kernel
theorem dX8_isOnTimeByDue_48 : decode cX8_isOnTimeByDue 48 = .ok (.iload 5, 2) := by decide +kernel
theorem dX8_isOnTimeByDue_50 : decode cX8_isOnTimeByDue 50 = .ok (.iaload, 1) := by decide +kernel
theorem dX8_isOnTimeByDue_51 : decode cX8_isOnTimeByDue 51 = .ok (.if_icmp .le 5, 3) := by decide +kernel
theorem dX8_isOnTimeByDue_54 : decode cX8_isOnTimeByDue 54 = .ok (.iconst 0, 1) := by decide +kernel
theorem dX8_isOnTimeByDue_55 : decode cX8_isOnTimeByDue 55 = .ok (.ireturn, 1) := by decide +kernel
theorem dX8_isOnTimeByDue_56 : decode cX8_isOnTimeByDue 56 = .ok (.iinc 4 1, 3) := by decide +kernel
theorem dX8_isOnTimeByDue_59 : decode cX8_isOnTimeByDue 59 = .ok (.goto (-54), 3) := by decide +kernel
theorem dX8_isOnTimeByDue_62 : decode cX8_isOnTimeByDue 62 = .ok (.iconst 1, 1) := by decide +kernel
theorem dX8_isOnTimeByDue_63 : decode cX8_isOnTimeByDue 63 = .ok (.ireturn, 1) := by decide +kernel
theorem dX10_init_0 : decode cX10_init 0 = .ok (.aload_n 0, 1) := by decide +kernel
theorem dX10_init_1 : decode cX10_init 1 = .ok (.invokespecial 3, 3) := by decide +kernel
theorem dX10_init_4 : decode cX10_init 4 = .ok (.return_, 1) := by decide +kernel
theorem dX10_findGreatest_0 : decode cX10_findGreatest 0 = .ok (.aload_n 0, 1) := by decide +kernel
theorem dX10_findGreatest_1 : decode cX10_findGreatest 1 = .ok (.ldc 9, 2) := by decide +kernel
theorem dX10_findGreatest_3 : decode cX10_findGreatest 3 = .ok (.putfield 10, 3) := by decide +kernel
theorem dX10_findGreatest_6 : decode cX10_findGreatest 6 = .ok (.iconst 0, 1) := by decide +kernel
theorem dX10_findGreatest_7 : decode cX10_findGreatest 7 = .ok (.istore_n 3, 1) := by decide +kernel
theorem dX10_findGreatest_8 : decode cX10_findGreatest 8 = .ok (.iload_n 3, 1) := by decide +kernel
theorem dX10_findGreatest_9 : decode cX10_findGreatest 9 = .ok (.aload_n 1, 1) := by decide +kernel
theorem dX10_findGreatest_10 : decode cX10_findGreatest 10 = .ok (.getfield 16, 3) := by decide +kernel
theorem dX10_findGreatest_13 : decode cX10_findGreatest 13 = .ok (.if_icmp .ge 54, 3) := by decide +kernel
theorem dX10_findGreatest_16 : decode cX10_findGreatest 16 = .ok (.iconst 0, 1) := by decide +kernel
theorem dX10_findGreatest_17 : decode cX10_findGreatest 17 = .ok (.istore 4, 2) := by decide +kernel
theorem dX10_findGreatest_19 : decode cX10_findGreatest 19 = .ok (.iload 4, 2) := by decide +kernel
theorem dX10_findGreatest_21 : decode cX10_findGreatest 21 = .ok (.aload_n 1, 1) := by decide +kernel
theorem dX10_findGreatest_22 : decode cX10_findGreatest 22 = .ok (.getfield 16, 3) := by decide +kernel
theorem dX10_findGreatest_25 : decode cX10_findGreatest 25 = .ok (.if_icmp .ge 36, 3) := by decide +kernel
theorem dX10_findGreatest_28 : decode cX10_findGreatest 28 = .ok (.aload_n 0, 1) := by decide +kernel
theorem dX10_findGreatest_29 : decode cX10_findGreatest 29 = .ok (.aload_n 1, 1) := by decide +kernel
theorem dX10_findGreatest_30 : decode cX10_findGreatest 30 = .ok (.iload_n 2, 1) := by decide +kernel
theorem dX10_findGreatest_31 : decode cX10_findGreatest 31 = .ok (.iload_n 2, 1) := by decide +kernel
theorem dX10_findGreatest_32 : decode cX10_findGreatest 32 = .ok (.ifCond .eq 12, 3) := by decide +kernel
theorem dX10_findGreatest_35 : decode cX10_findGreatest 35 = .ok (.aload_n 1, 1) := by decide +kernel
theorem dX10_findGreatest_36 : decode cX10_findGreatest 36 = .ok (.getfield 21, 3) := by decide +kernel
theorem dX10_findGreatest_39 : decode cX10_findGreatest 39 = .ok (.iload_n 3, 1) := by decide +kernel
theorem dX10_findGreatest_40 : decode cX10_findGreatest 40 = .ok (.iaload, 1) := by decide +kernel
theorem dX10_findGreatest_41 : decode cX10_findGreatest 41 = .ok (.goto 4, 3) := by decide +kernel
theorem dX10_findGreatest_44 : decode cX10_findGreatest 44 = .ok (.iconst 0, 1) := by decide +kernel
theorem dX10_findGreatest_45 : decode cX10_findGreatest 45 = .ok (.aload_n 1, 1) := by decide +kernel
theorem dX10_findGreatest_46 : decode cX10_findGreatest 46 = .ok (.getfield 25, 3) := by decide +kernel
theorem dX10_findGreatest_49 : decode cX10_findGreatest 49 = .ok (.iload 4, 2) := by decide +kernel
theorem dX10_findGreatest_51 : decode cX10_findGreatest 51 = .ok (.iaload, 1) := by decide +kernel
theorem dX10_findGreatest_52 : decode cX10_findGreatest 52 = .ok (.invokevirtual 28, 3) := by decide +kernel
theorem dX10_findGreatest_55 : decode cX10_findGreatest 55 = .ok (.iinc 4 1, 3) := by decide +kernel
theorem dX10_findGreatest_58 : decode cX10_findGreatest 58 = .ok (.goto (-39), 3) := by decide +kernel
theorem dX10_findGreatest_61 : decode cX10_findGreatest 61 = .ok (.iinc 3 1, 3) := by decide +kernel
theorem dX10_findGreatest_64 : decode cX10_findGreatest 64 = .ok (.goto (-56), 3) := by decide +kernel
theorem dX10_findGreatest_67 : decode cX10_findGreatest 67 = .ok (.return_, 1) := by decide +kernel
theorem dX10_tryWindow_0 : decode cX10_tryWindow 0 = .ok (.aload_n 1, 1) := by decide +kernel
theorem dX10_tryWindow_1 : decode cX10_tryWindow 1 = .ok (.iload_n 2, 1) := by decide +kernel
theorem dX10_tryWindow_2 : decode cX10_tryWindow 2 = .ok (.iload_n 3, 1) := by decide +kernel
theorem dX10_tryWindow_3 : decode cX10_tryWindow 3 = .ok (.iload 4, 2) := by decide +kernel
theorem dX10_tryWindow_5 : decode cX10_tryWindow 5 = .ok (.invokestatic 32, 3) := by decide +kernel
theorem dX10_tryWindow_8 : decode cX10_tryWindow 8 = .ok (.istore 5, 2) := by decide +kernel
theorem dX10_tryWindow_10 : decode cX10_tryWindow 10 = .ok (.iload_n 3, 1) := by decide +kernel
theorem dX10_tryWindow_11 : decode cX10_tryWindow 11 = .ok (.iload 5, 2) := by decide +kernel
theorem dX10_tryWindow_13 : decode cX10_tryWindow 13 = .ok (.iadd, 1) := by decide +kernel
theorem dX10_tryWindow_14 : decode cX10_tryWindow 14 = .ok (.iload 4, 2) := by decide +kernel
theorem dX10_tryWindow_16 : decode cX10_tryWindow 16 = .ok (.isub, 1) := by decide +kernel
theorem dX10_tryWindow_17 : decode cX10_tryWindow 17 = .ok (.istore 6, 2) := by decide +kernel
theorem dX10_tryWindow_19 : decode cX10_tryWindow 19 = .ok (.iload 5, 2) := by decide +kernel
theorem dX10_tryWindow_21 : decode cX10_tryWindow 21 = .ok (.ifCond .le 32, 3) := by decide +kernel
theorem dX10_tryWindow_24 : decode cX10_tryWindow 24 = .ok (.aload_n 0, 1) := by decide +kernel
theorem dX10_tryWindow_25 : decode cX10_tryWindow 25 = .ok (.iload 6, 2) := by decide +kernel
theorem dX10_tryWindow_27 : decode cX10_tryWindow 27 = .ok (.iload 4, 2) := by decide +kernel
theorem dX10_tryWindow_29 : decode cX10_tryWindow 29 = .ok (.iload_n 3, 1) := by decide +kernel
theorem dX10_tryWindow_30 : decode cX10_tryWindow 30 = .ok (.invokevirtual 36, 3) := by decide +kernel
theorem dX10_tryWindow_33 : decode cX10_tryWindow 33 = .ok (.ifCond .eq 20, 3) := by decide +kernel
theorem dX10_tryWindow_36 : decode cX10_tryWindow 36 = .ok (.aload_n 0, 1) := by decide +kernel
theorem dX10_tryWindow_37 : decode cX10_tryWindow 37 = .ok (.iload 6, 2) := by decide +kernel
theorem dX10_tryWindow_39 : decode cX10_tryWindow 39 = .ok (.putfield 10, 3) := by decide +kernel
theorem dX10_tryWindow_42 : decode cX10_tryWindow 42 = .ok (.aload_n 0, 1) := by decide +kernel
theorem dX10_tryWindow_43 : decode cX10_tryWindow 43 = .ok (.iload 4, 2) := by decide +kernel
theorem dX10_tryWindow_45 : decode cX10_tryWindow 45 = .ok (.putfield 40, 3) := by decide +kernel
theorem dX10_tryWindow_48 : decode cX10_tryWindow 48 = .ok (.aload_n 0, 1) := by decide +kernel
theorem dX10_tryWindow_49 : decode cX10_tryWindow 49 = .ok (.iload_n 3, 1) := by decide +kernel
theorem dX10_tryWindow_50 : decode cX10_tryWindow 50 = .ok (.putfield 42, 3) := by decide +kernel
theorem dX10_tryWindow_53 : decode cX10_tryWindow 53 = .ok (.return_, 1) := by decide +kernel
theorem dX10_isBetter_0 : decode cX10_isBetter 0 = .ok (.iload_n 1, 1) := by decide +kernel
theorem dX10_isBetter_1 : decode cX10_isBetter 1 = .ok (.aload_n 0, 1) := by decide +kernel
theorem dX10_isBetter_2 : decode cX10_isBetter 2 = .ok (.getfield 10, 3) := by decide +kernel
theorem dX10_isBetter_5 : decode cX10_isBetter 5 = .ok (.if_icmp .eq 17, 3) := by decide +kernel
theorem dX10_isBetter_8 : decode cX10_isBetter 8 = .ok (.iload_n 1, 1) := by decide +kernel
theorem dX10_isBetter_9 : decode cX10_isBetter 9 = .ok (.aload_n 0, 1) := by decide +kernel
theorem dX10_isBetter_10 : decode cX10_isBetter 10 = .ok (.getfield 10, 3) := by decide +kernel
theorem dX10_isBetter_13 : decode cX10_isBetter 13 = .ok (.if_icmp .le 7, 3) := by decide +kernel
theorem dX10_isBetter_16 : decode cX10_isBetter 16 = .ok (.iconst 1, 1) := by decide +kernel
theorem dX10_isBetter_17 : decode cX10_isBetter 17 = .ok (.goto 4, 3) := by decide +kernel
theorem dX10_isBetter_20 : decode cX10_isBetter 20 = .ok (.iconst 0, 1) := by decide +kernel
theorem dX10_isBetter_21 : decode cX10_isBetter 21 = .ok (.ireturn, 1) := by decide +kernel
theorem dX10_isBetter_22 : decode cX10_isBetter 22 = .ok (.iload_n 2, 1) := by decide +kernel
theorem dX10_isBetter_23 : decode cX10_isBetter 23 = .ok (.aload_n 0, 1) := by decide +kernel
theorem dX10_isBetter_24 : decode cX10_isBetter 24 = .ok (.getfield 40, 3) := by decide +kernel
theorem dX10_isBetter_27 : decode cX10_isBetter 27 = .ok (.if_icmp .eq 19, 3) := by decide +kernel
theorem dX10_isBetter_30 : decode cX10_isBetter 30 = .ok (.iload_n 2, 1) := by decide +kernel
theorem dX10_isBetter_31 : decode cX10_isBetter 31 = .ok (.aload_n 0, 1) := by decide +kernel
theorem dX10_isBetter_32 : decode cX10_isBetter 32 = .ok (.getfield 40, 3) := by decide +kernel
theorem dX10_isBetter_35 : decode cX10_isBetter 35 = .ok (.if_icmp .ge 7, 3) := by decide +kernel
theorem dX10_isBetter_38 : decode cX10_isBetter 38 = .ok (.iconst 1, 1) := by decide +kernel
theorem dX10_isBetter_39 : decode cX10_isBetter 39 = .ok (.goto 20, 3) := by decide +kernel
theorem dX10_isBetter_42 : decode cX10_isBetter 42 = .ok (.iconst 0, 1) := by decide +kernel
theorem dX10_isBetter_43 : decode cX10_isBetter 43 = .ok (.goto 16, 3) := by decide +kernel
theorem dX10_isBetter_46 : decode cX10_isBetter 46 = .ok (.iload_n 3, 1) := by decide +kernel
theorem dX10_isBetter_47 : decode cX10_isBetter 47 = .ok (.aload_n 0, 1) := by decide +kernel
theorem dX10_isBetter_48 : decode cX10_isBetter 48 = .ok (.getfield 42, 3) := by decide +kernel
theorem dX10_isBetter_51 : decode cX10_isBetter 51 = .ok (.if_icmp .ge 7, 3) := by decide +kernel
theorem dX10_isBetter_54 : decode cX10_isBetter 54 = .ok (.iconst 1, 1) := by decide +kernel
theorem dX10_isBetter_55 : decode cX10_isBetter 55 = .ok (.goto 4, 3) := by decide +kernel
theorem dX10_isBetter_58 : decode cX10_isBetter 58 = .ok (.iconst 0, 1) := by decide +kernel
theorem dX10_isBetter_59 : decode cX10_isBetter 59 = .ok (.ireturn, 1) := by decide +kernel
theorem dX10_lengthsWithin_0 : decode cX10_lengthsWithin 0 = .ok (.iconst 0, 1) := by decide +kernel
theorem dX10_lengthsWithin_1 : decode cX10_lengthsWithin 1 = .ok (.istore 4, 2) := by decide +kernel
theorem dX10_lengthsWithin_3 : decode cX10_lengthsWithin 3 = .ok (.iconst 0, 1) := by decide +kernel
theorem dX10_lengthsWithin_4 : decode cX10_lengthsWithin 4 = .ok (.istore 5, 2) := by decide +kernel
theorem dX10_lengthsWithin_6 : decode cX10_lengthsWithin 6 = .ok (.iload 5, 2) := by decide +kernel
theorem dX10_lengthsWithin_8 : decode cX10_lengthsWithin 8 = .ok (.aload_n 0, 1) := by decide +kernel
theorem dX10_lengthsWithin_9 : decode cX10_lengthsWithin 9 = .ok (.getfield 16, 3) := by decide +kernel
theorem dX10_lengthsWithin_12 : decode cX10_lengthsWithin 12 = .ok (.if_icmp .ge 59, 3) := by decide +kernel
theorem dX10_lengthsWithin_15 : decode cX10_lengthsWithin 15 = .ok (.iload_n 1, 1) := by decide +kernel
theorem dX10_lengthsWithin_16 : decode cX10_lengthsWithin 16 = .ok (.ifCond .eq 14, 3) := by decide +kernel
theorem dX10_lengthsWithin_19 : decode cX10_lengthsWithin 19 = .ok (.aload_n 0, 1) := by decide +kernel
theorem dX10_lengthsWithin_20 : decode cX10_lengthsWithin 20 = .ok (.getfield 21, 3) := by decide +kernel
theorem dX10_lengthsWithin_23 : decode cX10_lengthsWithin 23 = .ok (.iload 5, 2) := by decide +kernel
theorem dX10_lengthsWithin_25 : decode cX10_lengthsWithin 25 = .ok (.iaload, 1) := by decide +kernel
theorem dX10_lengthsWithin_26 : decode cX10_lengthsWithin 26 = .ok (.iload_n 2, 1) := by decide +kernel
theorem dX10_lengthsWithin_27 : decode cX10_lengthsWithin 27 = .ok (.if_icmp .lt 7, 3) := by decide +kernel
theorem dX10_lengthsWithin_30 : decode cX10_lengthsWithin 30 = .ok (.iconst 1, 1) := by decide +kernel
theorem dX10_lengthsWithin_31 : decode cX10_lengthsWithin 31 = .ok (.goto 4, 3) := by decide +kernel
theorem dX10_lengthsWithin_34 : decode cX10_lengthsWithin 34 = .ok (.iconst 0, 1) := by decide +kernel
theorem dX10_lengthsWithin_35 : decode cX10_lengthsWithin 35 = .ok (.istore 6, 2) := by decide +kernel
theorem dX10_lengthsWithin_37 : decode cX10_lengthsWithin 37 = .ok (.iload 6, 2) := by decide +kernel
theorem dX10_lengthsWithin_39 : decode cX10_lengthsWithin 39 = .ok (.ifCond .eq 26, 3) := by decide +kernel
theorem dX10_lengthsWithin_42 : decode cX10_lengthsWithin 42 = .ok (.aload_n 0, 1) := by decide +kernel
theorem dX10_lengthsWithin_43 : decode cX10_lengthsWithin 43 = .ok (.getfield 25, 3) := by decide +kernel
theorem dX10_lengthsWithin_46 : decode cX10_lengthsWithin 46 = .ok (.iload 5, 2) := by decide +kernel
theorem dX10_lengthsWithin_48 : decode cX10_lengthsWithin 48 = .ok (.iaload, 1) := by decide +kernel
theorem dX10_lengthsWithin_49 : decode cX10_lengthsWithin 49 = .ok (.iload_n 3, 1) := by decide +kernel
theorem dX10_lengthsWithin_50 : decode cX10_lengthsWithin 50 = .ok (.if_icmp .gt 15, 3) := by decide +kernel
theorem dX10_lengthsWithin_53 : decode cX10_lengthsWithin 53 = .ok (.iload 4, 2) := by decide +kernel
theorem dX10_lengthsWithin_55 : decode cX10_lengthsWithin 55 = .ok (.aload_n 0, 1) := by decide +kernel
theorem dX10_lengthsWithin_56 : decode cX10_lengthsWithin 56 = .ok (.getfield 44, 3) := by decide +kernel
