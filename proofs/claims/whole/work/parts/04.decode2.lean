theorem dX12_now_16 : decode cX12_now 16 = .ok (.getfield 74, 3) := by decide +kernel
theorem dX12_now_19 : decode cX12_now 19 = .ok (.iconst 1, 1) := by decide +kernel
theorem dX12_now_20 : decode cX12_now 20 = .ok (.isub, 1) := by decide +kernel
theorem dX12_now_21 : decode cX12_now 21 = .ok (.iaload, 1) := by decide +kernel
theorem dX12_now_22 : decode cX12_now 22 = .ok (.ireturn, 1) := by decide +kernel
theorem dX12_works_0 : decode cX12_works 0 = .ok (.aload_n 0, 1) := by decide +kernel
theorem dX12_works_1 : decode cX12_works 1 = .ok (.invokevirtual 122, 3) := by decide +kernel
theorem dX12_works_4 : decode cX12_works 4 = .ok (.iload_n 3, 1) := by decide +kernel
theorem dX12_works_5 : decode cX12_works 5 = .ok (.iadd, 1) := by decide +kernel
theorem dX12_works_6 : decode cX12_works 6 = .ok (.istore 4, 2) := by decide +kernel
theorem dX12_works_8 : decode cX12_works 8 = .ok (.iload_n 3, 1) := by decide +kernel
theorem dX12_works_9 : decode cX12_works 9 = .ok (.ifCond .le 70, 3) := by decide +kernel
theorem dX12_works_12 : decode cX12_works 12 = .ok (.aload_n 0, 1) := by decide +kernel
theorem dX12_works_13 : decode cX12_works 13 = .ok (.getfield 74, 3) := by decide +kernel
theorem dX12_works_16 : decode cX12_works 16 = .ok (.ifCond .eq 33, 3) := by decide +kernel
theorem dX12_works_19 : decode cX12_works 19 = .ok (.aload_n 0, 1) := by decide +kernel
theorem dX12_works_20 : decode cX12_works 20 = .ok (.getfield 28, 3) := by decide +kernel
theorem dX12_works_23 : decode cX12_works 23 = .ok (.aload_n 0, 1) := by decide +kernel
theorem dX12_works_24 : decode cX12_works 24 = .ok (.getfield 74, 3) := by decide +kernel
theorem dX12_works_27 : decode cX12_works 27 = .ok (.iconst 1, 1) := by decide +kernel
theorem dX12_works_28 : decode cX12_works 28 = .ok (.isub, 1) := by decide +kernel
theorem dX12_works_29 : decode cX12_works 29 = .ok (.iaload, 1) := by decide +kernel
theorem dX12_works_30 : decode cX12_works 30 = .ok (.iload_n 1, 1) := by decide +kernel
theorem dX12_works_31 : decode cX12_works 31 = .ok (.if_icmp .ne 18, 3) := by decide +kernel
theorem dX12_works_34 : decode cX12_works 34 = .ok (.aload_n 0, 1) := by decide +kernel
theorem dX12_works_35 : decode cX12_works 35 = .ok (.getfield 31, 3) := by decide +kernel
theorem dX12_works_38 : decode cX12_works 38 = .ok (.aload_n 0, 1) := by decide +kernel
theorem dX12_works_39 : decode cX12_works 39 = .ok (.getfield 74, 3) := by decide +kernel
theorem dX12_works_42 : decode cX12_works 42 = .ok (.iconst 1, 1) := by decide +kernel
theorem dX12_works_43 : decode cX12_works 43 = .ok (.isub, 1) := by decide +kernel
theorem dX12_works_44 : decode cX12_works 44 = .ok (.iaload, 1) := by decide +kernel
theorem dX12_works_45 : decode cX12_works 45 = .ok (.iload_n 2, 1) := by decide +kernel
theorem dX12_works_46 : decode cX12_works 46 = .ok (.if_icmp .eq 33, 3) := by decide +kernel
theorem dX12_works_49 : decode cX12_works 49 = .ok (.aload_n 0, 1) := by decide +kernel
theorem dX12_works_50 : decode cX12_works 50 = .ok (.getfield 28, 3) := by decide +kernel
theorem dX12_works_53 : decode cX12_works 53 = .ok (.aload_n 0, 1) := by decide +kernel
theorem dX12_works_54 : decode cX12_works 54 = .ok (.getfield 74, 3) := by decide +kernel
theorem dX12_works_57 : decode cX12_works 57 = .ok (.iload_n 1, 1) := by decide +kernel
theorem dX12_works_58 : decode cX12_works 58 = .ok (.iastore, 1) := by decide +kernel
theorem dX12_works_59 : decode cX12_works 59 = .ok (.aload_n 0, 1) := by decide +kernel
theorem dX12_works_60 : decode cX12_works 60 = .ok (.getfield 31, 3) := by decide +kernel
theorem dX12_works_63 : decode cX12_works 63 = .ok (.aload_n 0, 1) := by decide +kernel
theorem dX12_works_64 : decode cX12_works 64 = .ok (.getfield 74, 3) := by decide +kernel
theorem dX12_works_67 : decode cX12_works 67 = .ok (.iload_n 2, 1) := by decide +kernel
theorem dX12_works_68 : decode cX12_works 68 = .ok (.iastore, 1) := by decide +kernel
theorem dX12_works_69 : decode cX12_works 69 = .ok (.aload_n 0, 1) := by decide +kernel
theorem dX12_works_70 : decode cX12_works 70 = .ok (.dup, 1) := by decide +kernel
theorem dX12_works_71 : decode cX12_works 71 = .ok (.getfield 74, 3) := by decide +kernel
theorem dX12_works_74 : decode cX12_works 74 = .ok (.iconst 1, 1) := by decide +kernel
theorem dX12_works_75 : decode cX12_works 75 = .ok (.iadd, 1) := by decide +kernel
theorem dX12_works_76 : decode cX12_works 76 = .ok (.putfield 74, 3) := by decide +kernel
theorem dX12_works_79 : decode cX12_works 79 = .ok (.iload_n 3, 1) := by decide +kernel
theorem dX12_works_80 : decode cX12_works 80 = .ok (.ifCond .le 16, 3) := by decide +kernel
theorem dX12_works_83 : decode cX12_works 83 = .ok (.aload_n 0, 1) := by decide +kernel
theorem dX12_works_84 : decode cX12_works 84 = .ok (.getfield 34, 3) := by decide +kernel
theorem dX12_works_87 : decode cX12_works 87 = .ok (.aload_n 0, 1) := by decide +kernel
theorem dX12_works_88 : decode cX12_works 88 = .ok (.getfield 74, 3) := by decide +kernel
theorem dX12_works_91 : decode cX12_works 91 = .ok (.iconst 1, 1) := by decide +kernel
theorem dX12_works_92 : decode cX12_works 92 = .ok (.isub, 1) := by decide +kernel
theorem dX12_works_93 : decode cX12_works 93 = .ok (.iload 4, 2) := by decide +kernel
theorem dX12_works_95 : decode cX12_works 95 = .ok (.iastore, 1) := by decide +kernel
theorem dX12_works_96 : decode cX12_works 96 = .ok (.iload_n 1, 1) := by decide +kernel
theorem dX12_works_97 : decode cX12_works 97 = .ok (.ifCond .ne 11, 3) := by decide +kernel
theorem dX12_works_100 : decode cX12_works 100 = .ok (.aload_n 0, 1) := by decide +kernel
theorem dX12_works_101 : decode cX12_works 101 = .ok (.getfield 37, 3) := by decide +kernel
theorem dX12_works_104 : decode cX12_works 104 = .ok (.iload_n 2, 1) := by decide +kernel
theorem dX12_works_105 : decode cX12_works 105 = .ok (.iload 4, 2) := by decide +kernel
theorem dX12_works_107 : decode cX12_works 107 = .ok (.iastore, 1) := by decide +kernel
theorem dX12_works_108 : decode cX12_works 108 = .ok (.return_, 1) := by decide +kernel
theorem dX12_worksInOrder_0 : decode cX12_worksInOrder 0 = .ok (.aload_n 0, 1) := by decide +kernel
theorem dX12_worksInOrder_1 : decode cX12_worksInOrder 1 = .ok (.invokevirtual 126, 3) := by decide +kernel
theorem dX12_worksInOrder_4 : decode cX12_worksInOrder 4 = .ok (.iconst 0, 1) := by decide +kernel
theorem dX12_worksInOrder_5 : decode cX12_worksInOrder 5 = .ok (.istore_n 1, 1) := by decide +kernel
theorem dX12_worksInOrder_6 : decode cX12_worksInOrder 6 = .ok (.iload_n 1, 1) := by decide +kernel
theorem dX12_worksInOrder_7 : decode cX12_worksInOrder 7 = .ok (.aload_n 0, 1) := by decide +kernel
theorem dX12_worksInOrder_8 : decode cX12_worksInOrder 8 = .ok (.getfield 63, 3) := by decide +kernel
theorem dX12_worksInOrder_11 : decode cX12_worksInOrder 11 = .ok (.if_icmp .ge 31, 3) := by decide +kernel
theorem dX12_worksInOrder_14 : decode cX12_worksInOrder 14 = .ok (.aload_n 0, 1) := by decide +kernel
theorem dX12_worksInOrder_15 : decode cX12_worksInOrder 15 = .ok (.iconst 0, 1) := by decide +kernel
theorem dX12_worksInOrder_16 : decode cX12_worksInOrder 16 = .ok (.aload_n 0, 1) := by decide +kernel
theorem dX12_worksInOrder_17 : decode cX12_worksInOrder 17 = .ok (.getfield 40, 3) := by decide +kernel
theorem dX12_worksInOrder_20 : decode cX12_worksInOrder 20 = .ok (.iload_n 1, 1) := by decide +kernel
theorem dX12_worksInOrder_21 : decode cX12_worksInOrder 21 = .ok (.iaload, 1) := by decide +kernel
theorem dX12_worksInOrder_22 : decode cX12_worksInOrder 22 = .ok (.aload_n 0, 1) := by decide +kernel
theorem dX12_worksInOrder_23 : decode cX12_worksInOrder 23 = .ok (.getfield 7, 3) := by decide +kernel
theorem dX12_worksInOrder_26 : decode cX12_worksInOrder 26 = .ok (.aload_n 0, 1) := by decide +kernel
theorem dX12_worksInOrder_27 : decode cX12_worksInOrder 27 = .ok (.getfield 40, 3) := by decide +kernel
theorem dX12_worksInOrder_30 : decode cX12_worksInOrder 30 = .ok (.iload_n 1, 1) := by decide +kernel
theorem dX12_worksInOrder_31 : decode cX12_worksInOrder 31 = .ok (.iaload, 1) := by decide +kernel
theorem dX12_worksInOrder_32 : decode cX12_worksInOrder 32 = .ok (.iaload, 1) := by decide +kernel
theorem dX12_worksInOrder_33 : decode cX12_worksInOrder 33 = .ok (.invokevirtual 129, 3) := by decide +kernel
theorem dX12_worksInOrder_36 : decode cX12_worksInOrder 36 = .ok (.iinc 1 1, 3) := by decide +kernel
theorem dX12_worksInOrder_39 : decode cX12_worksInOrder 39 = .ok (.goto (-33), 3) := by decide +kernel
theorem dX12_worksInOrder_42 : decode cX12_worksInOrder 42 = .ok (.return_, 1) := by decide +kernel
theorem dX12_greatest_0 : decode cX12_greatest 0 = .ok (.ldc 111, 2) := by decide +kernel
theorem dX12_greatest_2 : decode cX12_greatest 2 = .ok (.istore_n 1, 1) := by decide +kernel
theorem dX12_greatest_3 : decode cX12_greatest 3 = .ok (.iconst 0, 1) := by decide +kernel
theorem dX12_greatest_4 : decode cX12_greatest 4 = .ok (.istore_n 2, 1) := by decide +kernel
theorem dX12_greatest_5 : decode cX12_greatest 5 = .ok (.iload_n 2, 1) := by decide +kernel
theorem dX12_greatest_6 : decode cX12_greatest 6 = .ok (.aload_n 0, 1) := by decide +kernel
theorem dX12_greatest_7 : decode cX12_greatest 7 = .ok (.getfield 63, 3) := by decide +kernel
theorem dX12_greatest_10 : decode cX12_greatest 10 = .ok (.if_icmp .ge 34, 3) := by decide +kernel
theorem dX12_greatest_13 : decode cX12_greatest 13 = .ok (.aload_n 0, 1) := by decide +kernel
theorem dX12_greatest_14 : decode cX12_greatest 14 = .ok (.getfield 37, 3) := by decide +kernel
theorem dX12_greatest_17 : decode cX12_greatest 17 = .ok (.iload_n 2, 1) := by decide +kernel
theorem dX12_greatest_18 : decode cX12_greatest 18 = .ok (.iaload, 1) := by decide +kernel
theorem dX12_greatest_19 : decode cX12_greatest 19 = .ok (.aload_n 0, 1) := by decide +kernel
theorem dX12_greatest_20 : decode cX12_greatest 20 = .ok (.getfield 13, 3) := by decide +kernel
theorem dX12_greatest_23 : decode cX12_greatest 23 = .ok (.iload_n 2, 1) := by decide +kernel
theorem dX12_greatest_24 : decode cX12_greatest 24 = .ok (.iaload, 1) := by decide +kernel
theorem dX12_greatest_25 : decode cX12_greatest 25 = .ok (.isub, 1) := by decide +kernel
theorem dX12_greatest_26 : decode cX12_greatest 26 = .ok (.istore_n 3, 1) := by decide +kernel
theorem dX12_greatest_27 : decode cX12_greatest 27 = .ok (.iload_n 3, 1) := by decide +kernel
theorem dX12_greatest_28 : decode cX12_greatest 28 = .ok (.iload_n 1, 1) := by decide +kernel
theorem dX12_greatest_29 : decode cX12_greatest 29 = .ok (.if_icmp .le 7, 3) := by decide +kernel
theorem dX12_greatest_32 : decode cX12_greatest 32 = .ok (.iload_n 3, 1) := by decide +kernel
theorem dX12_greatest_33 : decode cX12_greatest 33 = .ok (.goto 4, 3) := by decide +kernel
theorem dX12_greatest_36 : decode cX12_greatest 36 = .ok (.iload_n 1, 1) := by decide +kernel
theorem dX12_greatest_37 : decode cX12_greatest 37 = .ok (.istore_n 1, 1) := by decide +kernel
theorem dX12_greatest_38 : decode cX12_greatest 38 = .ok (.iinc 2 1, 3) := by decide +kernel
theorem dX12_greatest_41 : decode cX12_greatest 41 = .ok (.goto (-36), 3) := by decide +kernel
theorem dX12_greatest_44 : decode cX12_greatest 44 = .ok (.iload_n 1, 1) := by decide +kernel
theorem dX12_greatest_45 : decode cX12_greatest 45 = .ok (.ireturn, 1) := by decide +kernel
theorem dX12_sum_0 : decode cX12_sum 0 = .ok (.iconst 0, 1) := by decide +kernel
theorem dX12_sum_1 : decode cX12_sum 1 = .ok (.istore_n 2, 1) := by decide +kernel
theorem dX12_sum_2 : decode cX12_sum 2 = .ok (.iconst 0, 1) := by decide +kernel
theorem dX12_sum_3 : decode cX12_sum 3 = .ok (.istore_n 3, 1) := by decide +kernel
theorem dX12_sum_4 : decode cX12_sum 4 = .ok (.iload_n 3, 1) := by decide +kernel
theorem dX12_sum_5 : decode cX12_sum 5 = .ok (.aload_n 0, 1) := by decide +kernel
theorem dX12_sum_6 : decode cX12_sum 6 = .ok (.getfield 63, 3) := by decide +kernel
theorem dX12_sum_9 : decode cX12_sum 9 = .ok (.if_icmp .ge 89, 3) := by decide +kernel
theorem dX12_sum_12 : decode cX12_sum 12 = .ok (.aload_n 0, 1) := by decide +kernel
theorem dX12_sum_13 : decode cX12_sum 13 = .ok (.getfield 37, 3) := by decide +kernel
theorem dX12_sum_16 : decode cX12_sum 16 = .ok (.iload_n 3, 1) := by decide +kernel
theorem dX12_sum_17 : decode cX12_sum 17 = .ok (.iaload, 1) := by decide +kernel
theorem dX12_sum_18 : decode cX12_sum 18 = .ok (.aload_n 0, 1) := by decide +kernel
theorem dX12_sum_19 : decode cX12_sum 19 = .ok (.getfield 13, 3) := by decide +kernel
theorem dX12_sum_22 : decode cX12_sum 22 = .ok (.iload_n 3, 1) := by decide +kernel
theorem dX12_sum_23 : decode cX12_sum 23 = .ok (.iaload, 1) := by decide +kernel
theorem dX12_sum_24 : decode cX12_sum 24 = .ok (.if_icmp .le 7, 3) := by decide +kernel
theorem dX12_sum_27 : decode cX12_sum 27 = .ok (.iconst 1, 1) := by decide +kernel
theorem dX12_sum_28 : decode cX12_sum 28 = .ok (.goto 4, 3) := by decide +kernel
theorem dX12_sum_31 : decode cX12_sum 31 = .ok (.iconst 0, 1) := by decide +kernel
theorem dX12_sum_32 : decode cX12_sum 32 = .ok (.istore 4, 2) := by decide +kernel
theorem dX12_sum_34 : decode cX12_sum 34 = .ok (.iload_n 2, 1) := by decide +kernel
theorem dX12_sum_35 : decode cX12_sum 35 = .ok (.iload_n 1, 1) := by decide +kernel
theorem dX12_sum_36 : decode cX12_sum 36 = .ok (.ifCond .ne 8, 3) := by decide +kernel
theorem dX12_sum_39 : decode cX12_sum 39 = .ok (.iload 4, 2) := by decide +kernel
theorem dX12_sum_41 : decode cX12_sum 41 = .ok (.goto 49, 3) := by decide +kernel
theorem dX12_sum_44 : decode cX12_sum 44 = .ok (.iload_n 1, 1) := by decide +kernel
theorem dX12_sum_45 : decode cX12_sum 45 = .ok (.iconst 1, 1) := by decide +kernel
theorem dX12_sum_46 : decode cX12_sum 46 = .ok (.if_icmp .ne 12, 3) := by decide +kernel
theorem dX12_sum_49 : decode cX12_sum 49 = .ok (.aload_n 0, 1) := by decide +kernel
theorem dX12_sum_50 : decode cX12_sum 50 = .ok (.getfield 37, 3) := by decide +kernel
theorem dX12_sum_53 : decode cX12_sum 53 = .ok (.iload_n 3, 1) := by decide +kernel
theorem dX12_sum_54 : decode cX12_sum 54 = .ok (.iaload, 1) := by decide +kernel
theorem dX12_sum_55 : decode cX12_sum 55 = .ok (.goto 35, 3) := by decide +kernel
theorem dX12_sum_58 : decode cX12_sum 58 = .ok (.iload_n 1, 1) := by decide +kernel
theorem dX12_sum_59 : decode cX12_sum 59 = .ok (.iconst 2, 1) := by decide +kernel
theorem dX12_sum_60 : decode cX12_sum 60 = .ok (.if_icmp .ne 19, 3) := by decide +kernel
theorem dX12_sum_63 : decode cX12_sum 63 = .ok (.aload_n 0, 1) := by decide +kernel
theorem dX12_sum_64 : decode cX12_sum 64 = .ok (.getfield 16, 3) := by decide +kernel
theorem dX12_sum_67 : decode cX12_sum 67 = .ok (.iload_n 3, 1) := by decide +kernel
theorem dX12_sum_68 : decode cX12_sum 68 = .ok (.iaload, 1) := by decide +kernel
theorem dX12_sum_69 : decode cX12_sum 69 = .ok (.aload_n 0, 1) := by decide +kernel
theorem dX12_sum_70 : decode cX12_sum 70 = .ok (.getfield 37, 3) := by decide +kernel
theorem dX12_sum_73 : decode cX12_sum 73 = .ok (.iload_n 3, 1) := by decide +kernel
theorem dX12_sum_74 : decode cX12_sum 74 = .ok (.iaload, 1) := by decide +kernel
theorem dX12_sum_75 : decode cX12_sum 75 = .ok (.imul, 1) := by decide +kernel
theorem dX12_sum_76 : decode cX12_sum 76 = .ok (.goto 14, 3) := by decide +kernel
theorem dX12_sum_79 : decode cX12_sum 79 = .ok (.aload_n 0, 1) := by decide +kernel
theorem dX12_sum_80 : decode cX12_sum 80 = .ok (.iload_n 3, 1) := by decide +kernel
theorem dX12_sum_81 : decode cX12_sum 81 = .ok (.aload_n 0, 1) := by decide +kernel
theorem dX12_sum_82 : decode cX12_sum 82 = .ok (.getfield 37, 3) := by decide +kernel
theorem dX12_sum_85 : decode cX12_sum 85 = .ok (.iload_n 3, 1) := by decide +kernel
theorem dX12_sum_86 : decode cX12_sum 86 = .ok (.iaload, 1) := by decide +kernel
theorem dX12_sum_87 : decode cX12_sum 87 = .ok (.invokevirtual 102, 3) := by decide +kernel
theorem dX12_sum_90 : decode cX12_sum 90 = .ok (.iadd, 1) := by decide +kernel
theorem dX12_sum_91 : decode cX12_sum 91 = .ok (.istore_n 2, 1) := by decide +kernel
theorem dX12_sum_92 : decode cX12_sum 92 = .ok (.iinc 3 1, 3) := by decide +kernel
theorem dX12_sum_95 : decode cX12_sum 95 = .ok (.goto (-91), 3) := by decide +kernel
theorem dX12_sum_98 : decode cX12_sum 98 = .ok (.iload_n 2, 1) := by decide +kernel
theorem dX12_sum_99 : decode cX12_sum 99 = .ok (.ireturn, 1) := by decide +kernel
theorem dX12_worked_0 : decode cX12_worked 0 = .ok (.iconst (-1), 1) := by decide +kernel
theorem dX12_worked_1 : decode cX12_worked 1 = .ok (.istore_n 3, 1) := by decide +kernel
theorem dX12_worked_2 : decode cX12_worked 2 = .ok (.iconst 0, 1) := by decide +kernel
theorem dX12_worked_3 : decode cX12_worked 3 = .ok (.istore 4, 2) := by decide +kernel
theorem dX12_worked_5 : decode cX12_worked 5 = .ok (.iload 4, 2) := by decide +kernel
theorem dX12_worked_7 : decode cX12_worked 7 = .ok (.aload_n 0, 1) := by decide +kernel
theorem dX12_worked_8 : decode cX12_worked 8 = .ok (.getfield 63, 3) := by decide +kernel
theorem dX12_worked_11 : decode cX12_worked 11 = .ok (.if_icmp .ge 99, 3) := by decide +kernel
theorem dX12_worked_14 : decode cX12_worked 14 = .ok (.aload_n 0, 1) := by decide +kernel
theorem dX12_worked_15 : decode cX12_worked 15 = .ok (.getfield 19, 3) := by decide +kernel
theorem dX12_worked_18 : decode cX12_worked 18 = .ok (.iload 4, 2) := by decide +kernel
theorem dX12_worked_20 : decode cX12_worked 20 = .ok (.iaload, 1) := by decide +kernel
theorem dX12_worked_21 : decode cX12_worked 21 = .ok (.iload_n 1, 1) := by decide +kernel
theorem dX12_worked_22 : decode cX12_worked 22 = .ok (.if_icmp .gt 17, 3) := by decide +kernel
theorem dX12_worked_25 : decode cX12_worked 25 = .ok (.aload_n 0, 1) := by decide +kernel
theorem dX12_worked_26 : decode cX12_worked 26 = .ok (.getfield 43, 3) := by decide +kernel
theorem dX12_worked_29 : decode cX12_worked 29 = .ok (.iload 4, 2) := by decide +kernel
theorem dX12_worked_31 : decode cX12_worked 31 = .ok (.iaload, 1) := by decide +kernel
theorem dX12_worked_32 : decode cX12_worked 32 = .ok (.ifCond .le 7, 3) := by decide +kernel
theorem dX12_worked_35 : decode cX12_worked 35 = .ok (.iconst 1, 1) := by decide +kernel
theorem dX12_worked_36 : decode cX12_worked 36 = .ok (.goto 4, 3) := by decide +kernel
theorem dX12_worked_39 : decode cX12_worked 39 = .ok (.iconst 0, 1) := by decide +kernel
theorem dX12_worked_40 : decode cX12_worked 40 = .ok (.istore 5, 2) := by decide +kernel
theorem dX12_worked_42 : decode cX12_worked 42 = .ok (.iload_n 3, 1) := by decide +kernel
theorem dX12_worked_43 : decode cX12_worked 43 = .ok (.iconst (-1), 1) := by decide +kernel
theorem dX12_worked_44 : decode cX12_worked 44 = .ok (.if_icmp .eq 36, 3) := by decide +kernel
theorem dX12_worked_47 : decode cX12_worked 47 = .ok (.iload_n 2, 1) := by decide +kernel
theorem dX12_worked_48 : decode cX12_worked 48 = .ok (.ifCond .eq 16, 3) := by decide +kernel
theorem dX12_worked_51 : decode cX12_worked 51 = .ok (.aload_n 0, 1) := by decide +kernel
theorem dX12_worked_52 : decode cX12_worked 52 = .ok (.iload 4, 2) := by decide +kernel
theorem dX12_worked_54 : decode cX12_worked 54 = .ok (.iload_n 3, 1) := by decide +kernel
theorem dX12_worked_55 : decode cX12_worked 55 = .ok (.invokevirtual 95, 3) := by decide +kernel
theorem dX12_worked_58 : decode cX12_worked 58 = .ok (.ifCond .eq 26, 3) := by decide +kernel
theorem dX12_worked_61 : decode cX12_worked 61 = .ok (.goto 19, 3) := by decide +kernel
theorem dX12_worked_64 : decode cX12_worked 64 = .ok (.aload_n 0, 1) := by decide +kernel
theorem dX12_worked_65 : decode cX12_worked 65 = .ok (.getfield 43, 3) := by decide +kernel
theorem dX12_worked_68 : decode cX12_worked 68 = .ok (.iload 4, 2) := by decide +kernel
theorem dX12_worked_70 : decode cX12_worked 70 = .ok (.iaload, 1) := by decide +kernel
theorem dX12_worked_71 : decode cX12_worked 71 = .ok (.aload_n 0, 1) := by decide +kernel
theorem dX12_worked_72 : decode cX12_worked 72 = .ok (.getfield 43, 3) := by decide +kernel
theorem dX12_worked_75 : decode cX12_worked 75 = .ok (.iload_n 3, 1) := by decide +kernel
theorem dX12_worked_76 : decode cX12_worked 76 = .ok (.iaload, 1) := by decide +kernel
theorem dX12_worked_77 : decode cX12_worked 77 = .ok (.if_icmp .ge 7, 3) := by decide +kernel
theorem dX12_worked_80 : decode cX12_worked 80 = .ok (.iconst 1, 1) := by decide +kernel
theorem dX12_worked_81 : decode cX12_worked 81 = .ok (.goto 4, 3) := by decide +kernel
theorem dX12_worked_84 : decode cX12_worked 84 = .ok (.iconst 0, 1) := by decide +kernel
theorem dX12_worked_85 : decode cX12_worked 85 = .ok (.istore 6, 2) := by decide +kernel
theorem dX12_worked_87 : decode cX12_worked 87 = .ok (.iload 5, 2) := by decide +kernel
theorem dX12_worked_89 : decode cX12_worked 89 = .ok (.ifCond .eq 13, 3) := by decide +kernel
theorem dX12_worked_92 : decode cX12_worked 92 = .ok (.iload 6, 2) := by decide +kernel
theorem dX12_worked_94 : decode cX12_worked 94 = .ok (.ifCond .eq 8, 3) := by decide +kernel
theorem dX12_worked_97 : decode cX12_worked 97 = .ok (.iload 4, 2) := by decide +kernel
theorem dX12_worked_99 : decode cX12_worked 99 = .ok (.goto 4, 3) := by decide +kernel
theorem dX12_worked_102 : decode cX12_worked 102 = .ok (.iload_n 3, 1) := by decide +kernel
theorem dX12_worked_103 : decode cX12_worked 103 = .ok (.istore_n 3, 1) := by decide +kernel
theorem dX12_worked_104 : decode cX12_worked 104 = .ok (.iinc 4 1, 3) := by decide +kernel
theorem dX12_worked_107 : decode cX12_worked 107 = .ok (.goto (-102), 3) := by decide +kernel
theorem dX12_worked_110 : decode cX12_worked 110 = .ok (.iload_n 3, 1) := by decide +kernel
theorem dX12_worked_111 : decode cX12_worked 111 = .ok (.ireturn, 1) := by decide +kernel
theorem dX12_worksByTime_0 : decode cX12_worksByTime 0 = .ok (.aload_n 0, 1) := by decide +kernel
theorem dX12_worksByTime_1 : decode cX12_worksByTime 1 = .ok (.invokevirtual 126, 3) := by decide +kernel
theorem dX12_worksByTime_4 : decode cX12_worksByTime 4 = .ok (.iconst 0, 1) := by decide +kernel
theorem dX12_worksByTime_5 : decode cX12_worksByTime 5 = .ok (.istore_n 2, 1) := by decide +kernel
theorem dX12_worksByTime_6 : decode cX12_worksByTime 6 = .ok (.iconst 0, 1) := by decide +kernel
theorem dX12_worksByTime_7 : decode cX12_worksByTime 7 = .ok (.istore_n 3, 1) := by decide +kernel
theorem dX12_worksByTime_8 : decode cX12_worksByTime 8 = .ok (.iload_n 3, 1) := by decide +kernel
theorem dX12_worksByTime_9 : decode cX12_worksByTime 9 = .ok (.aload_n 0, 1) := by decide +kernel
theorem dX12_worksByTime_10 : decode cX12_worksByTime 10 = .ok (.getfield 63, 3) := by decide +kernel
theorem dX12_worksByTime_13 : decode cX12_worksByTime 13 = .ok (.if_icmp .ge 30, 3) := by decide +kernel
theorem dX12_worksByTime_16 : decode cX12_worksByTime 16 = .ok (.aload_n 0, 1) := by decide +kernel
theorem dX12_worksByTime_17 : decode cX12_worksByTime 17 = .ok (.getfield 43, 3) := by decide +kernel
theorem dX12_worksByTime_20 : decode cX12_worksByTime 20 = .ok (.iload_n 3, 1) := by decide +kernel
theorem dX12_worksByTime_21 : decode cX12_worksByTime 21 = .ok (.aload_n 0, 1) := by decide +kernel
theorem dX12_worksByTime_22 : decode cX12_worksByTime 22 = .ok (.getfield 7, 3) := by decide +kernel
theorem dX12_worksByTime_25 : decode cX12_worksByTime 25 = .ok (.iload_n 3, 1) := by decide +kernel
theorem dX12_worksByTime_26 : decode cX12_worksByTime 26 = .ok (.iaload, 1) := by decide +kernel
theorem dX12_worksByTime_27 : decode cX12_worksByTime 27 = .ok (.iastore, 1) := by decide +kernel
theorem dX12_worksByTime_28 : decode cX12_worksByTime 28 = .ok (.iload_n 2, 1) := by decide +kernel
theorem dX12_worksByTime_29 : decode cX12_worksByTime 29 = .ok (.aload_n 0, 1) := by decide +kernel
theorem dX12_worksByTime_30 : decode cX12_worksByTime 30 = .ok (.getfield 7, 3) := by decide +kernel
theorem dX12_worksByTime_33 : decode cX12_worksByTime 33 = .ok (.iload_n 3, 1) := by decide +kernel
theorem dX12_worksByTime_34 : decode cX12_worksByTime 34 = .ok (.iaload, 1) := by decide +kernel
theorem dX12_worksByTime_35 : decode cX12_worksByTime 35 = .ok (.iadd, 1) := by decide +kernel
theorem dX12_worksByTime_36 : decode cX12_worksByTime 36 = .ok (.istore_n 2, 1) := by decide +kernel
theorem dX12_worksByTime_37 : decode cX12_worksByTime 37 = .ok (.iinc 3 1, 3) := by decide +kernel
theorem dX12_worksByTime_40 : decode cX12_worksByTime 40 = .ok (.goto (-32), 3) := by decide +kernel
theorem dX12_worksByTime_43 : decode cX12_worksByTime 43 = .ok (.iload_n 2, 1) := by decide +kernel
theorem dX12_worksByTime_44 : decode cX12_worksByTime 44 = .ok (.ifCond .le 50, 3) := by decide +kernel
theorem dX12_worksByTime_47 : decode cX12_worksByTime 47 = .ok (.aload_n 0, 1) := by decide +kernel
theorem dX12_worksByTime_48 : decode cX12_worksByTime 48 = .ok (.aload_n 0, 1) := by decide +kernel
theorem dX12_worksByTime_49 : decode cX12_worksByTime 49 = .ok (.invokevirtual 122, 3) := by decide +kernel
theorem dX12_worksByTime_52 : decode cX12_worksByTime 52 = .ok (.iload_n 1, 1) := by decide +kernel
theorem dX12_worksByTime_53 : decode cX12_worksByTime 53 = .ok (.invokevirtual 133, 3) := by decide +kernel
theorem dX12_worksByTime_56 : decode cX12_worksByTime 56 = .ok (.istore_n 3, 1) := by decide +kernel
theorem dX12_worksByTime_57 : decode cX12_worksByTime 57 = .ok (.aload_n 0, 1) := by decide +kernel
theorem dX12_worksByTime_58 : decode cX12_worksByTime 58 = .ok (.iload_n 3, 1) := by decide +kernel
theorem dX12_worksByTime_59 : decode cX12_worksByTime 59 = .ok (.iconst (-1), 1) := by decide +kernel
theorem dX12_worksByTime_60 : decode cX12_worksByTime 60 = .ok (.if_icmp .ne 7, 3) := by decide +kernel
theorem dX12_worksByTime_63 : decode cX12_worksByTime 63 = .ok (.iconst 2, 1) := by decide +kernel
theorem dX12_worksByTime_64 : decode cX12_worksByTime 64 = .ok (.goto 4, 3) := by decide +kernel
theorem dX12_worksByTime_67 : decode cX12_worksByTime 67 = .ok (.iconst 0, 1) := by decide +kernel
theorem dX12_worksByTime_68 : decode cX12_worksByTime 68 = .ok (.iload_n 3, 1) := by decide +kernel
theorem dX12_worksByTime_69 : decode cX12_worksByTime 69 = .ok (.iconst 1, 1) := by decide +kernel
theorem dX12_worksByTime_70 : decode cX12_worksByTime 70 = .ok (.invokevirtual 129, 3) := by decide +kernel
theorem dX12_worksByTime_73 : decode cX12_worksByTime 73 = .ok (.iload_n 3, 1) := by decide +kernel
theorem dX12_worksByTime_74 : decode cX12_worksByTime 74 = .ok (.iconst (-1), 1) := by decide +kernel
theorem dX12_worksByTime_75 : decode cX12_worksByTime 75 = .ok (.if_icmp .eq 16, 3) := by decide +kernel
theorem dX12_worksByTime_78 : decode cX12_worksByTime 78 = .ok (.aload_n 0, 1) := by decide +kernel
theorem dX12_worksByTime_79 : decode cX12_worksByTime 79 = .ok (.getfield 43, 3) := by decide +kernel
theorem dX12_worksByTime_82 : decode cX12_worksByTime 82 = .ok (.iload_n 3, 1) := by decide +kernel
theorem dX12_worksByTime_83 : decode cX12_worksByTime 83 = .ok (.dup2, 1) := by decide +kernel
theorem dX12_worksByTime_84 : decode cX12_worksByTime 84 = .ok (.iaload, 1) := by decide +kernel
theorem dX12_worksByTime_85 : decode cX12_worksByTime 85 = .ok (.iconst 1, 1) := by decide +kernel
theorem dX12_worksByTime_86 : decode cX12_worksByTime 86 = .ok (.isub, 1) := by decide +kernel
theorem dX12_worksByTime_87 : decode cX12_worksByTime 87 = .ok (.iastore, 1) := by decide +kernel
theorem dX12_worksByTime_88 : decode cX12_worksByTime 88 = .ok (.iinc 2 (-1), 3) := by decide +kernel
theorem dX12_worksByTime_91 : decode cX12_worksByTime 91 = .ok (.goto (-48), 3) := by decide +kernel
theorem dX12_worksByTime_94 : decode cX12_worksByTime 94 = .ok (.return_, 1) := by decide +kernel
theorem dX12_hasJobs_0 : decode cX12_hasJobs 0 = .ok (.aload_n 0, 1) := by decide +kernel
theorem dX12_hasJobs_1 : decode cX12_hasJobs 1 = .ok (.aload_n 0, 1) := by decide +kernel
theorem dX12_hasJobs_2 : decode cX12_hasJobs 2 = .ok (.getfield 63, 3) := by decide +kernel
theorem dX12_hasJobs_5 : decode cX12_hasJobs 5 = .ok (.ifCond .ne 7, 3) := by decide +kernel
theorem dX12_hasJobs_8 : decode cX12_hasJobs 8 = .ok (.iconst 1, 1) := by decide +kernel
theorem dX12_hasJobs_9 : decode cX12_hasJobs 9 = .ok (.goto 4, 3) := by decide +kernel
theorem dX12_hasJobs_12 : decode cX12_hasJobs 12 = .ok (.iconst 0, 1) := by decide +kernel
theorem dX12_hasJobs_13 : decode cX12_hasJobs 13 = .ok (.invokevirtual 84, 3) := by decide +kernel
theorem dX12_hasJobs_16 : decode cX12_hasJobs 16 = .ok (.ireturn, 1) := by decide +kernel
theorem dX12_planByDueDates_0 : decode cX12_planByDueDates 0 = .ok (.aload_n 0, 1) := by decide +kernel
theorem dX12_planByDueDates_1 : decode cX12_planByDueDates 1 = .ok (.invokevirtual 137, 3) := by decide +kernel
theorem dX12_planByDueDates_4 : decode cX12_planByDueDates 4 = .ok (.ifCond .ne 5, 3) := by decide +kernel
theorem dX12_planByDueDates_7 : decode cX12_planByDueDates 7 = .ok (.iconst 0, 1) := by decide +kernel
theorem dX12_planByDueDates_8 : decode cX12_planByDueDates 8 = .ok (.ireturn, 1) := by decide +kernel
theorem dX12_planByDueDates_9 : decode cX12_planByDueDates 9 = .ok (.aload_n 0, 1) := by decide +kernel
theorem dX12_planByDueDates_10 : decode cX12_planByDueDates 10 = .ok (.iconst 1, 1) := by decide +kernel
theorem dX12_planByDueDates_11 : decode cX12_planByDueDates 11 = .ok (.invokevirtual 141, 3) := by decide +kernel
theorem dX12_planByDueDates_14 : decode cX12_planByDueDates 14 = .ok (.aload_n 0, 1) := by decide +kernel
theorem dX12_planByDueDates_15 : decode cX12_planByDueDates 15 = .ok (.invokevirtual 145, 3) := by decide +kernel
theorem dX12_planByDueDates_18 : decode cX12_planByDueDates 18 = .ok (.aload_n 0, 1) := by decide +kernel
theorem dX12_planByDueDates_19 : decode cX12_planByDueDates 19 = .ok (.invokevirtual 148, 3) := by decide +kernel
theorem dX12_planByDueDates_22 : decode cX12_planByDueDates 22 = .ok (.ireturn, 1) := by decide +kernel
theorem dX12_planFewestLate_0 : decode cX12_planFewestLate 0 = .ok (.aload_n 0, 1) := by decide +kernel
theorem dX12_planFewestLate_1 : decode cX12_planFewestLate 1 = .ok (.invokevirtual 137, 3) := by decide +kernel
theorem dX12_planFewestLate_4 : decode cX12_planFewestLate 4 = .ok (.ifCond .ne 5, 3) := by decide +kernel
theorem dX12_planFewestLate_7 : decode cX12_planFewestLate 7 = .ok (.iconst 0, 1) := by decide +kernel
theorem dX12_planFewestLate_8 : decode cX12_planFewestLate 8 = .ok (.ireturn, 1) := by decide +kernel
theorem dX12_planFewestLate_9 : decode cX12_planFewestLate 9 = .ok (.aload_n 0, 1) := by decide +kernel
theorem dX12_planFewestLate_10 : decode cX12_planFewestLate 10 = .ok (.iconst 1, 1) := by decide +kernel
theorem dX12_planFewestLate_11 : decode cX12_planFewestLate 11 = .ok (.invokevirtual 141, 3) := by decide +kernel
theorem dX12_planFewestLate_14 : decode cX12_planFewestLate 14 = .ok (.aload_n 0, 1) := by decide +kernel
theorem dX12_planFewestLate_15 : decode cX12_planFewestLate 15 = .ok (.invokevirtual 126, 3) := by decide +kernel
theorem dX12_planFewestLate_18 : decode cX12_planFewestLate 18 = .ok (.iconst 0, 1) := by decide +kernel
theorem dX12_planFewestLate_19 : decode cX12_planFewestLate 19 = .ok (.istore_n 1, 1) := by decide +kernel
theorem dX12_planFewestLate_20 : decode cX12_planFewestLate 20 = .ok (.iconst 0, 1) := by decide +kernel
theorem dX12_planFewestLate_21 : decode cX12_planFewestLate 21 = .ok (.istore_n 2, 1) := by decide +kernel
theorem dX12_planFewestLate_22 : decode cX12_planFewestLate 22 = .ok (.iconst 0, 1) := by decide +kernel
theorem dX12_planFewestLate_23 : decode cX12_planFewestLate 23 = .ok (.istore_n 3, 1) := by decide +kernel
theorem dX12_planFewestLate_24 : decode cX12_planFewestLate 24 = .ok (.iload_n 3, 1) := by decide +kernel
theorem dX12_planFewestLate_25 : decode cX12_planFewestLate 25 = .ok (.aload_n 0, 1) := by decide +kernel
theorem dX12_planFewestLate_26 : decode cX12_planFewestLate 26 = .ok (.getfield 63, 3) := by decide +kernel
theorem dX12_planFewestLate_29 : decode cX12_planFewestLate 29 = .ok (.if_icmp .ge 122, 3) := by decide +kernel
theorem dX12_planFewestLate_32 : decode cX12_planFewestLate 32 = .ok (.aload_n 0, 1) := by decide +kernel
theorem dX12_planFewestLate_33 : decode cX12_planFewestLate 33 = .ok (.getfield 40, 3) := by decide +kernel
theorem dX12_planFewestLate_36 : decode cX12_planFewestLate 36 = .ok (.iload_n 3, 1) := by decide +kernel
theorem dX12_planFewestLate_37 : decode cX12_planFewestLate 37 = .ok (.iaload, 1) := by decide +kernel
theorem dX12_planFewestLate_38 : decode cX12_planFewestLate 38 = .ok (.istore 4, 2) := by decide +kernel
theorem dX12_planFewestLate_40 : decode cX12_planFewestLate 40 = .ok (.iload_n 1, 1) := by decide +kernel
theorem dX12_planFewestLate_41 : decode cX12_planFewestLate 41 = .ok (.iconst 1, 1) := by decide +kernel
theorem dX12_planFewestLate_42 : decode cX12_planFewestLate 42 = .ok (.iload 4, 2) := by decide +kernel
theorem dX12_planFewestLate_44 : decode cX12_planFewestLate 44 = .ok (.ishl, 1) := by decide +kernel
theorem dX12_planFewestLate_45 : decode cX12_planFewestLate 45 = .ok (.ior, 1) := by decide +kernel
theorem dX12_planFewestLate_46 : decode cX12_planFewestLate 46 = .ok (.istore_n 1, 1) := by decide +kernel
theorem dX12_planFewestLate_47 : decode cX12_planFewestLate 47 = .ok (.aload_n 0, 1) := by decide +kernel
theorem dX12_planFewestLate_48 : decode cX12_planFewestLate 48 = .ok (.iload_n 1, 1) := by decide +kernel
theorem dX12_planFewestLate_49 : decode cX12_planFewestLate 49 = .ok (.invokevirtual 106, 3) := by decide +kernel
theorem dX12_planFewestLate_52 : decode cX12_planFewestLate 52 = .ok (.aload_n 0, 1) := by decide +kernel
theorem dX12_planFewestLate_53 : decode cX12_planFewestLate 53 = .ok (.getfield 13, 3) := by decide +kernel
theorem dX12_planFewestLate_56 : decode cX12_planFewestLate 56 = .ok (.iload 4, 2) := by decide +kernel
theorem dX12_planFewestLate_58 : decode cX12_planFewestLate 58 = .ok (.iaload, 1) := by decide +kernel
theorem dX12_planFewestLate_59 : decode cX12_planFewestLate 59 = .ok (.if_icmp .le 86, 3) := by decide +kernel
theorem dX12_planFewestLate_62 : decode cX12_planFewestLate 62 = .ok (.iconst (-1), 1) := by decide +kernel
theorem dX12_planFewestLate_63 : decode cX12_planFewestLate 63 = .ok (.istore 5, 2) := by decide +kernel
theorem dX12_planFewestLate_65 : decode cX12_planFewestLate 65 = .ok (.iconst 0, 1) := by decide +kernel
theorem dX12_planFewestLate_66 : decode cX12_planFewestLate 66 = .ok (.istore 6, 2) := by decide +kernel
theorem dX12_planFewestLate_68 : decode cX12_planFewestLate 68 = .ok (.iload 6, 2) := by decide +kernel
theorem dX12_planFewestLate_70 : decode cX12_planFewestLate 70 = .ok (.aload_n 0, 1) := by decide +kernel
theorem dX12_planFewestLate_71 : decode cX12_planFewestLate 71 = .ok (.getfield 63, 3) := by decide +kernel
theorem dX12_planFewestLate_74 : decode cX12_planFewestLate 74 = .ok (.if_icmp .ge 51, 3) := by decide +kernel
theorem dX12_planFewestLate_77 : decode cX12_planFewestLate 77 = .ok (.iload_n 1, 1) := by decide +kernel
theorem dX12_planFewestLate_78 : decode cX12_planFewestLate 78 = .ok (.iload 6, 2) := by decide +kernel
theorem dX12_planFewestLate_80 : decode cX12_planFewestLate 80 = .ok (.ishr, 1) := by decide +kernel
theorem dX12_planFewestLate_81 : decode cX12_planFewestLate 81 = .ok (.iconst 1, 1) := by decide +kernel
theorem dX12_planFewestLate_82 : decode cX12_planFewestLate 82 = .ok (.iand, 1) := by decide +kernel
theorem dX12_planFewestLate_83 : decode cX12_planFewestLate 83 = .ok (.iconst 1, 1) := by decide +kernel
theorem dX12_planFewestLate_84 : decode cX12_planFewestLate 84 = .ok (.if_icmp .ne 31, 3) := by decide +kernel
theorem dX12_planFewestLate_87 : decode cX12_planFewestLate 87 = .ok (.iload 5, 2) := by decide +kernel
theorem dX12_planFewestLate_89 : decode cX12_planFewestLate 89 = .ok (.iconst (-1), 1) := by decide +kernel
theorem dX12_planFewestLate_90 : decode cX12_planFewestLate 90 = .ok (.if_icmp .eq 20, 3) := by decide +kernel
theorem dX12_planFewestLate_93 : decode cX12_planFewestLate 93 = .ok (.aload_n 0, 1) := by decide +kernel
theorem dX12_planFewestLate_94 : decode cX12_planFewestLate 94 = .ok (.getfield 7, 3) := by decide +kernel
theorem dX12_planFewestLate_97 : decode cX12_planFewestLate 97 = .ok (.iload 6, 2) := by decide +kernel
theorem dX12_planFewestLate_99 : decode cX12_planFewestLate 99 = .ok (.iaload, 1) := by decide +kernel
theorem dX12_planFewestLate_100 : decode cX12_planFewestLate 100 = .ok (.aload_n 0, 1) := by decide +kernel
theorem dX12_planFewestLate_101 : decode cX12_planFewestLate 101 = .ok (.getfield 7, 3) := by decide +kernel
theorem dX12_planFewestLate_104 : decode cX12_planFewestLate 104 = .ok (.iload 5, 2) := by decide +kernel
theorem dX12_planFewestLate_106 : decode cX12_planFewestLate 106 = .ok (.iaload, 1) := by decide +kernel
theorem dX12_planFewestLate_107 : decode cX12_planFewestLate 107 = .ok (.if_icmp .lt 8, 3) := by decide +kernel
theorem dX12_planFewestLate_110 : decode cX12_planFewestLate 110 = .ok (.iload 6, 2) := by decide +kernel
theorem dX12_planFewestLate_112 : decode cX12_planFewestLate 112 = .ok (.goto 5, 3) := by decide +kernel
theorem dX12_planFewestLate_115 : decode cX12_planFewestLate 115 = .ok (.iload 5, 2) := by decide +kernel
theorem dX12_planFewestLate_117 : decode cX12_planFewestLate 117 = .ok (.istore 5, 2) := by decide +kernel
theorem dX12_planFewestLate_119 : decode cX12_planFewestLate 119 = .ok (.iinc 6 1, 3) := by decide +kernel
theorem dX12_planFewestLate_122 : decode cX12_planFewestLate 122 = .ok (.goto (-54), 3) := by decide +kernel
theorem dX12_planFewestLate_125 : decode cX12_planFewestLate 125 = .ok (.iload_n 1, 1) := by decide +kernel
theorem dX12_planFewestLate_126 : decode cX12_planFewestLate 126 = .ok (.iconst 1, 1) := by decide +kernel
theorem dX12_planFewestLate_127 : decode cX12_planFewestLate 127 = .ok (.iload 5, 2) := by decide +kernel
theorem dX12_planFewestLate_129 : decode cX12_planFewestLate 129 = .ok (.ishl, 1) := by decide +kernel
theorem dX12_planFewestLate_130 : decode cX12_planFewestLate 130 = .ok (.iconst (-1), 1) := by decide +kernel
theorem dX12_planFewestLate_131 : decode cX12_planFewestLate 131 = .ok (.ixor, 1) := by decide +kernel
theorem dX12_planFewestLate_132 : decode cX12_planFewestLate 132 = .ok (.iand, 1) := by decide +kernel
theorem dX12_planFewestLate_133 : decode cX12_planFewestLate 133 = .ok (.istore_n 1, 1) := by decide +kernel
theorem dX12_planFewestLate_134 : decode cX12_planFewestLate 134 = .ok (.aload_n 0, 1) := by decide +kernel
theorem dX12_planFewestLate_135 : decode cX12_planFewestLate 135 = .ok (.getfield 43, 3) := by decide +kernel
theorem dX12_planFewestLate_138 : decode cX12_planFewestLate 138 = .ok (.iload_n 2, 1) := by decide +kernel
theorem dX12_planFewestLate_139 : decode cX12_planFewestLate 139 = .ok (.iload 5, 2) := by decide +kernel
theorem dX12_planFewestLate_141 : decode cX12_planFewestLate 141 = .ok (.iastore, 1) := by decide +kernel
theorem dX12_planFewestLate_142 : decode cX12_planFewestLate 142 = .ok (.iinc 2 1, 3) := by decide +kernel
theorem dX12_planFewestLate_145 : decode cX12_planFewestLate 145 = .ok (.iinc 3 1, 3) := by decide +kernel
theorem dX12_planFewestLate_148 : decode cX12_planFewestLate 148 = .ok (.goto (-124), 3) := by decide +kernel
theorem dX12_planFewestLate_151 : decode cX12_planFewestLate 151 = .ok (.iconst 0, 1) := by decide +kernel
theorem dX12_planFewestLate_152 : decode cX12_planFewestLate 152 = .ok (.istore_n 3, 1) := by decide +kernel
theorem dX12_planFewestLate_153 : decode cX12_planFewestLate 153 = .ok (.iload_n 3, 1) := by decide +kernel
theorem dX12_planFewestLate_154 : decode cX12_planFewestLate 154 = .ok (.aload_n 0, 1) := by decide +kernel
theorem dX12_planFewestLate_155 : decode cX12_planFewestLate 155 = .ok (.getfield 63, 3) := by decide +kernel
theorem dX12_planFewestLate_158 : decode cX12_planFewestLate 158 = .ok (.if_icmp .ge 45, 3) := by decide +kernel
theorem dX12_planFewestLate_161 : decode cX12_planFewestLate 161 = .ok (.iload_n 1, 1) := by decide +kernel
theorem dX12_planFewestLate_162 : decode cX12_planFewestLate 162 = .ok (.aload_n 0, 1) := by decide +kernel
theorem dX12_planFewestLate_163 : decode cX12_planFewestLate 163 = .ok (.getfield 40, 3) := by decide +kernel
theorem dX12_planFewestLate_166 : decode cX12_planFewestLate 166 = .ok (.iload_n 3, 1) := by decide +kernel
theorem dX12_planFewestLate_167 : decode cX12_planFewestLate 167 = .ok (.iaload, 1) := by decide +kernel
theorem dX12_planFewestLate_168 : decode cX12_planFewestLate 168 = .ok (.ishr, 1) := by decide +kernel
theorem dX12_planFewestLate_169 : decode cX12_planFewestLate 169 = .ok (.iconst 1, 1) := by decide +kernel
theorem dX12_planFewestLate_170 : decode cX12_planFewestLate 170 = .ok (.iand, 1) := by decide +kernel
theorem dX12_planFewestLate_171 : decode cX12_planFewestLate 171 = .ok (.iconst 1, 1) := by decide +kernel
theorem dX12_planFewestLate_172 : decode cX12_planFewestLate 172 = .ok (.if_icmp .ne 25, 3) := by decide +kernel
theorem dX12_planFewestLate_175 : decode cX12_planFewestLate 175 = .ok (.aload_n 0, 1) := by decide +kernel
theorem dX12_planFewestLate_176 : decode cX12_planFewestLate 176 = .ok (.iconst 0, 1) := by decide +kernel
theorem dX12_planFewestLate_177 : decode cX12_planFewestLate 177 = .ok (.aload_n 0, 1) := by decide +kernel
theorem dX12_planFewestLate_178 : decode cX12_planFewestLate 178 = .ok (.getfield 40, 3) := by decide +kernel
theorem dX12_planFewestLate_181 : decode cX12_planFewestLate 181 = .ok (.iload_n 3, 1) := by decide +kernel
theorem dX12_planFewestLate_182 : decode cX12_planFewestLate 182 = .ok (.iaload, 1) := by decide +kernel
theorem dX12_planFewestLate_183 : decode cX12_planFewestLate 183 = .ok (.aload_n 0, 1) := by decide +kernel
theorem dX12_planFewestLate_184 : decode cX12_planFewestLate 184 = .ok (.getfield 7, 3) := by decide +kernel
theorem dX12_planFewestLate_187 : decode cX12_planFewestLate 187 = .ok (.aload_n 0, 1) := by decide +kernel
theorem dX12_planFewestLate_188 : decode cX12_planFewestLate 188 = .ok (.getfield 40, 3) := by decide +kernel
theorem dX12_planFewestLate_191 : decode cX12_planFewestLate 191 = .ok (.iload_n 3, 1) := by decide +kernel
theorem dX12_planFewestLate_192 : decode cX12_planFewestLate 192 = .ok (.iaload, 1) := by decide +kernel
theorem dX12_planFewestLate_193 : decode cX12_planFewestLate 193 = .ok (.iaload, 1) := by decide +kernel
theorem dX12_planFewestLate_194 : decode cX12_planFewestLate 194 = .ok (.invokevirtual 129, 3) := by decide +kernel
theorem dX12_planFewestLate_197 : decode cX12_planFewestLate 197 = .ok (.iinc 3 1, 3) := by decide +kernel
theorem dX12_planFewestLate_200 : decode cX12_planFewestLate 200 = .ok (.goto (-47), 3) := by decide +kernel
theorem dX12_planFewestLate_203 : decode cX12_planFewestLate 203 = .ok (.iconst 0, 1) := by decide +kernel
theorem dX12_planFewestLate_204 : decode cX12_planFewestLate 204 = .ok (.istore_n 3, 1) := by decide +kernel
theorem dX12_planFewestLate_205 : decode cX12_planFewestLate 205 = .ok (.iload_n 3, 1) := by decide +kernel
theorem dX12_planFewestLate_206 : decode cX12_planFewestLate 206 = .ok (.iload_n 2, 1) := by decide +kernel
theorem dX12_planFewestLate_207 : decode cX12_planFewestLate 207 = .ok (.if_icmp .ge 31, 3) := by decide +kernel
theorem dX12_planFewestLate_210 : decode cX12_planFewestLate 210 = .ok (.aload_n 0, 1) := by decide +kernel
theorem dX12_planFewestLate_211 : decode cX12_planFewestLate 211 = .ok (.iconst 0, 1) := by decide +kernel
theorem dX12_planFewestLate_212 : decode cX12_planFewestLate 212 = .ok (.aload_n 0, 1) := by decide +kernel
theorem dX12_planFewestLate_213 : decode cX12_planFewestLate 213 = .ok (.getfield 43, 3) := by decide +kernel
theorem dX12_planFewestLate_216 : decode cX12_planFewestLate 216 = .ok (.iload_n 3, 1) := by decide +kernel
theorem dX12_planFewestLate_217 : decode cX12_planFewestLate 217 = .ok (.iaload, 1) := by decide +kernel
theorem dX12_planFewestLate_218 : decode cX12_planFewestLate 218 = .ok (.aload_n 0, 1) := by decide +kernel
theorem dX12_planFewestLate_219 : decode cX12_planFewestLate 219 = .ok (.getfield 7, 3) := by decide +kernel
theorem dX12_planFewestLate_222 : decode cX12_planFewestLate 222 = .ok (.aload_n 0, 1) := by decide +kernel
theorem dX12_planFewestLate_223 : decode cX12_planFewestLate 223 = .ok (.getfield 43, 3) := by decide +kernel
theorem dX12_planFewestLate_226 : decode cX12_planFewestLate 226 = .ok (.iload_n 3, 1) := by decide +kernel
theorem dX12_planFewestLate_227 : decode cX12_planFewestLate 227 = .ok (.iaload, 1) := by decide +kernel
theorem dX12_planFewestLate_228 : decode cX12_planFewestLate 228 = .ok (.iaload, 1) := by decide +kernel
theorem dX12_planFewestLate_229 : decode cX12_planFewestLate 229 = .ok (.invokevirtual 129, 3) := by decide +kernel
theorem dX12_planFewestLate_232 : decode cX12_planFewestLate 232 = .ok (.iinc 3 1, 3) := by decide +kernel
theorem dX12_planFewestLate_235 : decode cX12_planFewestLate 235 = .ok (.goto (-30), 3) := by decide +kernel
theorem dX12_planFewestLate_238 : decode cX12_planFewestLate 238 = .ok (.iload_n 2, 1) := by decide +kernel
theorem dX12_planFewestLate_239 : decode cX12_planFewestLate 239 = .ok (.ireturn, 1) := by decide +kernel
theorem dX12_planByRatios_0 : decode cX12_planByRatios 0 = .ok (.aload_n 0, 1) := by decide +kernel
theorem dX12_planByRatios_1 : decode cX12_planByRatios 1 = .ok (.invokevirtual 137, 3) := by decide +kernel
theorem dX12_planByRatios_4 : decode cX12_planByRatios 4 = .ok (.ifCond .ne 5, 3) := by decide +kernel
theorem dX12_planByRatios_7 : decode cX12_planByRatios 7 = .ok (.iconst 0, 1) := by decide +kernel
theorem dX12_planByRatios_8 : decode cX12_planByRatios 8 = .ok (.ireturn, 1) := by decide +kernel
theorem dX12_planByRatios_9 : decode cX12_planByRatios 9 = .ok (.aload_n 0, 1) := by decide +kernel
theorem dX12_planByRatios_10 : decode cX12_planByRatios 10 = .ok (.iconst 0, 1) := by decide +kernel
theorem dX12_planByRatios_11 : decode cX12_planByRatios 11 = .ok (.invokevirtual 141, 3) := by decide +kernel
theorem dX12_planByRatios_14 : decode cX12_planByRatios 14 = .ok (.aload_n 0, 1) := by decide +kernel
theorem dX12_planByRatios_15 : decode cX12_planByRatios 15 = .ok (.invokevirtual 145, 3) := by decide +kernel
theorem dX12_planByRatios_18 : decode cX12_planByRatios 18 = .ok (.aload_n 0, 1) := by decide +kernel
theorem dX12_planByRatios_19 : decode cX12_planByRatios 19 = .ok (.iconst 2, 1) := by decide +kernel
theorem dX12_planByRatios_20 : decode cX12_planByRatios 20 = .ok (.invokevirtual 151, 3) := by decide +kernel
theorem dX12_planByRatios_23 : decode cX12_planByRatios 23 = .ok (.ireturn, 1) := by decide +kernel
theorem dX12_planLeastTardiness_0 : decode cX12_planLeastTardiness 0 = .ok (.aload_n 0, 1) := by decide +kernel
theorem dX12_planLeastTardiness_1 : decode cX12_planLeastTardiness 1 = .ok (.invokevirtual 137, 3) := by decide +kernel
theorem dX12_planLeastTardiness_4 : decode cX12_planLeastTardiness 4 = .ok (.ifCond .ne 5, 3) := by decide +kernel
theorem dX12_planLeastTardiness_7 : decode cX12_planLeastTardiness 7 = .ok (.iconst 0, 1) := by decide +kernel
theorem dX12_planLeastTardiness_8 : decode cX12_planLeastTardiness 8 = .ok (.ireturn, 1) := by decide +kernel
theorem dX12_planLeastTardiness_9 : decode cX12_planLeastTardiness 9 = .ok (.aload_n 0, 1) := by decide +kernel
theorem dX12_planLeastTardiness_10 : decode cX12_planLeastTardiness 10 = .ok (.iconst 2, 1) := by decide +kernel
theorem dX12_planLeastTardiness_11 : decode cX12_planLeastTardiness 11 = .ok (.invokevirtual 154, 3) := by decide +kernel
theorem dX12_planLeastTardiness_14 : decode cX12_planLeastTardiness 14 = .ok (.iconst 0, 1) := by decide +kernel
theorem dX12_planLeastTardiness_15 : decode cX12_planLeastTardiness 15 = .ok (.istore_n 1, 1) := by decide +kernel
theorem dX12_planLeastTardiness_16 : decode cX12_planLeastTardiness 16 = .ok (.iconst 0, 1) := by decide +kernel
theorem dX12_planLeastTardiness_17 : decode cX12_planLeastTardiness 17 = .ok (.istore_n 2, 1) := by decide +kernel
theorem dX12_planLeastTardiness_18 : decode cX12_planLeastTardiness 18 = .ok (.iload_n 2, 1) := by decide +kernel
theorem dX12_planLeastTardiness_19 : decode cX12_planLeastTardiness 19 = .ok (.aload_n 0, 1) := by decide +kernel
theorem dX12_planLeastTardiness_20 : decode cX12_planLeastTardiness 20 = .ok (.getfield 63, 3) := by decide +kernel
theorem dX12_planLeastTardiness_23 : decode cX12_planLeastTardiness 23 = .ok (.if_icmp .ge 111, 3) := by decide +kernel
theorem dX12_planLeastTardiness_26 : decode cX12_planLeastTardiness 26 = .ok (.iconst (-1), 1) := by decide +kernel
theorem dX12_planLeastTardiness_27 : decode cX12_planLeastTardiness 27 = .ok (.istore_n 3, 1) := by decide +kernel
theorem dX12_planLeastTardiness_28 : decode cX12_planLeastTardiness 28 = .ok (.aload_n 0, 1) := by decide +kernel
theorem dX12_planLeastTardiness_29 : decode cX12_planLeastTardiness 29 = .ok (.getfield 63, 3) := by decide +kernel
theorem dX12_planLeastTardiness_32 : decode cX12_planLeastTardiness 32 = .ok (.iconst 1, 1) := by decide +kernel
theorem dX12_planLeastTardiness_33 : decode cX12_planLeastTardiness 33 = .ok (.isub, 1) := by decide +kernel
theorem dX12_planLeastTardiness_34 : decode cX12_planLeastTardiness 34 = .ok (.istore 4, 2) := by decide +kernel
theorem dX12_planLeastTardiness_36 : decode cX12_planLeastTardiness 36 = .ok (.iload 4, 2) := by decide +kernel
theorem dX12_planLeastTardiness_38 : decode cX12_planLeastTardiness 38 = .ok (.ifCond .lt 77, 3) := by decide +kernel
theorem dX12_planLeastTardiness_41 : decode cX12_planLeastTardiness 41 = .ok (.iload_n 1, 1) := by decide +kernel
theorem dX12_planLeastTardiness_42 : decode cX12_planLeastTardiness 42 = .ok (.iload 4, 2) := by decide +kernel
theorem dX12_planLeastTardiness_44 : decode cX12_planLeastTardiness 44 = .ok (.ishr, 1) := by decide +kernel
theorem dX12_planLeastTardiness_45 : decode cX12_planLeastTardiness 45 = .ok (.iconst 1, 1) := by decide +kernel
theorem dX12_planLeastTardiness_46 : decode cX12_planLeastTardiness 46 = .ok (.iand, 1) := by decide +kernel
theorem dX12_planLeastTardiness_47 : decode cX12_planLeastTardiness 47 = .ok (.ifCond .ne 47, 3) := by decide +kernel
theorem dX12_planLeastTardiness_50 : decode cX12_planLeastTardiness 50 = .ok (.aload_n 0, 1) := by decide +kernel
theorem dX12_planLeastTardiness_51 : decode cX12_planLeastTardiness 51 = .ok (.iconst 2, 1) := by decide +kernel
theorem dX12_planLeastTardiness_52 : decode cX12_planLeastTardiness 52 = .ok (.iload 4, 2) := by decide +kernel
theorem dX12_planLeastTardiness_54 : decode cX12_planLeastTardiness 54 = .ok (.aload_n 0, 1) := by decide +kernel
theorem dX12_planLeastTardiness_55 : decode cX12_planLeastTardiness 55 = .ok (.iload_n 1, 1) := by decide +kernel
theorem dX12_planLeastTardiness_56 : decode cX12_planLeastTardiness 56 = .ok (.invokevirtual 106, 3) := by decide +kernel
theorem dX12_planLeastTardiness_59 : decode cX12_planLeastTardiness 59 = .ok (.aload_n 0, 1) := by decide +kernel
theorem dX12_planLeastTardiness_60 : decode cX12_planLeastTardiness 60 = .ok (.getfield 7, 3) := by decide +kernel
theorem dX12_planLeastTardiness_63 : decode cX12_planLeastTardiness 63 = .ok (.iload 4, 2) := by decide +kernel
theorem dX12_planLeastTardiness_65 : decode cX12_planLeastTardiness 65 = .ok (.iaload, 1) := by decide +kernel
theorem dX12_planLeastTardiness_66 : decode cX12_planLeastTardiness 66 = .ok (.iadd, 1) := by decide +kernel
theorem dX12_planLeastTardiness_67 : decode cX12_planLeastTardiness 67 = .ok (.aload_n 0, 1) := by decide +kernel
theorem dX12_planLeastTardiness_68 : decode cX12_planLeastTardiness 68 = .ok (.getfield 46, 3) := by decide +kernel
theorem dX12_planLeastTardiness_71 : decode cX12_planLeastTardiness 71 = .ok (.iload_n 1, 1) := by decide +kernel
theorem dX12_planLeastTardiness_72 : decode cX12_planLeastTardiness 72 = .ok (.iconst 1, 1) := by decide +kernel
theorem dX12_planLeastTardiness_73 : decode cX12_planLeastTardiness 73 = .ok (.iload 4, 2) := by decide +kernel
theorem dX12_planLeastTardiness_75 : decode cX12_planLeastTardiness 75 = .ok (.ishl, 1) := by decide +kernel
theorem dX12_planLeastTardiness_76 : decode cX12_planLeastTardiness 76 = .ok (.ior, 1) := by decide +kernel
theorem dX12_planLeastTardiness_77 : decode cX12_planLeastTardiness 77 = .ok (.iaload, 1) := by decide +kernel
theorem dX12_planLeastTardiness_78 : decode cX12_planLeastTardiness 78 = .ok (.invokevirtual 112, 3) := by decide +kernel
theorem dX12_planLeastTardiness_81 : decode cX12_planLeastTardiness 81 = .ok (.aload_n 0, 1) := by decide +kernel
theorem dX12_planLeastTardiness_82 : decode cX12_planLeastTardiness 82 = .ok (.getfield 46, 3) := by decide +kernel
theorem dX12_planLeastTardiness_85 : decode cX12_planLeastTardiness 85 = .ok (.iload_n 1, 1) := by decide +kernel
theorem dX12_planLeastTardiness_86 : decode cX12_planLeastTardiness 86 = .ok (.iaload, 1) := by decide +kernel
theorem dX12_planLeastTardiness_87 : decode cX12_planLeastTardiness 87 = .ok (.if_icmp .ne 7, 3) := by decide +kernel
theorem dX12_planLeastTardiness_90 : decode cX12_planLeastTardiness 90 = .ok (.iconst 1, 1) := by decide +kernel
theorem dX12_planLeastTardiness_91 : decode cX12_planLeastTardiness 91 = .ok (.goto 4, 3) := by decide +kernel
theorem dX12_planLeastTardiness_94 : decode cX12_planLeastTardiness 94 = .ok (.iconst 0, 1) := by decide +kernel
theorem dX12_planLeastTardiness_95 : decode cX12_planLeastTardiness 95 = .ok (.istore 5, 2) := by decide +kernel
theorem dX12_planLeastTardiness_97 : decode cX12_planLeastTardiness 97 = .ok (.iload 5, 2) := by decide +kernel
theorem dX12_planLeastTardiness_99 : decode cX12_planLeastTardiness 99 = .ok (.ifCond .eq 8, 3) := by decide +kernel
theorem dX12_planLeastTardiness_102 : decode cX12_planLeastTardiness 102 = .ok (.iload 4, 2) := by decide +kernel
theorem dX12_planLeastTardiness_104 : decode cX12_planLeastTardiness 104 = .ok (.goto 4, 3) := by decide +kernel
theorem dX12_planLeastTardiness_107 : decode cX12_planLeastTardiness 107 = .ok (.iload_n 3, 1) := by decide +kernel
theorem dX12_planLeastTardiness_108 : decode cX12_planLeastTardiness 108 = .ok (.istore_n 3, 1) := by decide +kernel
theorem dX12_planLeastTardiness_109 : decode cX12_planLeastTardiness 109 = .ok (.iinc 4 (-1), 3) := by decide +kernel
theorem dX12_planLeastTardiness_112 : decode cX12_planLeastTardiness 112 = .ok (.goto (-76), 3) := by decide +kernel
theorem dX12_planLeastTardiness_115 : decode cX12_planLeastTardiness 115 = .ok (.aload_n 0, 1) := by decide +kernel
theorem dX12_planLeastTardiness_116 : decode cX12_planLeastTardiness 116 = .ok (.getfield 40, 3) := by decide +kernel
theorem dX12_planLeastTardiness_119 : decode cX12_planLeastTardiness 119 = .ok (.iload_n 2, 1) := by decide +kernel
theorem dX12_planLeastTardiness_120 : decode cX12_planLeastTardiness 120 = .ok (.iload_n 3, 1) := by decide +kernel
theorem dX12_planLeastTardiness_121 : decode cX12_planLeastTardiness 121 = .ok (.iastore, 1) := by decide +kernel
theorem dX12_planLeastTardiness_122 : decode cX12_planLeastTardiness 122 = .ok (.iload_n 1, 1) := by decide +kernel
theorem dX12_planLeastTardiness_123 : decode cX12_planLeastTardiness 123 = .ok (.iconst 1, 1) := by decide +kernel
theorem dX12_planLeastTardiness_124 : decode cX12_planLeastTardiness 124 = .ok (.iload_n 3, 1) := by decide +kernel
theorem dX12_planLeastTardiness_125 : decode cX12_planLeastTardiness 125 = .ok (.ishl, 1) := by decide +kernel
theorem dX12_planLeastTardiness_126 : decode cX12_planLeastTardiness 126 = .ok (.ior, 1) := by decide +kernel
theorem dX12_planLeastTardiness_127 : decode cX12_planLeastTardiness 127 = .ok (.istore_n 1, 1) := by decide +kernel
theorem dX12_planLeastTardiness_128 : decode cX12_planLeastTardiness 128 = .ok (.iinc 2 1, 3) := by decide +kernel
theorem dX12_planLeastTardiness_131 : decode cX12_planLeastTardiness 131 = .ok (.goto (-113), 3) := by decide +kernel
theorem dX12_planLeastTardiness_134 : decode cX12_planLeastTardiness 134 = .ok (.aload_n 0, 1) := by decide +kernel
theorem dX12_planLeastTardiness_135 : decode cX12_planLeastTardiness 135 = .ok (.invokevirtual 145, 3) := by decide +kernel
theorem dX12_planLeastTardiness_138 : decode cX12_planLeastTardiness 138 = .ok (.aload_n 0, 1) := by decide +kernel
theorem dX12_planLeastTardiness_139 : decode cX12_planLeastTardiness 139 = .ok (.iconst 3, 1) := by decide +kernel
theorem dX12_planLeastTardiness_140 : decode cX12_planLeastTardiness 140 = .ok (.invokevirtual 151, 3) := by decide +kernel
theorem dX12_planLeastTardiness_143 : decode cX12_planLeastTardiness 143 = .ok (.ireturn, 1) := by decide +kernel
theorem dX12_planByFamilies_0 : decode cX12_planByFamilies 0 = .ok (.aload_n 0, 1) := by decide +kernel
theorem dX12_planByFamilies_1 : decode cX12_planByFamilies 1 = .ok (.invokevirtual 137, 3) := by decide +kernel
theorem dX12_planByFamilies_4 : decode cX12_planByFamilies 4 = .ok (.ifCond .ne 5, 3) := by decide +kernel
theorem dX12_planByFamilies_7 : decode cX12_planByFamilies 7 = .ok (.iconst 0, 1) := by decide +kernel
theorem dX12_planByFamilies_8 : decode cX12_planByFamilies 8 = .ok (.ireturn, 1) := by decide +kernel
theorem dX12_planByFamilies_9 : decode cX12_planByFamilies 9 = .ok (.aload_n 0, 1) := by decide +kernel
theorem dX12_planByFamilies_10 : decode cX12_planByFamilies 10 = .ok (.iconst 1, 1) := by decide +kernel
theorem dX12_planByFamilies_11 : decode cX12_planByFamilies 11 = .ok (.invokevirtual 158, 3) := by decide +kernel
theorem dX12_planByFamilies_14 : decode cX12_planByFamilies 14 = .ok (.aload_n 0, 1) := by decide +kernel
theorem dX12_planByFamilies_15 : decode cX12_planByFamilies 15 = .ok (.getfield 49, 3) := by decide +kernel
theorem dX12_planByFamilies_18 : decode cX12_planByFamilies 18 = .ok (.iconst 4, 1) := by decide +kernel
theorem dX12_planByFamilies_19 : decode cX12_planByFamilies 19 = .ok (.iaload, 1) := by decide +kernel
theorem dX12_planByFamilies_20 : decode cX12_planByFamilies 20 = .ok (.istore_n 1, 1) := by decide +kernel
theorem dX12_planByFamilies_21 : decode cX12_planByFamilies 21 = .ok (.iconst 0, 1) := by decide +kernel
theorem dX12_planByFamilies_22 : decode cX12_planByFamilies 22 = .ok (.istore_n 2, 1) := by decide +kernel
theorem dX12_planByFamilies_23 : decode cX12_planByFamilies 23 = .ok (.iconst 4, 1) := by decide +kernel
theorem dX12_planByFamilies_24 : decode cX12_planByFamilies 24 = .ok (.istore_n 3, 1) := by decide +kernel
theorem dX12_planByFamilies_25 : decode cX12_planByFamilies 25 = .ok (.aload_n 0, 1) := by decide +kernel
theorem dX12_planByFamilies_26 : decode cX12_planByFamilies 26 = .ok (.invokevirtual 126, 3) := by decide +kernel
theorem dX12_planByFamilies_29 : decode cX12_planByFamilies 29 = .ok (.iconst 0, 1) := by decide +kernel
theorem dX12_planByFamilies_30 : decode cX12_planByFamilies 30 = .ok (.istore 4, 2) := by decide +kernel
theorem dX12_planByFamilies_32 : decode cX12_planByFamilies 32 = .ok (.iload 4, 2) := by decide +kernel
theorem dX12_planByFamilies_34 : decode cX12_planByFamilies 34 = .ok (.aload_n 0, 1) := by decide +kernel
theorem dX12_planByFamilies_35 : decode cX12_planByFamilies 35 = .ok (.getfield 63, 3) := by decide +kernel
theorem dX12_planByFamilies_38 : decode cX12_planByFamilies 38 = .ok (.if_icmp .ge 186, 3) := by decide +kernel
theorem dX12_planByFamilies_41 : decode cX12_planByFamilies 41 = .ok (.iconst (-1), 1) := by decide +kernel
theorem dX12_planByFamilies_42 : decode cX12_planByFamilies 42 = .ok (.istore 5, 2) := by decide +kernel
theorem dX12_planByFamilies_44 : decode cX12_planByFamilies 44 = .ok (.aload_n 0, 1) := by decide +kernel
theorem dX12_planByFamilies_45 : decode cX12_planByFamilies 45 = .ok (.getfield 63, 3) := by decide +kernel
theorem dX12_planByFamilies_48 : decode cX12_planByFamilies 48 = .ok (.iconst 1, 1) := by decide +kernel
theorem dX12_planByFamilies_49 : decode cX12_planByFamilies 49 = .ok (.isub, 1) := by decide +kernel
theorem dX12_planByFamilies_50 : decode cX12_planByFamilies 50 = .ok (.istore 6, 2) := by decide +kernel
theorem dX12_planByFamilies_52 : decode cX12_planByFamilies 52 = .ok (.iload 6, 2) := by decide +kernel
theorem dX12_planByFamilies_54 : decode cX12_planByFamilies 54 = .ok (.ifCond .lt 96, 3) := by decide +kernel
theorem dX12_planByFamilies_57 : decode cX12_planByFamilies 57 = .ok (.aload_n 0, 1) := by decide +kernel
theorem dX12_planByFamilies_58 : decode cX12_planByFamilies 58 = .ok (.invokevirtual 122, 3) := by decide +kernel
theorem dX12_planByFamilies_61 : decode cX12_planByFamilies 61 = .ok (.aload_n 0, 1) := by decide +kernel
theorem dX12_planByFamilies_62 : decode cX12_planByFamilies 62 = .ok (.iload 6, 2) := by decide +kernel
theorem dX12_planByFamilies_64 : decode cX12_planByFamilies 64 = .ok (.iload_n 3, 1) := by decide +kernel
theorem dX12_planByFamilies_65 : decode cX12_planByFamilies 65 = .ok (.invokevirtual 119, 3) := by decide +kernel
theorem dX12_planByFamilies_68 : decode cX12_planByFamilies 68 = .ok (.iadd, 1) := by decide +kernel
theorem dX12_planByFamilies_69 : decode cX12_planByFamilies 69 = .ok (.istore 7, 2) := by decide +kernel
theorem dX12_planByFamilies_71 : decode cX12_planByFamilies 71 = .ok (.aload_n 0, 1) := by decide +kernel
theorem dX12_planByFamilies_72 : decode cX12_planByFamilies 72 = .ok (.iload_n 2, 1) := by decide +kernel
theorem dX12_planByFamilies_73 : decode cX12_planByFamilies 73 = .ok (.iload 6, 2) := by decide +kernel
theorem dX12_planByFamilies_75 : decode cX12_planByFamilies 75 = .ok (.invokevirtual 116, 3) := by decide +kernel
theorem dX12_planByFamilies_78 : decode cX12_planByFamilies 78 = .ok (.ifCond .eq 49, 3) := by decide +kernel
theorem dX12_planByFamilies_81 : decode cX12_planByFamilies 81 = .ok (.iload 7, 2) := by decide +kernel
theorem dX12_planByFamilies_83 : decode cX12_planByFamilies 83 = .ok (.aload_n 0, 1) := by decide +kernel
theorem dX12_planByFamilies_84 : decode cX12_planByFamilies 84 = .ok (.getfield 13, 3) := by decide +kernel
theorem dX12_planByFamilies_87 : decode cX12_planByFamilies 87 = .ok (.iload 6, 2) := by decide +kernel
theorem dX12_planByFamilies_89 : decode cX12_planByFamilies 89 = .ok (.iaload, 1) := by decide +kernel
theorem dX12_planByFamilies_90 : decode cX12_planByFamilies 90 = .ok (.isub, 1) := by decide +kernel
theorem dX12_planByFamilies_91 : decode cX12_planByFamilies 91 = .ok (.iload_n 1, 1) := by decide +kernel
theorem dX12_planByFamilies_92 : decode cX12_planByFamilies 92 = .ok (.if_icmp .gt 35, 3) := by decide +kernel
theorem dX12_planByFamilies_95 : decode cX12_planByFamilies 95 = .ok (.iload 7, 2) := by decide +kernel
theorem dX12_planByFamilies_97 : decode cX12_planByFamilies 97 = .ok (.aload_n 0, 1) := by decide +kernel
theorem dX12_planByFamilies_98 : decode cX12_planByFamilies 98 = .ok (.getfield 49, 3) := by decide +kernel
theorem dX12_planByFamilies_101 : decode cX12_planByFamilies 101 = .ok (.iconst 5, 1) := by decide +kernel
theorem dX12_planByFamilies_102 : decode cX12_planByFamilies 102 = .ok (.iload_n 2, 1) := by decide +kernel
theorem dX12_planByFamilies_103 : decode cX12_planByFamilies 103 = .ok (.iconst 1, 1) := by decide +kernel
theorem dX12_planByFamilies_104 : decode cX12_planByFamilies 104 = .ok (.iload 6, 2) := by decide +kernel
theorem dX12_planByFamilies_106 : decode cX12_planByFamilies 106 = .ok (.ishl, 1) := by decide +kernel
theorem dX12_planByFamilies_107 : decode cX12_planByFamilies 107 = .ok (.ior, 1) := by decide +kernel
theorem dX12_planByFamilies_108 : decode cX12_planByFamilies 108 = .ok (.imul, 1) := by decide +kernel
theorem dX12_planByFamilies_109 : decode cX12_planByFamilies 109 = .ok (.aload_n 0, 1) := by decide +kernel
theorem dX12_planByFamilies_110 : decode cX12_planByFamilies 110 = .ok (.getfield 22, 3) := by decide +kernel
theorem dX12_planByFamilies_113 : decode cX12_planByFamilies 113 = .ok (.iload 6, 2) := by decide +kernel
theorem dX12_planByFamilies_115 : decode cX12_planByFamilies 115 = .ok (.iaload, 1) := by decide +kernel
theorem dX12_planByFamilies_116 : decode cX12_planByFamilies 116 = .ok (.iadd, 1) := by decide +kernel
theorem dX12_planByFamilies_117 : decode cX12_planByFamilies 117 = .ok (.iaload, 1) := by decide +kernel
theorem dX12_planByFamilies_118 : decode cX12_planByFamilies 118 = .ok (.iadd, 1) := by decide +kernel
theorem dX12_planByFamilies_119 : decode cX12_planByFamilies 119 = .ok (.iload_n 1, 1) := by decide +kernel
theorem dX12_planByFamilies_120 : decode cX12_planByFamilies 120 = .ok (.if_icmp .gt 7, 3) := by decide +kernel
theorem dX12_planByFamilies_123 : decode cX12_planByFamilies 123 = .ok (.iconst 1, 1) := by decide +kernel
theorem dX12_planByFamilies_124 : decode cX12_planByFamilies 124 = .ok (.goto 4, 3) := by decide +kernel
theorem dX12_planByFamilies_127 : decode cX12_planByFamilies 127 = .ok (.iconst 0, 1) := by decide +kernel
theorem dX12_planByFamilies_128 : decode cX12_planByFamilies 128 = .ok (.istore 8, 2) := by decide +kernel
theorem dX12_planByFamilies_130 : decode cX12_planByFamilies 130 = .ok (.iload 8, 2) := by decide +kernel
theorem dX12_planByFamilies_132 : decode cX12_planByFamilies 132 = .ok (.ifCond .eq 8, 3) := by decide +kernel
theorem dX12_planByFamilies_135 : decode cX12_planByFamilies 135 = .ok (.iload 6, 2) := by decide +kernel
theorem dX12_planByFamilies_137 : decode cX12_planByFamilies 137 = .ok (.goto 5, 3) := by decide +kernel
theorem dX12_planByFamilies_140 : decode cX12_planByFamilies 140 = .ok (.iload 5, 2) := by decide +kernel
theorem dX12_planByFamilies_142 : decode cX12_planByFamilies 142 = .ok (.istore 5, 2) := by decide +kernel
theorem dX12_planByFamilies_144 : decode cX12_planByFamilies 144 = .ok (.iinc 6 (-1), 3) := by decide +kernel
theorem dX12_planByFamilies_147 : decode cX12_planByFamilies 147 = .ok (.goto (-95), 3) := by decide +kernel
theorem dX12_planByFamilies_150 : decode cX12_planByFamilies 150 = .ok (.aload_n 0, 1) := by decide +kernel
theorem dX12_planByFamilies_151 : decode cX12_planByFamilies 151 = .ok (.iconst 1, 1) := by decide +kernel
theorem dX12_planByFamilies_152 : decode cX12_planByFamilies 152 = .ok (.aload_n 0, 1) := by decide +kernel
theorem dX12_planByFamilies_153 : decode cX12_planByFamilies 153 = .ok (.getfield 22, 3) := by decide +kernel
theorem dX12_planByFamilies_156 : decode cX12_planByFamilies 156 = .ok (.iload 5, 2) := by decide +kernel
theorem dX12_planByFamilies_158 : decode cX12_planByFamilies 158 = .ok (.iaload, 1) := by decide +kernel
theorem dX12_planByFamilies_159 : decode cX12_planByFamilies 159 = .ok (.aload_n 0, 1) := by decide +kernel
theorem dX12_planByFamilies_160 : decode cX12_planByFamilies 160 = .ok (.getfield 22, 3) := by decide +kernel
theorem dX12_planByFamilies_163 : decode cX12_planByFamilies 163 = .ok (.iload 5, 2) := by decide +kernel
theorem dX12_planByFamilies_165 : decode cX12_planByFamilies 165 = .ok (.iaload, 1) := by decide +kernel
theorem dX12_planByFamilies_166 : decode cX12_planByFamilies 166 = .ok (.iload_n 3, 1) := by decide +kernel
theorem dX12_planByFamilies_167 : decode cX12_planByFamilies 167 = .ok (.if_icmp .ne 7, 3) := by decide +kernel
theorem dX12_planByFamilies_170 : decode cX12_planByFamilies 170 = .ok (.iconst 0, 1) := by decide +kernel
theorem dX12_planByFamilies_171 : decode cX12_planByFamilies 171 = .ok (.goto 15, 3) := by decide +kernel
theorem dX12_planByFamilies_174 : decode cX12_planByFamilies 174 = .ok (.aload_n 0, 1) := by decide +kernel
theorem dX12_planByFamilies_175 : decode cX12_planByFamilies 175 = .ok (.getfield 25, 3) := by decide +kernel
theorem dX12_planByFamilies_178 : decode cX12_planByFamilies 178 = .ok (.aload_n 0, 1) := by decide +kernel
theorem dX12_planByFamilies_179 : decode cX12_planByFamilies 179 = .ok (.getfield 22, 3) := by decide +kernel
theorem dX12_planByFamilies_182 : decode cX12_planByFamilies 182 = .ok (.iload 5, 2) := by decide +kernel
theorem dX12_planByFamilies_184 : decode cX12_planByFamilies 184 = .ok (.iaload, 1) := by decide +kernel
theorem dX12_planByFamilies_185 : decode cX12_planByFamilies 185 = .ok (.iaload, 1) := by decide +kernel
theorem dX12_planByFamilies_186 : decode cX12_planByFamilies 186 = .ok (.invokevirtual 129, 3) := by decide +kernel
theorem dX12_planByFamilies_189 : decode cX12_planByFamilies 189 = .ok (.aload_n 0, 1) := by decide +kernel
theorem dX12_planByFamilies_190 : decode cX12_planByFamilies 190 = .ok (.iconst 0, 1) := by decide +kernel
theorem dX12_planByFamilies_191 : decode cX12_planByFamilies 191 = .ok (.iload 5, 2) := by decide +kernel
theorem dX12_planByFamilies_193 : decode cX12_planByFamilies 193 = .ok (.aload_n 0, 1) := by decide +kernel
theorem dX12_planByFamilies_194 : decode cX12_planByFamilies 194 = .ok (.getfield 7, 3) := by decide +kernel
theorem dX12_planByFamilies_197 : decode cX12_planByFamilies 197 = .ok (.iload 5, 2) := by decide +kernel
theorem dX12_planByFamilies_199 : decode cX12_planByFamilies 199 = .ok (.iaload, 1) := by decide +kernel
theorem dX12_planByFamilies_200 : decode cX12_planByFamilies 200 = .ok (.invokevirtual 129, 3) := by decide +kernel
theorem dX12_planByFamilies_203 : decode cX12_planByFamilies 203 = .ok (.iload_n 2, 1) := by decide +kernel
theorem dX12_planByFamilies_204 : decode cX12_planByFamilies 204 = .ok (.iconst 1, 1) := by decide +kernel
theorem dX12_planByFamilies_205 : decode cX12_planByFamilies 205 = .ok (.iload 5, 2) := by decide +kernel
theorem dX12_planByFamilies_207 : decode cX12_planByFamilies 207 = .ok (.ishl, 1) := by decide +kernel
theorem dX12_planByFamilies_208 : decode cX12_planByFamilies 208 = .ok (.ior, 1) := by decide +kernel
theorem dX12_planByFamilies_209 : decode cX12_planByFamilies 209 = .ok (.istore_n 2, 1) := by decide +kernel
theorem dX12_planByFamilies_210 : decode cX12_planByFamilies 210 = .ok (.aload_n 0, 1) := by decide +kernel
theorem dX12_planByFamilies_211 : decode cX12_planByFamilies 211 = .ok (.getfield 22, 3) := by decide +kernel
theorem dX12_planByFamilies_214 : decode cX12_planByFamilies 214 = .ok (.iload 5, 2) := by decide +kernel
theorem dX12_planByFamilies_216 : decode cX12_planByFamilies 216 = .ok (.iaload, 1) := by decide +kernel
theorem dX12_planByFamilies_217 : decode cX12_planByFamilies 217 = .ok (.istore_n 3, 1) := by decide +kernel
theorem dX12_planByFamilies_218 : decode cX12_planByFamilies 218 = .ok (.iinc 4 1, 3) := by decide +kernel
theorem dX12_planByFamilies_221 : decode cX12_planByFamilies 221 = .ok (.goto (-189), 3) := by decide +kernel
theorem dX12_planByFamilies_224 : decode cX12_planByFamilies 224 = .ok (.aload_n 0, 1) := by decide +kernel
theorem dX12_planByFamilies_225 : decode cX12_planByFamilies 225 = .ok (.invokevirtual 148, 3) := by decide +kernel
theorem dX12_planByFamilies_228 : decode cX12_planByFamilies 228 = .ok (.ireturn, 1) := by decide +kernel
theorem dX12_planPreemptiveByDates_0 : decode cX12_planPreemptiveByDates 0 = .ok (.aload_n 0, 1) := by decide +kernel
theorem dX12_planPreemptiveByDates_1 : decode cX12_planPreemptiveByDates 1 = .ok (.invokevirtual 137, 3) := by decide +kernel
theorem dX12_planPreemptiveByDates_4 : decode cX12_planPreemptiveByDates 4 = .ok (.ifCond .ne 5, 3) := by decide +kernel
theorem dX12_planPreemptiveByDates_7 : decode cX12_planPreemptiveByDates 7 = .ok (.iconst 0, 1) := by decide +kernel
theorem dX12_planPreemptiveByDates_8 : decode cX12_planPreemptiveByDates 8 = .ok (.ireturn, 1) := by decide +kernel
theorem dX12_planPreemptiveByDates_9 : decode cX12_planPreemptiveByDates 9 = .ok (.aload_n 0, 1) := by decide +kernel
theorem dX12_planPreemptiveByDates_10 : decode cX12_planPreemptiveByDates 10 = .ok (.iconst 1, 1) := by decide +kernel
theorem dX12_planPreemptiveByDates_11 : decode cX12_planPreemptiveByDates 11 = .ok (.invokevirtual 161, 3) := by decide +kernel
theorem dX12_planPreemptiveByDates_14 : decode cX12_planPreemptiveByDates 14 = .ok (.aload_n 0, 1) := by decide +kernel
theorem dX12_planPreemptiveByDates_15 : decode cX12_planPreemptiveByDates 15 = .ok (.invokevirtual 148, 3) := by decide +kernel
theorem dX12_planPreemptiveByDates_18 : decode cX12_planPreemptiveByDates 18 = .ok (.ireturn, 1) := by decide +kernel
theorem dX12_planPreemptiveShortest_0 : decode cX12_planPreemptiveShortest 0 = .ok (.aload_n 0, 1) := by decide +kernel
theorem dX12_planPreemptiveShortest_1 : decode cX12_planPreemptiveShortest 1 = .ok (.invokevirtual 137, 3) := by decide +kernel
theorem dX12_planPreemptiveShortest_4 : decode cX12_planPreemptiveShortest 4 = .ok (.ifCond .ne 5, 3) := by decide +kernel
theorem dX12_planPreemptiveShortest_7 : decode cX12_planPreemptiveShortest 7 = .ok (.iconst 0, 1) := by decide +kernel
theorem dX12_planPreemptiveShortest_8 : decode cX12_planPreemptiveShortest 8 = .ok (.ireturn, 1) := by decide +kernel
theorem dX12_planPreemptiveShortest_9 : decode cX12_planPreemptiveShortest 9 = .ok (.aload_n 0, 1) := by decide +kernel
theorem dX12_planPreemptiveShortest_10 : decode cX12_planPreemptiveShortest 10 = .ok (.iconst 0, 1) := by decide +kernel
theorem dX12_planPreemptiveShortest_11 : decode cX12_planPreemptiveShortest 11 = .ok (.invokevirtual 161, 3) := by decide +kernel
theorem dX12_planPreemptiveShortest_14 : decode cX12_planPreemptiveShortest 14 = .ok (.aload_n 0, 1) := by decide +kernel
theorem dX12_planPreemptiveShortest_15 : decode cX12_planPreemptiveShortest 15 = .ok (.iconst 1, 1) := by decide +kernel
theorem dX12_planPreemptiveShortest_16 : decode cX12_planPreemptiveShortest 16 = .ok (.invokevirtual 151, 3) := by decide +kernel
theorem dX12_planPreemptiveShortest_19 : decode cX12_planPreemptiveShortest 19 = .ok (.ireturn, 1) := by decide +kernel
theorem dX12_hasPlan_0 : decode cX12_hasPlan 0 = .ok (.aload_n 0, 1) := by decide +kernel
theorem dX12_hasPlan_1 : decode cX12_hasPlan 1 = .ok (.iconst 0, 1) := by decide +kernel
theorem dX12_hasPlan_2 : decode cX12_hasPlan 2 = .ok (.putfield 59, 3) := by decide +kernel
theorem dX12_hasPlan_5 : decode cX12_hasPlan 5 = .ok (.aload_n 0, 1) := by decide +kernel
theorem dX12_hasPlan_6 : decode cX12_hasPlan 6 = .ok (.getfield 70, 3) := by decide +kernel
theorem dX12_hasPlan_9 : decode cX12_hasPlan 9 = .ok (.ireturn, 1) := by decide +kernel
theorem dX12_pieces_0 : decode cX12_pieces 0 = .ok (.aload_n 0, 1) := by decide +kernel
theorem dX12_pieces_1 : decode cX12_pieces 1 = .ok (.iconst 0, 1) := by decide +kernel
theorem dX12_pieces_2 : decode cX12_pieces 2 = .ok (.putfield 59, 3) := by decide +kernel
theorem dX12_pieces_5 : decode cX12_pieces 5 = .ok (.aload_n 0, 1) := by decide +kernel
theorem dX12_pieces_6 : decode cX12_pieces 6 = .ok (.getfield 74, 3) := by decide +kernel
theorem dX12_pieces_9 : decode cX12_pieces 9 = .ok (.ireturn, 1) := by decide +kernel
theorem dX12_isPiece_0 : decode cX12_isPiece 0 = .ok (.aload_n 0, 1) := by decide +kernel
theorem dX12_isPiece_1 : decode cX12_isPiece 1 = .ok (.iload_n 1, 1) := by decide +kernel
theorem dX12_isPiece_2 : decode cX12_isPiece 2 = .ok (.ifCond .lt 15, 3) := by decide +kernel
theorem dX12_isPiece_5 : decode cX12_isPiece 5 = .ok (.iload_n 1, 1) := by decide +kernel
theorem dX12_isPiece_6 : decode cX12_isPiece 6 = .ok (.aload_n 0, 1) := by decide +kernel
theorem dX12_isPiece_7 : decode cX12_isPiece 7 = .ok (.getfield 74, 3) := by decide +kernel
theorem dX12_isPiece_10 : decode cX12_isPiece 10 = .ok (.if_icmp .ge 7, 3) := by decide +kernel
theorem dX12_isPiece_13 : decode cX12_isPiece 13 = .ok (.iconst 0, 1) := by decide +kernel
theorem dX12_isPiece_14 : decode cX12_isPiece 14 = .ok (.goto 4, 3) := by decide +kernel
theorem dX12_isPiece_17 : decode cX12_isPiece 17 = .ok (.iconst 1, 1) := by decide +kernel
theorem dX12_isPiece_18 : decode cX12_isPiece 18 = .ok (.invokevirtual 84, 3) := by decide +kernel
theorem dX12_isPiece_21 : decode cX12_isPiece 21 = .ok (.ireturn, 1) := by decide +kernel
theorem dX12_kindOf_0 : decode cX12_kindOf 0 = .ok (.aload_n 0, 1) := by decide +kernel
theorem dX12_kindOf_1 : decode cX12_kindOf 1 = .ok (.iload_n 1, 1) := by decide +kernel
theorem dX12_kindOf_2 : decode cX12_kindOf 2 = .ok (.invokevirtual 164, 3) := by decide +kernel
theorem dX12_kindOf_5 : decode cX12_kindOf 5 = .ok (.ifCond .eq 12, 3) := by decide +kernel
theorem dX12_kindOf_8 : decode cX12_kindOf 8 = .ok (.aload_n 0, 1) := by decide +kernel
theorem dX12_kindOf_9 : decode cX12_kindOf 9 = .ok (.getfield 28, 3) := by decide +kernel
theorem dX12_kindOf_12 : decode cX12_kindOf 12 = .ok (.iload_n 1, 1) := by decide +kernel
theorem dX12_kindOf_13 : decode cX12_kindOf 13 = .ok (.iaload, 1) := by decide +kernel
theorem dX12_kindOf_14 : decode cX12_kindOf 14 = .ok (.goto 4, 3) := by decide +kernel
theorem dX12_kindOf_17 : decode cX12_kindOf 17 = .ok (.iconst 0, 1) := by decide +kernel
theorem dX12_kindOf_18 : decode cX12_kindOf 18 = .ok (.ireturn, 1) := by decide +kernel
theorem dX12_whoseIs_0 : decode cX12_whoseIs 0 = .ok (.aload_n 0, 1) := by decide +kernel
theorem dX12_whoseIs_1 : decode cX12_whoseIs 1 = .ok (.iload_n 1, 1) := by decide +kernel
theorem dX12_whoseIs_2 : decode cX12_whoseIs 2 = .ok (.invokevirtual 164, 3) := by decide +kernel
theorem dX12_whoseIs_5 : decode cX12_whoseIs 5 = .ok (.ifCond .eq 12, 3) := by decide +kernel
theorem dX12_whoseIs_8 : decode cX12_whoseIs 8 = .ok (.aload_n 0, 1) := by decide +kernel
theorem dX12_whoseIs_9 : decode cX12_whoseIs 9 = .ok (.getfield 31, 3) := by decide +kernel
theorem dX12_whoseIs_12 : decode cX12_whoseIs 12 = .ok (.iload_n 1, 1) := by decide +kernel
theorem dX12_whoseIs_13 : decode cX12_whoseIs 13 = .ok (.iaload, 1) := by decide +kernel
theorem dX12_whoseIs_14 : decode cX12_whoseIs 14 = .ok (.goto 4, 3) := by decide +kernel
theorem dX12_whoseIs_17 : decode cX12_whoseIs 17 = .ok (.iconst 0, 1) := by decide +kernel
theorem dX12_whoseIs_18 : decode cX12_whoseIs 18 = .ok (.ireturn, 1) := by decide +kernel
theorem dX12_startOf_0 : decode cX12_startOf 0 = .ok (.aload_n 0, 1) := by decide +kernel
theorem dX12_startOf_1 : decode cX12_startOf 1 = .ok (.iload_n 1, 1) := by decide +kernel
theorem dX12_startOf_2 : decode cX12_startOf 2 = .ok (.invokevirtual 164, 3) := by decide +kernel
theorem dX12_startOf_5 : decode cX12_startOf 5 = .ok (.ifCond .eq 18, 3) := by decide +kernel
theorem dX12_startOf_8 : decode cX12_startOf 8 = .ok (.iload_n 1, 1) := by decide +kernel
theorem dX12_startOf_9 : decode cX12_startOf 9 = .ok (.ifCond .le 14, 3) := by decide +kernel
theorem dX12_startOf_12 : decode cX12_startOf 12 = .ok (.aload_n 0, 1) := by decide +kernel
theorem dX12_startOf_13 : decode cX12_startOf 13 = .ok (.getfield 34, 3) := by decide +kernel
theorem dX12_startOf_16 : decode cX12_startOf 16 = .ok (.iload_n 1, 1) := by decide +kernel
theorem dX12_startOf_17 : decode cX12_startOf 17 = .ok (.iconst 1, 1) := by decide +kernel
theorem dX12_startOf_18 : decode cX12_startOf 18 = .ok (.isub, 1) := by decide +kernel
theorem dX12_startOf_19 : decode cX12_startOf 19 = .ok (.iaload, 1) := by decide +kernel
theorem dX12_startOf_20 : decode cX12_startOf 20 = .ok (.goto 4, 3) := by decide +kernel
theorem dX12_startOf_23 : decode cX12_startOf 23 = .ok (.iconst 0, 1) := by decide +kernel
theorem dX12_startOf_24 : decode cX12_startOf 24 = .ok (.ireturn, 1) := by decide +kernel
theorem dX12_endOf_0 : decode cX12_endOf 0 = .ok (.aload_n 0, 1) := by decide +kernel
theorem dX12_endOf_1 : decode cX12_endOf 1 = .ok (.iload_n 1, 1) := by decide +kernel
theorem dX12_endOf_2 : decode cX12_endOf 2 = .ok (.invokevirtual 164, 3) := by decide +kernel
theorem dX12_endOf_5 : decode cX12_endOf 5 = .ok (.ifCond .eq 12, 3) := by decide +kernel
theorem dX12_endOf_8 : decode cX12_endOf 8 = .ok (.aload_n 0, 1) := by decide +kernel
theorem dX12_endOf_9 : decode cX12_endOf 9 = .ok (.getfield 34, 3) := by decide +kernel
theorem dX12_endOf_12 : decode cX12_endOf 12 = .ok (.iload_n 1, 1) := by decide +kernel
theorem dX12_endOf_13 : decode cX12_endOf 13 = .ok (.iaload, 1) := by decide +kernel
theorem dX12_endOf_14 : decode cX12_endOf 14 = .ok (.goto 4, 3) := by decide +kernel
theorem dX12_endOf_17 : decode cX12_endOf 17 = .ok (.iconst 0, 1) := by decide +kernel
theorem dX12_endOf_18 : decode cX12_endOf 18 = .ok (.ireturn, 1) := by decide +kernel
theorem dX12_isPlanned_0 : decode cX12_isPlanned 0 = .ok (.aload_n 0, 1) := by decide +kernel
theorem dX12_isPlanned_1 : decode cX12_isPlanned 1 = .ok (.aload_n 0, 1) := by decide +kernel
theorem dX12_isPlanned_2 : decode cX12_isPlanned 2 = .ok (.iload_n 1, 1) := by decide +kernel
theorem dX12_isPlanned_3 : decode cX12_isPlanned 3 = .ok (.invokevirtual 92, 3) := by decide +kernel
theorem dX12_isPlanned_6 : decode cX12_isPlanned 6 = .ok (.ifCond .ne 7, 3) := by decide +kernel
theorem dX12_isPlanned_9 : decode cX12_isPlanned 9 = .ok (.iconst 1, 1) := by decide +kernel
theorem dX12_isPlanned_10 : decode cX12_isPlanned 10 = .ok (.goto 15, 3) := by decide +kernel
theorem dX12_isPlanned_13 : decode cX12_isPlanned 13 = .ok (.aload_n 0, 1) := by decide +kernel
theorem dX12_isPlanned_14 : decode cX12_isPlanned 14 = .ok (.getfield 70, 3) := by decide +kernel
theorem dX12_isPlanned_17 : decode cX12_isPlanned 17 = .ok (.ifCond .eq 7, 3) := by decide +kernel
theorem dX12_isPlanned_20 : decode cX12_isPlanned 20 = .ok (.iconst 0, 1) := by decide +kernel
theorem dX12_isPlanned_21 : decode cX12_isPlanned 21 = .ok (.goto 4, 3) := by decide +kernel
theorem dX12_isPlanned_24 : decode cX12_isPlanned 24 = .ok (.iconst 2, 1) := by decide +kernel
theorem dX12_isPlanned_25 : decode cX12_isPlanned 25 = .ok (.invokevirtual 84, 3) := by decide +kernel
theorem dX12_isPlanned_28 : decode cX12_isPlanned 28 = .ok (.ireturn, 1) := by decide +kernel
theorem dX12_completion_0 : decode cX12_completion 0 = .ok (.aload_n 0, 1) := by decide +kernel
theorem dX12_completion_1 : decode cX12_completion 1 = .ok (.iload_n 1, 1) := by decide +kernel
theorem dX12_completion_2 : decode cX12_completion 2 = .ok (.invokevirtual 167, 3) := by decide +kernel
theorem dX12_completion_5 : decode cX12_completion 5 = .ok (.ifCond .eq 12, 3) := by decide +kernel
theorem dX12_completion_8 : decode cX12_completion 8 = .ok (.aload_n 0, 1) := by decide +kernel
theorem dX12_completion_9 : decode cX12_completion 9 = .ok (.getfield 37, 3) := by decide +kernel
theorem dX12_completion_12 : decode cX12_completion 12 = .ok (.iload_n 1, 1) := by decide +kernel
theorem dX12_completion_13 : decode cX12_completion 13 = .ok (.iaload, 1) := by decide +kernel
theorem dX12_completion_14 : decode cX12_completion 14 = .ok (.goto 4, 3) := by decide +kernel
theorem dX12_completion_17 : decode cX12_completion 17 = .ok (.iconst 0, 1) := by decide +kernel
theorem dX12_completion_18 : decode cX12_completion 18 = .ok (.ireturn, 1) := by decide +kernel
theorem dX12_lateness_0 : decode cX12_lateness 0 = .ok (.aload_n 0, 1) := by decide +kernel
theorem dX12_lateness_1 : decode cX12_lateness 1 = .ok (.iload_n 1, 1) := by decide +kernel
theorem dX12_lateness_2 : decode cX12_lateness 2 = .ok (.invokevirtual 167, 3) := by decide +kernel
theorem dX12_lateness_5 : decode cX12_lateness 5 = .ok (.ifCond .eq 19, 3) := by decide +kernel
theorem dX12_lateness_8 : decode cX12_lateness 8 = .ok (.aload_n 0, 1) := by decide +kernel
theorem dX12_lateness_9 : decode cX12_lateness 9 = .ok (.getfield 37, 3) := by decide +kernel
theorem dX12_lateness_12 : decode cX12_lateness 12 = .ok (.iload_n 1, 1) := by decide +kernel
theorem dX12_lateness_13 : decode cX12_lateness 13 = .ok (.iaload, 1) := by decide +kernel
theorem dX12_lateness_14 : decode cX12_lateness 14 = .ok (.aload_n 0, 1) := by decide +kernel
theorem dX12_lateness_15 : decode cX12_lateness 15 = .ok (.getfield 13, 3) := by decide +kernel
theorem dX12_lateness_18 : decode cX12_lateness 18 = .ok (.iload_n 1, 1) := by decide +kernel
theorem dX12_lateness_19 : decode cX12_lateness 19 = .ok (.iaload, 1) := by decide +kernel
theorem dX12_lateness_20 : decode cX12_lateness 20 = .ok (.isub, 1) := by decide +kernel
theorem dX12_lateness_21 : decode cX12_lateness 21 = .ok (.goto 4, 3) := by decide +kernel
theorem dX12_lateness_24 : decode cX12_lateness 24 = .ok (.iconst 0, 1) := by decide +kernel
theorem dX12_lateness_25 : decode cX12_lateness 25 = .ok (.ireturn, 1) := by decide +kernel
theorem dX12_maxLateness_0 : decode cX12_maxLateness 0 = .ok (.aload_n 0, 1) := by decide +kernel
theorem dX12_maxLateness_1 : decode cX12_maxLateness 1 = .ok (.aload_n 0, 1) := by decide +kernel
theorem dX12_maxLateness_2 : decode cX12_maxLateness 2 = .ok (.getfield 70, 3) := by decide +kernel
theorem dX12_maxLateness_5 : decode cX12_maxLateness 5 = .ok (.ifCond .eq 7, 3) := by decide +kernel
theorem dX12_maxLateness_8 : decode cX12_maxLateness 8 = .ok (.iconst 0, 1) := by decide +kernel
theorem dX12_maxLateness_9 : decode cX12_maxLateness 9 = .ok (.goto 4, 3) := by decide +kernel
theorem dX12_maxLateness_12 : decode cX12_maxLateness 12 = .ok (.iconst 1, 1) := by decide +kernel
theorem dX12_maxLateness_13 : decode cX12_maxLateness 13 = .ok (.invokevirtual 84, 3) := by decide +kernel
theorem dX12_maxLateness_16 : decode cX12_maxLateness 16 = .ok (.ifCond .eq 10, 3) := by decide +kernel
theorem dX12_maxLateness_19 : decode cX12_maxLateness 19 = .ok (.aload_n 0, 1) := by decide +kernel
theorem dX12_maxLateness_20 : decode cX12_maxLateness 20 = .ok (.invokevirtual 148, 3) := by decide +kernel
theorem dX12_maxLateness_23 : decode cX12_maxLateness 23 = .ok (.goto 4, 3) := by decide +kernel
theorem dX12_maxLateness_26 : decode cX12_maxLateness 26 = .ok (.iconst 0, 1) := by decide +kernel
theorem dX12_maxLateness_27 : decode cX12_maxLateness 27 = .ok (.ireturn, 1) := by decide +kernel
theorem dX12_lateJobs_0 : decode cX12_lateJobs 0 = .ok (.aload_n 0, 1) := by decide +kernel
theorem dX12_lateJobs_1 : decode cX12_lateJobs 1 = .ok (.aload_n 0, 1) := by decide +kernel
theorem dX12_lateJobs_2 : decode cX12_lateJobs 2 = .ok (.getfield 70, 3) := by decide +kernel
theorem dX12_lateJobs_5 : decode cX12_lateJobs 5 = .ok (.ifCond .eq 7, 3) := by decide +kernel
theorem dX12_lateJobs_8 : decode cX12_lateJobs 8 = .ok (.iconst 0, 1) := by decide +kernel
theorem dX12_lateJobs_9 : decode cX12_lateJobs 9 = .ok (.goto 4, 3) := by decide +kernel
theorem dX12_lateJobs_12 : decode cX12_lateJobs 12 = .ok (.iconst 1, 1) := by decide +kernel
theorem dX12_lateJobs_13 : decode cX12_lateJobs 13 = .ok (.invokevirtual 84, 3) := by decide +kernel
theorem dX12_lateJobs_16 : decode cX12_lateJobs 16 = .ok (.ifCond .eq 11, 3) := by decide +kernel
theorem dX12_lateJobs_19 : decode cX12_lateJobs 19 = .ok (.aload_n 0, 1) := by decide +kernel
theorem dX12_lateJobs_20 : decode cX12_lateJobs 20 = .ok (.iconst 0, 1) := by decide +kernel
theorem dX12_lateJobs_21 : decode cX12_lateJobs 21 = .ok (.invokevirtual 151, 3) := by decide +kernel
theorem dX12_lateJobs_24 : decode cX12_lateJobs 24 = .ok (.goto 4, 3) := by decide +kernel
theorem dX12_lateJobs_27 : decode cX12_lateJobs 27 = .ok (.iconst 0, 1) := by decide +kernel
theorem dX12_lateJobs_28 : decode cX12_lateJobs 28 = .ok (.ireturn, 1) := by decide +kernel
theorem dX12_completions_0 : decode cX12_completions 0 = .ok (.aload_n 0, 1) := by decide +kernel
theorem dX12_completions_1 : decode cX12_completions 1 = .ok (.aload_n 0, 1) := by decide +kernel
theorem dX12_completions_2 : decode cX12_completions 2 = .ok (.getfield 70, 3) := by decide +kernel
theorem dX12_completions_5 : decode cX12_completions 5 = .ok (.ifCond .eq 7, 3) := by decide +kernel
theorem dX12_completions_8 : decode cX12_completions 8 = .ok (.iconst 0, 1) := by decide +kernel
theorem dX12_completions_9 : decode cX12_completions 9 = .ok (.goto 4, 3) := by decide +kernel
theorem dX12_completions_12 : decode cX12_completions 12 = .ok (.iconst 1, 1) := by decide +kernel
theorem dX12_completions_13 : decode cX12_completions 13 = .ok (.invokevirtual 84, 3) := by decide +kernel
theorem dX12_completions_16 : decode cX12_completions 16 = .ok (.ifCond .eq 11, 3) := by decide +kernel
theorem dX12_completions_19 : decode cX12_completions 19 = .ok (.aload_n 0, 1) := by decide +kernel
theorem dX12_completions_20 : decode cX12_completions 20 = .ok (.iconst 1, 1) := by decide +kernel
theorem dX12_completions_21 : decode cX12_completions 21 = .ok (.invokevirtual 151, 3) := by decide +kernel
theorem dX12_completions_24 : decode cX12_completions 24 = .ok (.goto 4, 3) := by decide +kernel
theorem dX12_completions_27 : decode cX12_completions 27 = .ok (.iconst 0, 1) := by decide +kernel
theorem dX12_completions_28 : decode cX12_completions 28 = .ok (.ireturn, 1) := by decide +kernel
theorem dX12_weightedCompletions_0 : decode cX12_weightedCompletions 0 = .ok (.aload_n 0, 1) := by decide +kernel
theorem dX12_weightedCompletions_1 : decode cX12_weightedCompletions 1 = .ok (.aload_n 0, 1) := by decide +kernel
theorem dX12_weightedCompletions_2 : decode cX12_weightedCompletions 2 = .ok (.getfield 70, 3) := by decide +kernel
theorem dX12_weightedCompletions_5 : decode cX12_weightedCompletions 5 = .ok (.ifCond .eq 7, 3) := by decide +kernel
theorem dX12_weightedCompletions_8 : decode cX12_weightedCompletions 8 = .ok (.iconst 0, 1) := by decide +kernel
theorem dX12_weightedCompletions_9 : decode cX12_weightedCompletions 9 = .ok (.goto 4, 3) := by decide +kernel
theorem dX12_weightedCompletions_12 : decode cX12_weightedCompletions 12 = .ok (.iconst 1, 1) := by decide +kernel
theorem dX12_weightedCompletions_13 : decode cX12_weightedCompletions 13 = .ok (.invokevirtual 84, 3) := by decide +kernel
theorem dX12_weightedCompletions_16 : decode cX12_weightedCompletions 16 = .ok (.ifCond .eq 11, 3) := by decide +kernel
theorem dX12_weightedCompletions_19 : decode cX12_weightedCompletions 19 = .ok (.aload_n 0, 1) := by decide +kernel
theorem dX12_weightedCompletions_20 : decode cX12_weightedCompletions 20 = .ok (.iconst 2, 1) := by decide +kernel
theorem dX12_weightedCompletions_21 : decode cX12_weightedCompletions 21 = .ok (.invokevirtual 151, 3) := by decide +kernel
theorem dX12_weightedCompletions_24 : decode cX12_weightedCompletions 24 = .ok (.goto 4, 3) := by decide +kernel
theorem dX12_weightedCompletions_27 : decode cX12_weightedCompletions 27 = .ok (.iconst 0, 1) := by decide +kernel
theorem dX12_weightedCompletions_28 : decode cX12_weightedCompletions 28 = .ok (.ireturn, 1) := by decide +kernel
theorem dX12_weightedTardiness_0 : decode cX12_weightedTardiness 0 = .ok (.aload_n 0, 1) := by decide +kernel
theorem dX12_weightedTardiness_1 : decode cX12_weightedTardiness 1 = .ok (.aload_n 0, 1) := by decide +kernel
theorem dX12_weightedTardiness_2 : decode cX12_weightedTardiness 2 = .ok (.getfield 70, 3) := by decide +kernel
theorem dX12_weightedTardiness_5 : decode cX12_weightedTardiness 5 = .ok (.ifCond .eq 7, 3) := by decide +kernel
theorem dX12_weightedTardiness_8 : decode cX12_weightedTardiness 8 = .ok (.iconst 0, 1) := by decide +kernel
theorem dX12_weightedTardiness_9 : decode cX12_weightedTardiness 9 = .ok (.goto 4, 3) := by decide +kernel
theorem dX12_weightedTardiness_12 : decode cX12_weightedTardiness 12 = .ok (.iconst 1, 1) := by decide +kernel
theorem dX12_weightedTardiness_13 : decode cX12_weightedTardiness 13 = .ok (.invokevirtual 84, 3) := by decide +kernel
theorem dX12_weightedTardiness_16 : decode cX12_weightedTardiness 16 = .ok (.ifCond .eq 11, 3) := by decide +kernel
theorem dX12_weightedTardiness_19 : decode cX12_weightedTardiness 19 = .ok (.aload_n 0, 1) := by decide +kernel
theorem dX12_weightedTardiness_20 : decode cX12_weightedTardiness 20 = .ok (.iconst 3, 1) := by decide +kernel
theorem dX12_weightedTardiness_21 : decode cX12_weightedTardiness 21 = .ok (.invokevirtual 151, 3) := by decide +kernel
theorem dX12_weightedTardiness_24 : decode cX12_weightedTardiness 24 = .ok (.goto 4, 3) := by decide +kernel
theorem dX12_weightedTardiness_27 : decode cX12_weightedTardiness 27 = .ok (.iconst 0, 1) := by decide +kernel
theorem dX12_weightedTardiness_28 : decode cX12_weightedTardiness 28 = .ok (.ireturn, 1) := by decide +kernel
theorem dX12_areFew_0 : decode cX12_areFew 0 = .ok (.aload_n 0, 1) := by decide +kernel
theorem dX12_areFew_1 : decode cX12_areFew 1 = .ok (.aload_n 0, 1) := by decide +kernel
theorem dX12_areFew_2 : decode cX12_areFew 2 = .ok (.getfield 63, 3) := by decide +kernel
theorem dX12_areFew_5 : decode cX12_areFew 5 = .ok (.ifCond .eq 12, 3) := by decide +kernel
theorem dX12_areFew_8 : decode cX12_areFew 8 = .ok (.aload_n 0, 1) := by decide +kernel
theorem dX12_areFew_9 : decode cX12_areFew 9 = .ok (.getfield 63, 3) := by decide +kernel
theorem dX12_areFew_12 : decode cX12_areFew 12 = .ok (.bipush 7, 2) := by decide +kernel
theorem dX12_areFew_14 : decode cX12_areFew 14 = .ok (.if_icmp .le 7, 3) := by decide +kernel
theorem dX12_areFew_17 : decode cX12_areFew 17 = .ok (.iconst 1, 1) := by decide +kernel
theorem dX12_areFew_18 : decode cX12_areFew 18 = .ok (.goto 4, 3) := by decide +kernel
theorem dX12_areFew_21 : decode cX12_areFew 21 = .ok (.iconst 0, 1) := by decide +kernel
theorem dX12_areFew_22 : decode cX12_areFew 22 = .ok (.invokevirtual 84, 3) := by decide +kernel
theorem dX12_areFew_25 : decode cX12_areFew 25 = .ok (.ireturn, 1) := by decide +kernel
theorem dX12_leastBy_0 : decode cX12_leastBy 0 = .ok (.aload_n 0, 1) := by decide +kernel
theorem dX12_leastBy_1 : decode cX12_leastBy 1 = .ok (.iload_n 1, 1) := by decide +kernel
theorem dX12_leastBy_2 : decode cX12_leastBy 2 = .ok (.invokevirtual 154, 3) := by decide +kernel
theorem dX12_leastBy_5 : decode cX12_leastBy 5 = .ok (.aload_n 0, 1) := by decide +kernel
theorem dX12_leastBy_6 : decode cX12_leastBy 6 = .ok (.getfield 46, 3) := by decide +kernel
theorem dX12_leastBy_9 : decode cX12_leastBy 9 = .ok (.iconst 0, 1) := by decide +kernel
theorem dX12_leastBy_10 : decode cX12_leastBy 10 = .ok (.iaload, 1) := by decide +kernel
theorem dX12_leastBy_11 : decode cX12_leastBy 11 = .ok (.ireturn, 1) := by decide +kernel
theorem dX12_leastLateness_0 : decode cX12_leastLateness 0 = .ok (.aload_n 0, 1) := by decide +kernel
theorem dX12_leastLateness_1 : decode cX12_leastLateness 1 = .ok (.invokevirtual 170, 3) := by decide +kernel
theorem dX12_leastLateness_4 : decode cX12_leastLateness 4 = .ok (.ifCond .eq 11, 3) := by decide +kernel
theorem dX12_leastLateness_7 : decode cX12_leastLateness 7 = .ok (.aload_n 0, 1) := by decide +kernel
theorem dX12_leastLateness_8 : decode cX12_leastLateness 8 = .ok (.iconst 0, 1) := by decide +kernel
theorem dX12_leastLateness_9 : decode cX12_leastLateness 9 = .ok (.invokevirtual 173, 3) := by decide +kernel
theorem dX12_leastLateness_12 : decode cX12_leastLateness 12 = .ok (.goto 4, 3) := by decide +kernel
theorem dX12_leastLateness_15 : decode cX12_leastLateness 15 = .ok (.iconst 0, 1) := by decide +kernel
theorem dX12_leastLateness_16 : decode cX12_leastLateness 16 = .ok (.ireturn, 1) := by decide +kernel
theorem dX12_leastCompletions_0 : decode cX12_leastCompletions 0 = .ok (.aload_n 0, 1) := by decide +kernel
theorem dX12_leastCompletions_1 : decode cX12_leastCompletions 1 = .ok (.invokevirtual 170, 3) := by decide +kernel
theorem dX12_leastCompletions_4 : decode cX12_leastCompletions 4 = .ok (.ifCond .eq 11, 3) := by decide +kernel
theorem dX12_leastCompletions_7 : decode cX12_leastCompletions 7 = .ok (.aload_n 0, 1) := by decide +kernel
theorem dX12_leastCompletions_8 : decode cX12_leastCompletions 8 = .ok (.iconst 1, 1) := by decide +kernel
theorem dX12_leastCompletions_9 : decode cX12_leastCompletions 9 = .ok (.invokevirtual 173, 3) := by decide +kernel
theorem dX12_leastCompletions_12 : decode cX12_leastCompletions 12 = .ok (.goto 4, 3) := by decide +kernel
theorem dX12_leastCompletions_15 : decode cX12_leastCompletions 15 = .ok (.iconst 0, 1) := by decide +kernel
theorem dX12_leastCompletions_16 : decode cX12_leastCompletions 16 = .ok (.ireturn, 1) := by decide +kernel
theorem dX12_leastTardiness_0 : decode cX12_leastTardiness 0 = .ok (.aload_n 0, 1) := by decide +kernel
theorem dX12_leastTardiness_1 : decode cX12_leastTardiness 1 = .ok (.invokevirtual 170, 3) := by decide +kernel
theorem dX12_leastTardiness_4 : decode cX12_leastTardiness 4 = .ok (.ifCond .eq 11, 3) := by decide +kernel
theorem dX12_leastTardiness_7 : decode cX12_leastTardiness 7 = .ok (.aload_n 0, 1) := by decide +kernel
theorem dX12_leastTardiness_8 : decode cX12_leastTardiness 8 = .ok (.iconst 2, 1) := by decide +kernel
theorem dX12_leastTardiness_9 : decode cX12_leastTardiness 9 = .ok (.invokevirtual 173, 3) := by decide +kernel
theorem dX12_leastTardiness_12 : decode cX12_leastTardiness 12 = .ok (.goto 4, 3) := by decide +kernel
theorem dX12_leastTardiness_15 : decode cX12_leastTardiness 15 = .ok (.iconst 0, 1) := by decide +kernel
theorem dX12_leastTardiness_16 : decode cX12_leastTardiness 16 = .ok (.ireturn, 1) := by decide +kernel
theorem dX12_leastWithSetups_0 : decode cX12_leastWithSetups 0 = .ok (.aload_n 0, 1) := by decide +kernel
theorem dX12_leastWithSetups_1 : decode cX12_leastWithSetups 1 = .ok (.invokevirtual 170, 3) := by decide +kernel
theorem dX12_leastWithSetups_4 : decode cX12_leastWithSetups 4 = .ok (.ifCond .ne 5, 3) := by decide +kernel
theorem dX12_leastWithSetups_7 : decode cX12_leastWithSetups 7 = .ok (.iconst 0, 1) := by decide +kernel
theorem dX12_leastWithSetups_8 : decode cX12_leastWithSetups 8 = .ok (.ireturn, 1) := by decide +kernel
theorem dX12_leastWithSetups_9 : decode cX12_leastWithSetups 9 = .ok (.aload_n 0, 1) := by decide +kernel
theorem dX12_leastWithSetups_10 : decode cX12_leastWithSetups 10 = .ok (.iconst 0, 1) := by decide +kernel
theorem dX12_leastWithSetups_11 : decode cX12_leastWithSetups 11 = .ok (.invokevirtual 158, 3) := by decide +kernel
theorem dX12_leastWithSetups_14 : decode cX12_leastWithSetups 14 = .ok (.aload_n 0, 1) := by decide +kernel
theorem dX12_leastWithSetups_15 : decode cX12_leastWithSetups 15 = .ok (.getfield 49, 3) := by decide +kernel
theorem dX12_leastWithSetups_18 : decode cX12_leastWithSetups 18 = .ok (.iconst 4, 1) := by decide +kernel
theorem dX12_leastWithSetups_19 : decode cX12_leastWithSetups 19 = .ok (.iaload, 1) := by decide +kernel
theorem dX12_leastWithSetups_20 : decode cX12_leastWithSetups 20 = .ok (.ireturn, 1) := by decide +kernel
theorem dX12_takes_0 : decode cX12_takes 0 = .ok (.aload_n 0, 1) := by decide +kernel
theorem dX12_takes_1 : decode cX12_takes 1 = .ok (.getfield 19, 3) := by decide +kernel
theorem dX12_takes_4 : decode cX12_takes 4 = .ok (.iload_n 1, 1) := by decide +kernel
theorem dX12_takes_5 : decode cX12_takes 5 = .ok (.iaload, 1) := by decide +kernel
theorem dX12_takes_6 : decode cX12_takes 6 = .ok (.istore_n 2, 1) := by decide +kernel
theorem dX12_takes_7 : decode cX12_takes 7 = .ok (.aload_n 0, 1) := by decide +kernel
theorem dX12_takes_8 : decode cX12_takes 8 = .ok (.getfield 7, 3) := by decide +kernel
theorem dX12_takes_11 : decode cX12_takes 11 = .ok (.iload_n 1, 1) := by decide +kernel
theorem dX12_takes_12 : decode cX12_takes 12 = .ok (.iaload, 1) := by decide +kernel
theorem dX12_takes_13 : decode cX12_takes 13 = .ok (.istore_n 3, 1) := by decide +kernel
theorem dX12_takes_14 : decode cX12_takes 14 = .ok (.iload_n 3, 1) := by decide +kernel
theorem dX12_takes_15 : decode cX12_takes 15 = .ok (.ifCond .le 33, 3) := by decide +kernel
theorem dX12_takes_18 : decode cX12_takes 18 = .ok (.iload_n 3, 1) := by decide +kernel
theorem dX12_takes_19 : decode cX12_takes 19 = .ok (.aload_n 0, 1) := by decide +kernel
theorem dX12_takes_20 : decode cX12_takes 20 = .ok (.getfield 55, 3) := by decide +kernel
theorem dX12_takes_23 : decode cX12_takes 23 = .ok (.iload_n 2, 1) := by decide +kernel
theorem dX12_takes_24 : decode cX12_takes 24 = .ok (.baload, 1) := by decide +kernel
theorem dX12_takes_25 : decode cX12_takes 25 = .ok (.ifCond .eq 7, 3) := by decide +kernel
theorem dX12_takes_28 : decode cX12_takes 28 = .ok (.iconst 0, 1) := by decide +kernel
theorem dX12_takes_29 : decode cX12_takes 29 = .ok (.goto 4, 3) := by decide +kernel
theorem dX12_takes_32 : decode cX12_takes 32 = .ok (.iconst 1, 1) := by decide +kernel
theorem dX12_takes_33 : decode cX12_takes 33 = .ok (.isub, 1) := by decide +kernel
theorem dX12_takes_34 : decode cX12_takes 34 = .ok (.istore_n 3, 1) := by decide +kernel
theorem dX12_takes_35 : decode cX12_takes 35 = .ok (.aload_n 0, 1) := by decide +kernel
theorem dX12_takes_36 : decode cX12_takes 36 = .ok (.getfield 55, 3) := by decide +kernel
theorem dX12_takes_39 : decode cX12_takes 39 = .ok (.iload_n 2, 1) := by decide +kernel
theorem dX12_takes_40 : decode cX12_takes 40 = .ok (.iconst 1, 1) := by decide +kernel
theorem dX12_takes_41 : decode cX12_takes 41 = .ok (.bastore, 1) := by decide +kernel
theorem dX12_takes_42 : decode cX12_takes 42 = .ok (.iinc 2 1, 3) := by decide +kernel
theorem dX12_takes_45 : decode cX12_takes 45 = .ok (.goto (-31), 3) := by decide +kernel
theorem dX12_takes_48 : decode cX12_takes 48 = .ok (.iload_n 2, 1) := by decide +kernel
theorem dX12_takes_49 : decode cX12_takes 49 = .ok (.ireturn, 1) := by decide +kernel
theorem dX12_worth_0 : decode cX12_worth 0 = .ok (.iconst 0, 1) := by decide +kernel
theorem dX12_worth_1 : decode cX12_worth 1 = .ok (.istore_n 2, 1) := by decide +kernel
theorem dX12_worth_2 : decode cX12_worth 2 = .ok (.iload_n 2, 1) := by decide +kernel
theorem dX12_worth_3 : decode cX12_worth 3 = .ok (.sipush 512, 3) := by decide +kernel
theorem dX12_worth_6 : decode cX12_worth 6 = .ok (.if_icmp .ge 16, 3) := by decide +kernel
theorem dX12_worth_9 : decode cX12_worth 9 = .ok (.aload_n 0, 1) := by decide +kernel
theorem dX12_worth_10 : decode cX12_worth 10 = .ok (.getfield 55, 3) := by decide +kernel
theorem dX12_worth_13 : decode cX12_worth 13 = .ok (.iload_n 2, 1) := by decide +kernel
theorem dX12_worth_14 : decode cX12_worth 14 = .ok (.iconst 0, 1) := by decide +kernel
theorem dX12_worth_15 : decode cX12_worth 15 = .ok (.bastore, 1) := by decide +kernel
theorem dX12_worth_16 : decode cX12_worth 16 = .ok (.iinc 2 1, 3) := by decide +kernel
theorem dX12_worth_19 : decode cX12_worth 19 = .ok (.goto (-17), 3) := by decide +kernel
theorem dX12_worth_22 : decode cX12_worth 22 = .ok (.ldc 111, 2) := by decide +kernel
theorem dX12_worth_24 : decode cX12_worth 24 = .ok (.istore_n 2, 1) := by decide +kernel
theorem dX12_worth_25 : decode cX12_worth 25 = .ok (.iconst 0, 1) := by decide +kernel
theorem dX12_worth_26 : decode cX12_worth 26 = .ok (.istore_n 3, 1) := by decide +kernel
theorem dX12_worth_27 : decode cX12_worth 27 = .ok (.iconst 0, 1) := by decide +kernel
theorem dX12_worth_28 : decode cX12_worth 28 = .ok (.istore 4, 2) := by decide +kernel
theorem dX12_worth_30 : decode cX12_worth 30 = .ok (.iload 4, 2) := by decide +kernel
theorem dX12_worth_32 : decode cX12_worth 32 = .ok (.aload_n 0, 1) := by decide +kernel
theorem dX12_worth_33 : decode cX12_worth 33 = .ok (.getfield 63, 3) := by decide +kernel
theorem dX12_worth_36 : decode cX12_worth 36 = .ok (.if_icmp .ge 66, 3) := by decide +kernel
theorem dX12_worth_39 : decode cX12_worth 39 = .ok (.aload_n 0, 1) := by decide +kernel
theorem dX12_worth_40 : decode cX12_worth 40 = .ok (.aload_n 0, 1) := by decide +kernel
theorem dX12_worth_41 : decode cX12_worth 41 = .ok (.getfield 40, 3) := by decide +kernel
theorem dX12_worth_44 : decode cX12_worth 44 = .ok (.iload 4, 2) := by decide +kernel
theorem dX12_worth_46 : decode cX12_worth 46 = .ok (.iaload, 1) := by decide +kernel
theorem dX12_worth_47 : decode cX12_worth 47 = .ok (.invokevirtual 176, 3) := by decide +kernel
theorem dX12_worth_50 : decode cX12_worth 50 = .ok (.istore 5, 2) := by decide +kernel
theorem dX12_worth_52 : decode cX12_worth 52 = .ok (.iload 5, 2) := by decide +kernel
theorem dX12_worth_54 : decode cX12_worth 54 = .ok (.aload_n 0, 1) := by decide +kernel
theorem dX12_worth_55 : decode cX12_worth 55 = .ok (.getfield 13, 3) := by decide +kernel
theorem dX12_worth_58 : decode cX12_worth 58 = .ok (.aload_n 0, 1) := by decide +kernel
theorem dX12_worth_59 : decode cX12_worth 59 = .ok (.getfield 40, 3) := by decide +kernel
theorem dX12_worth_62 : decode cX12_worth 62 = .ok (.iload 4, 2) := by decide +kernel
theorem dX12_worth_64 : decode cX12_worth 64 = .ok (.iaload, 1) := by decide +kernel
theorem dX12_worth_65 : decode cX12_worth 65 = .ok (.iaload, 1) := by decide +kernel
theorem dX12_worth_66 : decode cX12_worth 66 = .ok (.isub, 1) := by decide +kernel
theorem dX12_worth_67 : decode cX12_worth 67 = .ok (.iload_n 2, 1) := by decide +kernel
theorem dX12_worth_68 : decode cX12_worth 68 = .ok (.if_icmp .le 21, 3) := by decide +kernel
theorem dX12_worth_71 : decode cX12_worth 71 = .ok (.iload 5, 2) := by decide +kernel
theorem dX12_worth_73 : decode cX12_worth 73 = .ok (.aload_n 0, 1) := by decide +kernel
theorem dX12_worth_74 : decode cX12_worth 74 = .ok (.getfield 13, 3) := by decide +kernel
theorem dX12_worth_77 : decode cX12_worth 77 = .ok (.aload_n 0, 1) := by decide +kernel
theorem dX12_worth_78 : decode cX12_worth 78 = .ok (.getfield 40, 3) := by decide +kernel
theorem dX12_worth_81 : decode cX12_worth 81 = .ok (.iload 4, 2) := by decide +kernel
theorem dX12_worth_83 : decode cX12_worth 83 = .ok (.iaload, 1) := by decide +kernel
theorem dX12_worth_84 : decode cX12_worth 84 = .ok (.iaload, 1) := by decide +kernel
theorem dX12_worth_85 : decode cX12_worth 85 = .ok (.isub, 1) := by decide +kernel
theorem dX12_worth_86 : decode cX12_worth 86 = .ok (.goto 4, 3) := by decide +kernel
theorem dX12_worth_89 : decode cX12_worth 89 = .ok (.iload_n 2, 1) := by decide +kernel
theorem dX12_worth_90 : decode cX12_worth 90 = .ok (.istore_n 2, 1) := by decide +kernel
theorem dX12_worth_91 : decode cX12_worth 91 = .ok (.iload_n 3, 1) := by decide +kernel
theorem dX12_worth_92 : decode cX12_worth 92 = .ok (.iload 5, 2) := by decide +kernel
theorem dX12_worth_94 : decode cX12_worth 94 = .ok (.iadd, 1) := by decide +kernel
theorem dX12_worth_95 : decode cX12_worth 95 = .ok (.istore_n 3, 1) := by decide +kernel
theorem dX12_worth_96 : decode cX12_worth 96 = .ok (.iinc 4 1, 3) := by decide +kernel
theorem dX12_worth_99 : decode cX12_worth 99 = .ok (.goto (-69), 3) := by decide +kernel
theorem dX12_worth_102 : decode cX12_worth 102 = .ok (.iload_n 1, 1) := by decide +kernel
theorem dX12_worth_103 : decode cX12_worth 103 = .ok (.ifCond .ne 7, 3) := by decide +kernel
theorem dX12_worth_106 : decode cX12_worth 106 = .ok (.iload_n 2, 1) := by decide +kernel
theorem dX12_worth_107 : decode cX12_worth 107 = .ok (.goto 4, 3) := by decide +kernel
theorem dX12_worth_110 : decode cX12_worth 110 = .ok (.iload_n 3, 1) := by decide +kernel
theorem dX12_worth_111 : decode cX12_worth 111 = .ok (.ireturn, 1) := by decide +kernel
theorem dX12_leastOfPriorities_0 : decode cX12_leastOfPriorities 0 = .ok (.iconst 1, 1) := by decide +kernel
theorem dX12_leastOfPriorities_1 : decode cX12_leastOfPriorities 1 = .ok (.istore_n 2, 1) := by decide +kernel
theorem dX12_leastOfPriorities_2 : decode cX12_leastOfPriorities 2 = .ok (.iconst 2, 1) := by decide +kernel
theorem dX12_leastOfPriorities_3 : decode cX12_leastOfPriorities 3 = .ok (.istore_n 3, 1) := by decide +kernel
theorem dX12_leastOfPriorities_4 : decode cX12_leastOfPriorities 4 = .ok (.iload_n 3, 1) := by decide +kernel
theorem dX12_leastOfPriorities_5 : decode cX12_leastOfPriorities 5 = .ok (.aload_n 0, 1) := by decide +kernel
theorem dX12_leastOfPriorities_6 : decode cX12_leastOfPriorities 6 = .ok (.getfield 63, 3) := by decide +kernel
theorem dX12_leastOfPriorities_9 : decode cX12_leastOfPriorities 9 = .ok (.if_icmp .gt 13, 3) := by decide +kernel
theorem dX12_leastOfPriorities_12 : decode cX12_leastOfPriorities 12 = .ok (.iload_n 2, 1) := by decide +kernel
theorem dX12_leastOfPriorities_13 : decode cX12_leastOfPriorities 13 = .ok (.iload_n 3, 1) := by decide +kernel
theorem dX12_leastOfPriorities_14 : decode cX12_leastOfPriorities 14 = .ok (.imul, 1) := by decide +kernel
theorem dX12_leastOfPriorities_15 : decode cX12_leastOfPriorities 15 = .ok (.istore_n 2, 1) := by decide +kernel
theorem dX12_leastOfPriorities_16 : decode cX12_leastOfPriorities 16 = .ok (.iinc 3 1, 3) := by decide +kernel
theorem dX12_leastOfPriorities_19 : decode cX12_leastOfPriorities 19 = .ok (.goto (-15), 3) := by decide +kernel
theorem dX12_leastOfPriorities_22 : decode cX12_leastOfPriorities 22 = .ok (.ldc 110, 2) := by decide +kernel
theorem dX12_leastOfPriorities_24 : decode cX12_leastOfPriorities 24 = .ok (.istore_n 3, 1) := by decide +kernel
theorem dX12_leastOfPriorities_25 : decode cX12_leastOfPriorities 25 = .ok (.iconst 0, 1) := by decide +kernel
theorem dX12_leastOfPriorities_26 : decode cX12_leastOfPriorities 26 = .ok (.istore 4, 2) := by decide +kernel
theorem dX12_leastOfPriorities_28 : decode cX12_leastOfPriorities 28 = .ok (.iload 4, 2) := by decide +kernel
theorem dX12_leastOfPriorities_30 : decode cX12_leastOfPriorities 30 = .ok (.iload_n 2, 1) := by decide +kernel
theorem dX12_leastOfPriorities_31 : decode cX12_leastOfPriorities 31 = .ok (.if_icmp .ge 142, 3) := by decide +kernel
theorem dX12_leastOfPriorities_34 : decode cX12_leastOfPriorities 34 = .ok (.iload 4, 2) := by decide +kernel
theorem dX12_leastOfPriorities_36 : decode cX12_leastOfPriorities 36 = .ok (.istore 5, 2) := by decide +kernel
theorem dX12_leastOfPriorities_38 : decode cX12_leastOfPriorities 38 = .ok (.iconst 0, 1) := by decide +kernel
theorem dX12_leastOfPriorities_39 : decode cX12_leastOfPriorities 39 = .ok (.istore 6, 2) := by decide +kernel
theorem dX12_leastOfPriorities_41 : decode cX12_leastOfPriorities 41 = .ok (.iconst 0, 1) := by decide +kernel
theorem dX12_leastOfPriorities_42 : decode cX12_leastOfPriorities 42 = .ok (.istore 7, 2) := by decide +kernel
theorem dX12_leastOfPriorities_44 : decode cX12_leastOfPriorities 44 = .ok (.iload 7, 2) := by decide +kernel
theorem dX12_leastOfPriorities_46 : decode cX12_leastOfPriorities 46 = .ok (.aload_n 0, 1) := by decide +kernel
theorem dX12_leastOfPriorities_47 : decode cX12_leastOfPriorities 47 = .ok (.getfield 63, 3) := by decide +kernel
theorem dX12_leastOfPriorities_50 : decode cX12_leastOfPriorities 50 = .ok (.if_icmp .ge 97, 3) := by decide +kernel
theorem dX12_leastOfPriorities_53 : decode cX12_leastOfPriorities 53 = .ok (.iload 5, 2) := by decide +kernel
theorem dX12_leastOfPriorities_55 : decode cX12_leastOfPriorities 55 = .ok (.aload_n 0, 1) := by decide +kernel
theorem dX12_leastOfPriorities_56 : decode cX12_leastOfPriorities 56 = .ok (.getfield 63, 3) := by decide +kernel
theorem dX12_leastOfPriorities_59 : decode cX12_leastOfPriorities 59 = .ok (.iload 7, 2) := by decide +kernel
theorem dX12_leastOfPriorities_61 : decode cX12_leastOfPriorities 61 = .ok (.isub, 1) := by decide +kernel
theorem dX12_leastOfPriorities_62 : decode cX12_leastOfPriorities 62 = .ok (.irem, 1) := by decide +kernel
theorem dX12_leastOfPriorities_63 : decode cX12_leastOfPriorities 63 = .ok (.istore 8, 2) := by decide +kernel
theorem dX12_leastOfPriorities_65 : decode cX12_leastOfPriorities 65 = .ok (.iload 5, 2) := by decide +kernel
theorem dX12_leastOfPriorities_67 : decode cX12_leastOfPriorities 67 = .ok (.aload_n 0, 1) := by decide +kernel
theorem dX12_leastOfPriorities_68 : decode cX12_leastOfPriorities 68 = .ok (.getfield 63, 3) := by decide +kernel
theorem dX12_leastOfPriorities_71 : decode cX12_leastOfPriorities 71 = .ok (.iload 7, 2) := by decide +kernel
theorem dX12_leastOfPriorities_73 : decode cX12_leastOfPriorities 73 = .ok (.isub, 1) := by decide +kernel
theorem dX12_leastOfPriorities_74 : decode cX12_leastOfPriorities 74 = .ok (.idiv, 1) := by decide +kernel
theorem dX12_leastOfPriorities_75 : decode cX12_leastOfPriorities 75 = .ok (.istore 5, 2) := by decide +kernel
theorem dX12_leastOfPriorities_77 : decode cX12_leastOfPriorities 77 = .ok (.iconst 0, 1) := by decide +kernel
theorem dX12_leastOfPriorities_78 : decode cX12_leastOfPriorities 78 = .ok (.istore 9, 2) := by decide +kernel
theorem dX12_leastOfPriorities_80 : decode cX12_leastOfPriorities 80 = .ok (.iload 6, 2) := by decide +kernel
theorem dX12_leastOfPriorities_82 : decode cX12_leastOfPriorities 82 = .ok (.iload 9, 2) := by decide +kernel
theorem dX12_leastOfPriorities_84 : decode cX12_leastOfPriorities 84 = .ok (.ishr, 1) := by decide +kernel
theorem dX12_leastOfPriorities_85 : decode cX12_leastOfPriorities 85 = .ok (.iconst 1, 1) := by decide +kernel
theorem dX12_leastOfPriorities_86 : decode cX12_leastOfPriorities 86 = .ok (.iand, 1) := by decide +kernel
theorem dX12_leastOfPriorities_87 : decode cX12_leastOfPriorities 87 = .ok (.iconst 1, 1) := by decide +kernel
theorem dX12_leastOfPriorities_88 : decode cX12_leastOfPriorities 88 = .ok (.if_icmp .eq 8, 3) := by decide +kernel
theorem dX12_leastOfPriorities_91 : decode cX12_leastOfPriorities 91 = .ok (.iload 8, 2) := by decide +kernel
theorem dX12_leastOfPriorities_93 : decode cX12_leastOfPriorities 93 = .ok (.ifCond .le 30, 3) := by decide +kernel
theorem dX12_leastOfPriorities_96 : decode cX12_leastOfPriorities 96 = .ok (.iload 8, 2) := by decide +kernel
theorem dX12_leastOfPriorities_98 : decode cX12_leastOfPriorities 98 = .ok (.iload 6, 2) := by decide +kernel
theorem dX12_leastOfPriorities_100 : decode cX12_leastOfPriorities 100 = .ok (.iload 9, 2) := by decide +kernel
theorem dX12_leastOfPriorities_102 : decode cX12_leastOfPriorities 102 = .ok (.ishr, 1) := by decide +kernel
theorem dX12_leastOfPriorities_103 : decode cX12_leastOfPriorities 103 = .ok (.iconst 1, 1) := by decide +kernel
theorem dX12_leastOfPriorities_104 : decode cX12_leastOfPriorities 104 = .ok (.iand, 1) := by decide +kernel
theorem dX12_leastOfPriorities_105 : decode cX12_leastOfPriorities 105 = .ok (.iconst 1, 1) := by decide +kernel
theorem dX12_leastOfPriorities_106 : decode cX12_leastOfPriorities 106 = .ok (.if_icmp .ne 7, 3) := by decide +kernel
theorem dX12_leastOfPriorities_109 : decode cX12_leastOfPriorities 109 = .ok (.iconst 0, 1) := by decide +kernel
theorem dX12_leastOfPriorities_110 : decode cX12_leastOfPriorities 110 = .ok (.goto 4, 3) := by decide +kernel
theorem dX12_leastOfPriorities_113 : decode cX12_leastOfPriorities 113 = .ok (.iconst 1, 1) := by decide +kernel
theorem dX12_leastOfPriorities_114 : decode cX12_leastOfPriorities 114 = .ok (.isub, 1) := by decide +kernel
theorem dX12_leastOfPriorities_115 : decode cX12_leastOfPriorities 115 = .ok (.istore 8, 2) := by decide +kernel
theorem dX12_leastOfPriorities_117 : decode cX12_leastOfPriorities 117 = .ok (.iinc 9 1, 3) := by decide +kernel
theorem dX12_leastOfPriorities_120 : decode cX12_leastOfPriorities 120 = .ok (.goto (-40), 3) := by decide +kernel
theorem dX12_leastOfPriorities_123 : decode cX12_leastOfPriorities 123 = .ok (.aload_n 0, 1) := by decide +kernel
theorem dX12_leastOfPriorities_124 : decode cX12_leastOfPriorities 124 = .ok (.getfield 40, 3) := by decide +kernel
theorem dX12_leastOfPriorities_127 : decode cX12_leastOfPriorities 127 = .ok (.iload 7, 2) := by decide +kernel
theorem dX12_leastOfPriorities_129 : decode cX12_leastOfPriorities 129 = .ok (.iload 9, 2) := by decide +kernel
theorem dX12_leastOfPriorities_131 : decode cX12_leastOfPriorities 131 = .ok (.iastore, 1) := by decide +kernel
theorem dX12_leastOfPriorities_132 : decode cX12_leastOfPriorities 132 = .ok (.iload 6, 2) := by decide +kernel
theorem dX12_leastOfPriorities_134 : decode cX12_leastOfPriorities 134 = .ok (.iconst 1, 1) := by decide +kernel
theorem dX12_leastOfPriorities_135 : decode cX12_leastOfPriorities 135 = .ok (.iload 9, 2) := by decide +kernel
theorem dX12_leastOfPriorities_137 : decode cX12_leastOfPriorities 137 = .ok (.ishl, 1) := by decide +kernel
theorem dX12_leastOfPriorities_138 : decode cX12_leastOfPriorities 138 = .ok (.ior, 1) := by decide +kernel
theorem dX12_leastOfPriorities_139 : decode cX12_leastOfPriorities 139 = .ok (.istore 6, 2) := by decide +kernel
theorem dX12_leastOfPriorities_141 : decode cX12_leastOfPriorities 141 = .ok (.iinc 7 1, 3) := by decide +kernel
theorem dX12_leastOfPriorities_144 : decode cX12_leastOfPriorities 144 = .ok (.goto (-100), 3) := by decide +kernel
theorem dX12_leastOfPriorities_147 : decode cX12_leastOfPriorities 147 = .ok (.aload_n 0, 1) := by decide +kernel
theorem dX12_leastOfPriorities_148 : decode cX12_leastOfPriorities 148 = .ok (.iload_n 1, 1) := by decide +kernel
theorem dX12_leastOfPriorities_149 : decode cX12_leastOfPriorities 149 = .ok (.invokevirtual 179, 3) := by decide +kernel
theorem dX12_leastOfPriorities_152 : decode cX12_leastOfPriorities 152 = .ok (.istore 7, 2) := by decide +kernel
theorem dX12_leastOfPriorities_154 : decode cX12_leastOfPriorities 154 = .ok (.iload 7, 2) := by decide +kernel
theorem dX12_leastOfPriorities_156 : decode cX12_leastOfPriorities 156 = .ok (.iload_n 3, 1) := by decide +kernel
theorem dX12_leastOfPriorities_157 : decode cX12_leastOfPriorities 157 = .ok (.if_icmp .ge 8, 3) := by decide +kernel
theorem dX12_leastOfPriorities_160 : decode cX12_leastOfPriorities 160 = .ok (.iload 7, 2) := by decide +kernel
theorem dX12_leastOfPriorities_162 : decode cX12_leastOfPriorities 162 = .ok (.goto 4, 3) := by decide +kernel
theorem dX12_leastOfPriorities_165 : decode cX12_leastOfPriorities 165 = .ok (.iload_n 3, 1) := by decide +kernel
theorem dX12_leastOfPriorities_166 : decode cX12_leastOfPriorities 166 = .ok (.istore_n 3, 1) := by decide +kernel
theorem dX12_leastOfPriorities_167 : decode cX12_leastOfPriorities 167 = .ok (.iinc 4 1, 3) := by decide +kernel
theorem dX12_leastOfPriorities_170 : decode cX12_leastOfPriorities 170 = .ok (.goto (-142), 3) := by decide +kernel
theorem dX12_leastOfPriorities_173 : decode cX12_leastOfPriorities 173 = .ok (.iload_n 3, 1) := by decide +kernel
theorem dX12_leastOfPriorities_174 : decode cX12_leastOfPriorities 174 = .ok (.ireturn, 1) := by decide +kernel
theorem dX12_leastPreemptiveLateness_0 : decode cX12_leastPreemptiveLateness 0 = .ok (.aload_n 0, 1) := by decide +kernel
theorem dX12_leastPreemptiveLateness_1 : decode cX12_leastPreemptiveLateness 1 = .ok (.invokevirtual 170, 3) := by decide +kernel
theorem dX12_leastPreemptiveLateness_4 : decode cX12_leastPreemptiveLateness 4 = .ok (.ifCond .eq 11, 3) := by decide +kernel
theorem dX12_leastPreemptiveLateness_7 : decode cX12_leastPreemptiveLateness 7 = .ok (.aload_n 0, 1) := by decide +kernel
theorem dX12_leastPreemptiveLateness_8 : decode cX12_leastPreemptiveLateness 8 = .ok (.iconst 0, 1) := by decide +kernel
theorem dX12_leastPreemptiveLateness_9 : decode cX12_leastPreemptiveLateness 9 = .ok (.invokevirtual 182, 3) := by decide +kernel
theorem dX12_leastPreemptiveLateness_12 : decode cX12_leastPreemptiveLateness 12 = .ok (.goto 4, 3) := by decide +kernel
theorem dX12_leastPreemptiveLateness_15 : decode cX12_leastPreemptiveLateness 15 = .ok (.iconst 0, 1) := by decide +kernel
theorem dX12_leastPreemptiveLateness_16 : decode cX12_leastPreemptiveLateness 16 = .ok (.ireturn, 1) := by decide +kernel
theorem dX12_leastPreemptiveCompletions_0 : decode cX12_leastPreemptiveCompletions 0 = .ok (.aload_n 0, 1) := by decide +kernel
theorem dX12_leastPreemptiveCompletions_1 : decode cX12_leastPreemptiveCompletions 1 = .ok (.invokevirtual 170, 3) := by decide +kernel
theorem dX12_leastPreemptiveCompletions_4 : decode cX12_leastPreemptiveCompletions 4 = .ok (.ifCond .eq 11, 3) := by decide +kernel
theorem dX12_leastPreemptiveCompletions_7 : decode cX12_leastPreemptiveCompletions 7 = .ok (.aload_n 0, 1) := by decide +kernel
theorem dX12_leastPreemptiveCompletions_8 : decode cX12_leastPreemptiveCompletions 8 = .ok (.iconst 1, 1) := by decide +kernel
theorem dX12_leastPreemptiveCompletions_9 : decode cX12_leastPreemptiveCompletions 9 = .ok (.invokevirtual 182, 3) := by decide +kernel
theorem dX12_leastPreemptiveCompletions_12 : decode cX12_leastPreemptiveCompletions 12 = .ok (.goto 4, 3) := by decide +kernel
theorem dX12_leastPreemptiveCompletions_15 : decode cX12_leastPreemptiveCompletions 15 = .ok (.iconst 0, 1) := by decide +kernel
theorem dX12_leastPreemptiveCompletions_16 : decode cX12_leastPreemptiveCompletions 16 = .ok (.ireturn, 1) := by decide +kernel
theorem dX12_canBeOnTime_0 : decode cX12_canBeOnTime 0 = .ok (.aload_n 0, 1) := by decide +kernel
theorem dX12_canBeOnTime_1 : decode cX12_canBeOnTime 1 = .ok (.iload_n 1, 1) := by decide +kernel
theorem dX12_canBeOnTime_2 : decode cX12_canBeOnTime 2 = .ok (.ifCond .lt 16, 3) := by decide +kernel
theorem dX12_canBeOnTime_5 : decode cX12_canBeOnTime 5 = .ok (.iload_n 1, 1) := by decide +kernel
theorem dX12_canBeOnTime_6 : decode cX12_canBeOnTime 6 = .ok (.aload_n 0, 1) := by decide +kernel
theorem dX12_canBeOnTime_7 : decode cX12_canBeOnTime 7 = .ok (.getfield 63, 3) := by decide +kernel
theorem dX12_canBeOnTime_10 : decode cX12_canBeOnTime 10 = .ok (.ishr, 1) := by decide +kernel
theorem dX12_canBeOnTime_11 : decode cX12_canBeOnTime 11 = .ok (.ifCond .ne 7, 3) := by decide +kernel
theorem dX12_canBeOnTime_14 : decode cX12_canBeOnTime 14 = .ok (.iconst 0, 1) := by decide +kernel
theorem dX12_canBeOnTime_15 : decode cX12_canBeOnTime 15 = .ok (.goto 4, 3) := by decide +kernel
theorem dX12_canBeOnTime_18 : decode cX12_canBeOnTime 18 = .ok (.iconst 1, 1) := by decide +kernel
theorem dX12_canBeOnTime_19 : decode cX12_canBeOnTime 19 = .ok (.invokevirtual 84, 3) := by decide +kernel
theorem dX12_canBeOnTime_22 : decode cX12_canBeOnTime 22 = .ok (.ifCond .ne 5, 3) := by decide +kernel
theorem dX12_canBeOnTime_25 : decode cX12_canBeOnTime 25 = .ok (.iconst 0, 1) := by decide +kernel
theorem dX12_canBeOnTime_26 : decode cX12_canBeOnTime 26 = .ok (.ireturn, 1) := by decide +kernel
theorem dX12_canBeOnTime_27 : decode cX12_canBeOnTime 27 = .ok (.iconst 1, 1) := by decide +kernel
theorem dX12_canBeOnTime_28 : decode cX12_canBeOnTime 28 = .ok (.istore_n 2, 1) := by decide +kernel
theorem dX12_canBeOnTime_29 : decode cX12_canBeOnTime 29 = .ok (.iconst 0, 1) := by decide +kernel
theorem dX12_canBeOnTime_30 : decode cX12_canBeOnTime 30 = .ok (.istore_n 3, 1) := by decide +kernel
theorem dX12_canBeOnTime_31 : decode cX12_canBeOnTime 31 = .ok (.iload_n 3, 1) := by decide +kernel
theorem dX12_canBeOnTime_32 : decode cX12_canBeOnTime 32 = .ok (.aload_n 0, 1) := by decide +kernel
theorem dX12_canBeOnTime_33 : decode cX12_canBeOnTime 33 = .ok (.getfield 63, 3) := by decide +kernel
theorem dX12_canBeOnTime_36 : decode cX12_canBeOnTime 36 = .ok (.if_icmp .ge 106, 3) := by decide +kernel
theorem dX12_canBeOnTime_39 : decode cX12_canBeOnTime 39 = .ok (.aload_n 0, 1) := by decide +kernel
theorem dX12_canBeOnTime_40 : decode cX12_canBeOnTime 40 = .ok (.getfield 7, 3) := by decide +kernel
theorem dX12_canBeOnTime_43 : decode cX12_canBeOnTime 43 = .ok (.iload_n 3, 1) := by decide +kernel
theorem dX12_canBeOnTime_44 : decode cX12_canBeOnTime 44 = .ok (.iaload, 1) := by decide +kernel
theorem dX12_canBeOnTime_45 : decode cX12_canBeOnTime 45 = .ok (.istore 4, 2) := by decide +kernel
theorem dX12_canBeOnTime_47 : decode cX12_canBeOnTime 47 = .ok (.iconst 0, 1) := by decide +kernel
theorem dX12_canBeOnTime_48 : decode cX12_canBeOnTime 48 = .ok (.istore 5, 2) := by decide +kernel
theorem dX12_canBeOnTime_50 : decode cX12_canBeOnTime 50 = .ok (.iload 5, 2) := by decide +kernel
theorem dX12_canBeOnTime_52 : decode cX12_canBeOnTime 52 = .ok (.aload_n 0, 1) := by decide +kernel
theorem dX12_canBeOnTime_53 : decode cX12_canBeOnTime 53 = .ok (.getfield 63, 3) := by decide +kernel
theorem dX12_canBeOnTime_56 : decode cX12_canBeOnTime 56 = .ok (.if_icmp .ge 51, 3) := by decide +kernel
theorem dX12_canBeOnTime_59 : decode cX12_canBeOnTime 59 = .ok (.iload 4, 2) := by decide +kernel
theorem dX12_canBeOnTime_61 : decode cX12_canBeOnTime 61 = .ok (.iload_n 1, 1) := by decide +kernel
theorem dX12_canBeOnTime_62 : decode cX12_canBeOnTime 62 = .ok (.iload 5, 2) := by decide +kernel
theorem dX12_canBeOnTime_64 : decode cX12_canBeOnTime 64 = .ok (.ishr, 1) := by decide +kernel
theorem dX12_canBeOnTime_65 : decode cX12_canBeOnTime 65 = .ok (.iconst 1, 1) := by decide +kernel
theorem dX12_canBeOnTime_66 : decode cX12_canBeOnTime 66 = .ok (.iand, 1) := by decide +kernel
theorem dX12_canBeOnTime_67 : decode cX12_canBeOnTime 67 = .ok (.iconst 1, 1) := by decide +kernel
theorem dX12_canBeOnTime_68 : decode cX12_canBeOnTime 68 = .ok (.if_icmp .ne 29, 3) := by decide +kernel
theorem dX12_canBeOnTime_71 : decode cX12_canBeOnTime 71 = .ok (.iload 5, 2) := by decide +kernel
theorem dX12_canBeOnTime_73 : decode cX12_canBeOnTime 73 = .ok (.iload_n 3, 1) := by decide +kernel
theorem dX12_canBeOnTime_74 : decode cX12_canBeOnTime 74 = .ok (.if_icmp .eq 23, 3) := by decide +kernel
theorem dX12_canBeOnTime_77 : decode cX12_canBeOnTime 77 = .ok (.aload_n 0, 1) := by decide +kernel
theorem dX12_canBeOnTime_78 : decode cX12_canBeOnTime 78 = .ok (.iload 5, 2) := by decide +kernel
theorem dX12_canBeOnTime_80 : decode cX12_canBeOnTime 80 = .ok (.iload_n 3, 1) := by decide +kernel
theorem dX12_canBeOnTime_81 : decode cX12_canBeOnTime 81 = .ok (.invokevirtual 95, 3) := by decide +kernel
theorem dX12_canBeOnTime_84 : decode cX12_canBeOnTime 84 = .ok (.ifCond .eq 13, 3) := by decide +kernel
theorem dX12_canBeOnTime_87 : decode cX12_canBeOnTime 87 = .ok (.aload_n 0, 1) := by decide +kernel
theorem dX12_canBeOnTime_88 : decode cX12_canBeOnTime 88 = .ok (.getfield 7, 3) := by decide +kernel
theorem dX12_canBeOnTime_91 : decode cX12_canBeOnTime 91 = .ok (.iload 5, 2) := by decide +kernel
theorem dX12_canBeOnTime_93 : decode cX12_canBeOnTime 93 = .ok (.iaload, 1) := by decide +kernel
theorem dX12_canBeOnTime_94 : decode cX12_canBeOnTime 94 = .ok (.goto 4, 3) := by decide +kernel
theorem dX12_canBeOnTime_97 : decode cX12_canBeOnTime 97 = .ok (.iconst 0, 1) := by decide +kernel
theorem dX12_canBeOnTime_98 : decode cX12_canBeOnTime 98 = .ok (.iadd, 1) := by decide +kernel
theorem dX12_canBeOnTime_99 : decode cX12_canBeOnTime 99 = .ok (.istore 4, 2) := by decide +kernel
theorem dX12_canBeOnTime_101 : decode cX12_canBeOnTime 101 = .ok (.iinc 5 1, 3) := by decide +kernel
theorem dX12_canBeOnTime_104 : decode cX12_canBeOnTime 104 = .ok (.goto (-54), 3) := by decide +kernel
theorem dX12_canBeOnTime_107 : decode cX12_canBeOnTime 107 = .ok (.iload_n 2, 1) := by decide +kernel
theorem dX12_canBeOnTime_108 : decode cX12_canBeOnTime 108 = .ok (.ifCond .eq 26, 3) := by decide +kernel
theorem dX12_canBeOnTime_111 : decode cX12_canBeOnTime 111 = .ok (.iload_n 1, 1) := by decide +kernel
theorem dX12_canBeOnTime_112 : decode cX12_canBeOnTime 112 = .ok (.iload_n 3, 1) := by decide +kernel
theorem dX12_canBeOnTime_113 : decode cX12_canBeOnTime 113 = .ok (.ishr, 1) := by decide +kernel
theorem dX12_canBeOnTime_114 : decode cX12_canBeOnTime 114 = .ok (.iconst 1, 1) := by decide +kernel
theorem dX12_canBeOnTime_115 : decode cX12_canBeOnTime 115 = .ok (.iand, 1) := by decide +kernel
theorem dX12_canBeOnTime_116 : decode cX12_canBeOnTime 116 = .ok (.ifCond .eq 14, 3) := by decide +kernel
theorem dX12_canBeOnTime_119 : decode cX12_canBeOnTime 119 = .ok (.iload 4, 2) := by decide +kernel
theorem dX12_canBeOnTime_121 : decode cX12_canBeOnTime 121 = .ok (.aload_n 0, 1) := by decide +kernel
theorem dX12_canBeOnTime_122 : decode cX12_canBeOnTime 122 = .ok (.getfield 13, 3) := by decide +kernel
theorem dX12_canBeOnTime_125 : decode cX12_canBeOnTime 125 = .ok (.iload_n 3, 1) := by decide +kernel
theorem dX12_canBeOnTime_126 : decode cX12_canBeOnTime 126 = .ok (.iaload, 1) := by decide +kernel
theorem dX12_canBeOnTime_127 : decode cX12_canBeOnTime 127 = .ok (.if_icmp .gt 7, 3) := by decide +kernel
theorem dX12_canBeOnTime_130 : decode cX12_canBeOnTime 130 = .ok (.iconst 1, 1) := by decide +kernel
theorem dX12_canBeOnTime_131 : decode cX12_canBeOnTime 131 = .ok (.goto 4, 3) := by decide +kernel
theorem dX12_canBeOnTime_134 : decode cX12_canBeOnTime 134 = .ok (.iconst 0, 1) := by decide +kernel
theorem dX12_canBeOnTime_135 : decode cX12_canBeOnTime 135 = .ok (.istore_n 2, 1) := by decide +kernel
theorem dX12_canBeOnTime_136 : decode cX12_canBeOnTime 136 = .ok (.iinc 3 1, 3) := by decide +kernel
theorem dX12_canBeOnTime_139 : decode cX12_canBeOnTime 139 = .ok (.goto (-108), 3) := by decide +kernel
theorem dX12_canBeOnTime_142 : decode cX12_canBeOnTime 142 = .ok (.iload_n 2, 1) := by decide +kernel
theorem dX12_canBeOnTime_143 : decode cX12_canBeOnTime 143 = .ok (.ireturn, 1) := by decide +kernel
theorem dX12_fewestLateBySets_0 : decode cX12_fewestLateBySets 0 = .ok (.aload_n 0, 1) := by decide +kernel
theorem dX12_fewestLateBySets_1 : decode cX12_fewestLateBySets 1 = .ok (.iconst 0, 1) := by decide +kernel
theorem dX12_fewestLateBySets_2 : decode cX12_fewestLateBySets 2 = .ok (.putfield 59, 3) := by decide +kernel
theorem dX12_fewestLateBySets_5 : decode cX12_fewestLateBySets 5 = .ok (.aload_n 0, 1) := by decide +kernel
theorem dX12_fewestLateBySets_6 : decode cX12_fewestLateBySets 6 = .ok (.iconst 1, 1) := by decide +kernel
theorem dX12_fewestLateBySets_7 : decode cX12_fewestLateBySets 7 = .ok (.invokevirtual 141, 3) := by decide +kernel
theorem dX12_fewestLateBySets_10 : decode cX12_fewestLateBySets 10 = .ok (.iconst 0, 1) := by decide +kernel
theorem dX12_fewestLateBySets_11 : decode cX12_fewestLateBySets 11 = .ok (.istore_n 1, 1) := by decide +kernel
theorem dX12_fewestLateBySets_12 : decode cX12_fewestLateBySets 12 = .ok (.iload_n 1, 1) := by decide +kernel
theorem dX12_fewestLateBySets_13 : decode cX12_fewestLateBySets 13 = .ok (.aload_n 0, 1) := by decide +kernel
theorem dX12_fewestLateBySets_14 : decode cX12_fewestLateBySets 14 = .ok (.getfield 63, 3) := by decide +kernel
theorem dX12_fewestLateBySets_17 : decode cX12_fewestLateBySets 17 = .ok (.if_icmp .gt 25, 3) := by decide +kernel
theorem dX12_fewestLateBySets_20 : decode cX12_fewestLateBySets 20 = .ok (.aload_n 0, 1) := by decide +kernel
theorem dX12_fewestLateBySets_21 : decode cX12_fewestLateBySets 21 = .ok (.getfield 52, 3) := by decide +kernel
theorem dX12_fewestLateBySets_24 : decode cX12_fewestLateBySets 24 = .ok (.iload_n 1, 1) := by decide +kernel
theorem dX12_fewestLateBySets_25 : decode cX12_fewestLateBySets 25 = .ok (.iload_n 1, 1) := by decide +kernel
theorem dX12_fewestLateBySets_26 : decode cX12_fewestLateBySets 26 = .ok (.ifCond .ne 7, 3) := by decide +kernel
theorem dX12_fewestLateBySets_29 : decode cX12_fewestLateBySets 29 = .ok (.iconst 0, 1) := by decide +kernel
theorem dX12_fewestLateBySets_30 : decode cX12_fewestLateBySets 30 = .ok (.goto 5, 3) := by decide +kernel
theorem dX12_fewestLateBySets_33 : decode cX12_fewestLateBySets 33 = .ok (.ldc 110, 2) := by decide +kernel
theorem dX12_fewestLateBySets_35 : decode cX12_fewestLateBySets 35 = .ok (.iastore, 1) := by decide +kernel
theorem dX12_fewestLateBySets_36 : decode cX12_fewestLateBySets 36 = .ok (.iinc 1 1, 3) := by decide +kernel
theorem dX12_fewestLateBySets_39 : decode cX12_fewestLateBySets 39 = .ok (.goto (-27), 3) := by decide +kernel
theorem dX12_fewestLateBySets_42 : decode cX12_fewestLateBySets 42 = .ok (.iconst 0, 1) := by decide +kernel
theorem dX12_fewestLateBySets_43 : decode cX12_fewestLateBySets 43 = .ok (.istore_n 1, 1) := by decide +kernel
theorem dX12_fewestLateBySets_44 : decode cX12_fewestLateBySets 44 = .ok (.iload_n 1, 1) := by decide +kernel
theorem dX12_fewestLateBySets_45 : decode cX12_fewestLateBySets 45 = .ok (.aload_n 0, 1) := by decide +kernel
theorem dX12_fewestLateBySets_46 : decode cX12_fewestLateBySets 46 = .ok (.getfield 63, 3) := by decide +kernel
theorem dX12_fewestLateBySets_49 : decode cX12_fewestLateBySets 49 = .ok (.if_icmp .ge 87, 3) := by decide +kernel
theorem dX12_fewestLateBySets_52 : decode cX12_fewestLateBySets 52 = .ok (.aload_n 0, 1) := by decide +kernel
theorem dX12_fewestLateBySets_53 : decode cX12_fewestLateBySets 53 = .ok (.getfield 40, 3) := by decide +kernel
theorem dX12_fewestLateBySets_56 : decode cX12_fewestLateBySets 56 = .ok (.iload_n 1, 1) := by decide +kernel
theorem dX12_fewestLateBySets_57 : decode cX12_fewestLateBySets 57 = .ok (.iaload, 1) := by decide +kernel
theorem dX12_fewestLateBySets_58 : decode cX12_fewestLateBySets 58 = .ok (.istore_n 2, 1) := by decide +kernel
theorem dX12_fewestLateBySets_59 : decode cX12_fewestLateBySets 59 = .ok (.aload_n 0, 1) := by decide +kernel
theorem dX12_fewestLateBySets_60 : decode cX12_fewestLateBySets 60 = .ok (.getfield 63, 3) := by decide +kernel
theorem dX12_fewestLateBySets_63 : decode cX12_fewestLateBySets 63 = .ok (.istore_n 3, 1) := by decide +kernel
theorem dX12_fewestLateBySets_64 : decode cX12_fewestLateBySets 64 = .ok (.iload_n 3, 1) := by decide +kernel
theorem dX12_fewestLateBySets_65 : decode cX12_fewestLateBySets 65 = .ok (.ifCond .le 65, 3) := by decide +kernel
theorem dX12_fewestLateBySets_68 : decode cX12_fewestLateBySets 68 = .ok (.aload_n 0, 1) := by decide +kernel
theorem dX12_fewestLateBySets_69 : decode cX12_fewestLateBySets 69 = .ok (.getfield 52, 3) := by decide +kernel
theorem dX12_fewestLateBySets_72 : decode cX12_fewestLateBySets 72 = .ok (.iload_n 3, 1) := by decide +kernel
theorem dX12_fewestLateBySets_73 : decode cX12_fewestLateBySets 73 = .ok (.iconst 1, 1) := by decide +kernel
theorem dX12_fewestLateBySets_74 : decode cX12_fewestLateBySets 74 = .ok (.isub, 1) := by decide +kernel
theorem dX12_fewestLateBySets_75 : decode cX12_fewestLateBySets 75 = .ok (.iaload, 1) := by decide +kernel
theorem dX12_fewestLateBySets_76 : decode cX12_fewestLateBySets 76 = .ok (.aload_n 0, 1) := by decide +kernel
theorem dX12_fewestLateBySets_77 : decode cX12_fewestLateBySets 77 = .ok (.getfield 7, 3) := by decide +kernel
theorem dX12_fewestLateBySets_80 : decode cX12_fewestLateBySets 80 = .ok (.iload_n 2, 1) := by decide +kernel
theorem dX12_fewestLateBySets_81 : decode cX12_fewestLateBySets 81 = .ok (.iaload, 1) := by decide +kernel
theorem dX12_fewestLateBySets_82 : decode cX12_fewestLateBySets 82 = .ok (.iadd, 1) := by decide +kernel
theorem dX12_fewestLateBySets_83 : decode cX12_fewestLateBySets 83 = .ok (.istore 4, 2) := by decide +kernel
theorem dX12_fewestLateBySets_85 : decode cX12_fewestLateBySets 85 = .ok (.aload_n 0, 1) := by decide +kernel
theorem dX12_fewestLateBySets_86 : decode cX12_fewestLateBySets 86 = .ok (.getfield 52, 3) := by decide +kernel
theorem dX12_fewestLateBySets_89 : decode cX12_fewestLateBySets 89 = .ok (.iload_n 3, 1) := by decide +kernel
theorem dX12_fewestLateBySets_90 : decode cX12_fewestLateBySets 90 = .ok (.iload 4, 2) := by decide +kernel
theorem dX12_fewestLateBySets_92 : decode cX12_fewestLateBySets 92 = .ok (.aload_n 0, 1) := by decide +kernel
theorem dX12_fewestLateBySets_93 : decode cX12_fewestLateBySets 93 = .ok (.getfield 13, 3) := by decide +kernel
theorem dX12_fewestLateBySets_96 : decode cX12_fewestLateBySets 96 = .ok (.iload_n 2, 1) := by decide +kernel
theorem dX12_fewestLateBySets_97 : decode cX12_fewestLateBySets 97 = .ok (.iaload, 1) := by decide +kernel
theorem dX12_fewestLateBySets_98 : decode cX12_fewestLateBySets 98 = .ok (.if_icmp .gt 19, 3) := by decide +kernel
theorem dX12_fewestLateBySets_101 : decode cX12_fewestLateBySets 101 = .ok (.iload 4, 2) := by decide +kernel
theorem dX12_fewestLateBySets_103 : decode cX12_fewestLateBySets 103 = .ok (.aload_n 0, 1) := by decide +kernel
theorem dX12_fewestLateBySets_104 : decode cX12_fewestLateBySets 104 = .ok (.getfield 52, 3) := by decide +kernel
theorem dX12_fewestLateBySets_107 : decode cX12_fewestLateBySets 107 = .ok (.iload_n 3, 1) := by decide +kernel
theorem dX12_fewestLateBySets_108 : decode cX12_fewestLateBySets 108 = .ok (.iaload, 1) := by decide +kernel
theorem dX12_fewestLateBySets_109 : decode cX12_fewestLateBySets 109 = .ok (.if_icmp .ge 8, 3) := by decide +kernel
theorem dX12_fewestLateBySets_112 : decode cX12_fewestLateBySets 112 = .ok (.iload 4, 2) := by decide +kernel
theorem dX12_fewestLateBySets_114 : decode cX12_fewestLateBySets 114 = .ok (.goto 9, 3) := by decide +kernel
theorem dX12_fewestLateBySets_117 : decode cX12_fewestLateBySets 117 = .ok (.aload_n 0, 1) := by decide +kernel
theorem dX12_fewestLateBySets_118 : decode cX12_fewestLateBySets 118 = .ok (.getfield 52, 3) := by decide +kernel
theorem dX12_fewestLateBySets_121 : decode cX12_fewestLateBySets 121 = .ok (.iload_n 3, 1) := by decide +kernel
theorem dX12_fewestLateBySets_122 : decode cX12_fewestLateBySets 122 = .ok (.iaload, 1) := by decide +kernel
theorem dX12_fewestLateBySets_123 : decode cX12_fewestLateBySets 123 = .ok (.iastore, 1) := by decide +kernel
theorem dX12_fewestLateBySets_124 : decode cX12_fewestLateBySets 124 = .ok (.iinc 3 (-1), 3) := by decide +kernel
theorem dX12_fewestLateBySets_127 : decode cX12_fewestLateBySets 127 = .ok (.goto (-63), 3) := by decide +kernel
theorem dX12_fewestLateBySets_130 : decode cX12_fewestLateBySets 130 = .ok (.iinc 1 1, 3) := by decide +kernel
theorem dX12_fewestLateBySets_133 : decode cX12_fewestLateBySets 133 = .ok (.goto (-89), 3) := by decide +kernel
theorem dX12_fewestLateBySets_136 : decode cX12_fewestLateBySets 136 = .ok (.iconst 0, 1) := by decide +kernel
theorem dX12_fewestLateBySets_137 : decode cX12_fewestLateBySets 137 = .ok (.istore_n 1, 1) := by decide +kernel
theorem dX12_fewestLateBySets_138 : decode cX12_fewestLateBySets 138 = .ok (.iconst 0, 1) := by decide +kernel
theorem dX12_fewestLateBySets_139 : decode cX12_fewestLateBySets 139 = .ok (.istore_n 2, 1) := by decide +kernel
theorem dX12_fewestLateBySets_140 : decode cX12_fewestLateBySets 140 = .ok (.iload_n 2, 1) := by decide +kernel
theorem dX12_fewestLateBySets_141 : decode cX12_fewestLateBySets 141 = .ok (.aload_n 0, 1) := by decide +kernel
theorem dX12_fewestLateBySets_142 : decode cX12_fewestLateBySets 142 = .ok (.getfield 63, 3) := by decide +kernel
theorem dX12_fewestLateBySets_145 : decode cX12_fewestLateBySets 145 = .ok (.if_icmp .gt 26, 3) := by decide +kernel
theorem dX12_fewestLateBySets_148 : decode cX12_fewestLateBySets 148 = .ok (.aload_n 0, 1) := by decide +kernel
theorem dX12_fewestLateBySets_149 : decode cX12_fewestLateBySets 149 = .ok (.getfield 52, 3) := by decide +kernel
theorem dX12_fewestLateBySets_152 : decode cX12_fewestLateBySets 152 = .ok (.iload_n 2, 1) := by decide +kernel
theorem dX12_fewestLateBySets_153 : decode cX12_fewestLateBySets 153 = .ok (.iaload, 1) := by decide +kernel
theorem dX12_fewestLateBySets_154 : decode cX12_fewestLateBySets 154 = .ok (.ldc 110, 2) := by decide +kernel
theorem dX12_fewestLateBySets_156 : decode cX12_fewestLateBySets 156 = .ok (.if_icmp .ge 7, 3) := by decide +kernel
theorem dX12_fewestLateBySets_159 : decode cX12_fewestLateBySets 159 = .ok (.iload_n 2, 1) := by decide +kernel
theorem dX12_fewestLateBySets_160 : decode cX12_fewestLateBySets 160 = .ok (.goto 4, 3) := by decide +kernel
theorem dX12_fewestLateBySets_163 : decode cX12_fewestLateBySets 163 = .ok (.iload_n 1, 1) := by decide +kernel
theorem dX12_fewestLateBySets_164 : decode cX12_fewestLateBySets 164 = .ok (.istore_n 1, 1) := by decide +kernel
theorem dX12_fewestLateBySets_165 : decode cX12_fewestLateBySets 165 = .ok (.iinc 2 1, 3) := by decide +kernel
theorem dX12_fewestLateBySets_168 : decode cX12_fewestLateBySets 168 = .ok (.goto (-28), 3) := by decide +kernel
theorem dX12_fewestLateBySets_171 : decode cX12_fewestLateBySets 171 = .ok (.aload_n 0, 1) := by decide +kernel
theorem dX12_fewestLateBySets_172 : decode cX12_fewestLateBySets 172 = .ok (.getfield 63, 3) := by decide +kernel
theorem dX12_fewestLateBySets_175 : decode cX12_fewestLateBySets 175 = .ok (.iload_n 1, 1) := by decide +kernel
theorem dX12_fewestLateBySets_176 : decode cX12_fewestLateBySets 176 = .ok (.isub, 1) := by decide +kernel
theorem dX12_fewestLateBySets_177 : decode cX12_fewestLateBySets 177 = .ok (.ireturn, 1) := by decide +kernel
theorem dX12_releaseOf_0 : decode cX12_releaseOf 0 = .ok (.iload_n 2, 1) := by decide +kernel
theorem dX12_releaseOf_1 : decode cX12_releaseOf 1 = .ok (.ifCond .eq 12, 3) := by decide +kernel
theorem dX12_releaseOf_4 : decode cX12_releaseOf 4 = .ok (.aload_n 0, 1) := by decide +kernel
theorem dX12_releaseOf_5 : decode cX12_releaseOf 5 = .ok (.getfield 19, 3) := by decide +kernel
theorem dX12_releaseOf_8 : decode cX12_releaseOf 8 = .ok (.iload_n 1, 1) := by decide +kernel
theorem dX12_releaseOf_9 : decode cX12_releaseOf 9 = .ok (.iaload, 1) := by decide +kernel
theorem dX12_releaseOf_10 : decode cX12_releaseOf 10 = .ok (.goto 4, 3) := by decide +kernel
theorem dX12_releaseOf_13 : decode cX12_releaseOf 13 = .ok (.iconst 0, 1) := by decide +kernel
theorem dX12_releaseOf_14 : decode cX12_releaseOf 14 = .ok (.ireturn, 1) := by decide +kernel
theorem dX12_bound_0 : decode cX12_bound 0 = .ok (.iconst 0, 1) := by decide +kernel
theorem dX12_bound_1 : decode cX12_bound 1 = .ok (.istore 4, 2) := by decide +kernel
theorem dX12_bound_3 : decode cX12_bound 3 = .ok (.iconst 0, 1) := by decide +kernel
theorem dX12_bound_4 : decode cX12_bound 4 = .ok (.istore 5, 2) := by decide +kernel
theorem dX12_bound_6 : decode cX12_bound 6 = .ok (.iload 5, 2) := by decide +kernel
theorem dX12_bound_8 : decode cX12_bound 8 = .ok (.aload_n 0, 1) := by decide +kernel
theorem dX12_bound_9 : decode cX12_bound 9 = .ok (.getfield 63, 3) := by decide +kernel
theorem dX12_bound_12 : decode cX12_bound 12 = .ok (.if_icmp .ge 69, 3) := by decide +kernel
theorem dX12_bound_15 : decode cX12_bound 15 = .ok (.aload_n 0, 1) := by decide +kernel
theorem dX12_bound_16 : decode cX12_bound 16 = .ok (.iload 5, 2) := by decide +kernel
theorem dX12_bound_18 : decode cX12_bound 18 = .ok (.iload_n 3, 1) := by decide +kernel
theorem dX12_bound_19 : decode cX12_bound 19 = .ok (.invokevirtual 185, 3) := by decide +kernel
theorem dX12_bound_22 : decode cX12_bound 22 = .ok (.aload_n 0, 1) := by decide +kernel
theorem dX12_bound_23 : decode cX12_bound 23 = .ok (.iload_n 1, 1) := by decide +kernel
theorem dX12_bound_24 : decode cX12_bound 24 = .ok (.iload_n 3, 1) := by decide +kernel
theorem dX12_bound_25 : decode cX12_bound 25 = .ok (.invokevirtual 185, 3) := by decide +kernel
theorem dX12_bound_28 : decode cX12_bound 28 = .ok (.if_icmp .lt 23, 3) := by decide +kernel
theorem dX12_bound_31 : decode cX12_bound 31 = .ok (.aload_n 0, 1) := by decide +kernel
theorem dX12_bound_32 : decode cX12_bound 32 = .ok (.getfield 13, 3) := by decide +kernel
theorem dX12_bound_35 : decode cX12_bound 35 = .ok (.iload 5, 2) := by decide +kernel
theorem dX12_bound_37 : decode cX12_bound 37 = .ok (.iaload, 1) := by decide +kernel
theorem dX12_bound_38 : decode cX12_bound 38 = .ok (.aload_n 0, 1) := by decide +kernel
theorem dX12_bound_39 : decode cX12_bound 39 = .ok (.getfield 13, 3) := by decide +kernel
theorem dX12_bound_42 : decode cX12_bound 42 = .ok (.iload_n 2, 1) := by decide +kernel
theorem dX12_bound_43 : decode cX12_bound 43 = .ok (.iaload, 1) := by decide +kernel
theorem dX12_bound_44 : decode cX12_bound 44 = .ok (.if_icmp .gt 7, 3) := by decide +kernel
theorem dX12_bound_47 : decode cX12_bound 47 = .ok (.iconst 1, 1) := by decide +kernel
theorem dX12_bound_48 : decode cX12_bound 48 = .ok (.goto 4, 3) := by decide +kernel
theorem dX12_bound_51 : decode cX12_bound 51 = .ok (.iconst 0, 1) := by decide +kernel
theorem dX12_bound_52 : decode cX12_bound 52 = .ok (.istore 6, 2) := by decide +kernel
theorem dX12_bound_54 : decode cX12_bound 54 = .ok (.iload 4, 2) := by decide +kernel
theorem dX12_bound_56 : decode cX12_bound 56 = .ok (.iload 6, 2) := by decide +kernel
theorem dX12_bound_58 : decode cX12_bound 58 = .ok (.ifCond .eq 13, 3) := by decide +kernel
theorem dX12_bound_61 : decode cX12_bound 61 = .ok (.aload_n 0, 1) := by decide +kernel
theorem dX12_bound_62 : decode cX12_bound 62 = .ok (.getfield 7, 3) := by decide +kernel
theorem dX12_bound_65 : decode cX12_bound 65 = .ok (.iload 5, 2) := by decide +kernel
theorem dX12_bound_67 : decode cX12_bound 67 = .ok (.iaload, 1) := by decide +kernel
theorem dX12_bound_68 : decode cX12_bound 68 = .ok (.goto 4, 3) := by decide +kernel
theorem dX12_bound_71 : decode cX12_bound 71 = .ok (.iconst 0, 1) := by decide +kernel
theorem dX12_bound_72 : decode cX12_bound 72 = .ok (.iadd, 1) := by decide +kernel
theorem dX12_bound_73 : decode cX12_bound 73 = .ok (.istore 4, 2) := by decide +kernel
theorem dX12_bound_75 : decode cX12_bound 75 = .ok (.iinc 5 1, 3) := by decide +kernel
theorem dX12_bound_78 : decode cX12_bound 78 = .ok (.goto (-72), 3) := by decide +kernel
theorem dX12_bound_81 : decode cX12_bound 81 = .ok (.iload 4, 2) := by decide +kernel
theorem dX12_bound_83 : decode cX12_bound 83 = .ok (.ifCond .ne 8, 3) := by decide +kernel
theorem dX12_bound_86 : decode cX12_bound 86 = .ok (.ldc 111, 2) := by decide +kernel
theorem dX12_bound_88 : decode cX12_bound 88 = .ok (.goto 19, 3) := by decide +kernel
theorem dX12_bound_91 : decode cX12_bound 91 = .ok (.aload_n 0, 1) := by decide +kernel
theorem dX12_bound_92 : decode cX12_bound 92 = .ok (.iload_n 1, 1) := by decide +kernel
theorem dX12_bound_93 : decode cX12_bound 93 = .ok (.iload_n 3, 1) := by decide +kernel
theorem dX12_bound_94 : decode cX12_bound 94 = .ok (.invokevirtual 185, 3) := by decide +kernel
theorem dX12_bound_97 : decode cX12_bound 97 = .ok (.iload 4, 2) := by decide +kernel
theorem dX12_bound_99 : decode cX12_bound 99 = .ok (.iadd, 1) := by decide +kernel
theorem dX12_bound_100 : decode cX12_bound 100 = .ok (.aload_n 0, 1) := by decide +kernel
theorem dX12_bound_101 : decode cX12_bound 101 = .ok (.getfield 13, 3) := by decide +kernel
theorem dX12_bound_104 : decode cX12_bound 104 = .ok (.iload_n 2, 1) := by decide +kernel
theorem dX12_bound_105 : decode cX12_bound 105 = .ok (.iaload, 1) := by decide +kernel
theorem dX12_bound_106 : decode cX12_bound 106 = .ok (.isub, 1) := by decide +kernel
theorem dX12_bound_107 : decode cX12_bound 107 = .ok (.ireturn, 1) := by decide +kernel
theorem dX12_windowBound_0 : decode cX12_windowBound 0 = .ok (.aload_n 0, 1) := by decide +kernel
theorem dX12_windowBound_1 : decode cX12_windowBound 1 = .ok (.invokevirtual 137, 3) := by decide +kernel
theorem dX12_windowBound_4 : decode cX12_windowBound 4 = .ok (.ifCond .ne 5, 3) := by decide +kernel
theorem dX12_windowBound_7 : decode cX12_windowBound 7 = .ok (.iconst 0, 1) := by decide +kernel
theorem dX12_windowBound_8 : decode cX12_windowBound 8 = .ok (.ireturn, 1) := by decide +kernel
theorem dX12_windowBound_9 : decode cX12_windowBound 9 = .ok (.ldc 111, 2) := by decide +kernel
theorem dX12_windowBound_11 : decode cX12_windowBound 11 = .ok (.istore_n 2, 1) := by decide +kernel
theorem dX12_windowBound_12 : decode cX12_windowBound 12 = .ok (.iconst 0, 1) := by decide +kernel
theorem dX12_windowBound_13 : decode cX12_windowBound 13 = .ok (.istore_n 3, 1) := by decide +kernel
theorem dX12_windowBound_14 : decode cX12_windowBound 14 = .ok (.iload_n 3, 1) := by decide +kernel
theorem dX12_windowBound_15 : decode cX12_windowBound 15 = .ok (.aload_n 0, 1) := by decide +kernel
theorem dX12_windowBound_16 : decode cX12_windowBound 16 = .ok (.getfield 63, 3) := by decide +kernel
theorem dX12_windowBound_19 : decode cX12_windowBound 19 = .ok (.aload_n 0, 1) := by decide +kernel
theorem dX12_windowBound_20 : decode cX12_windowBound 20 = .ok (.getfield 63, 3) := by decide +kernel
theorem dX12_windowBound_23 : decode cX12_windowBound 23 = .ok (.imul, 1) := by decide +kernel
theorem dX12_windowBound_24 : decode cX12_windowBound 24 = .ok (.if_icmp .ge 41, 3) := by decide +kernel
theorem dX12_windowBound_27 : decode cX12_windowBound 27 = .ok (.aload_n 0, 1) := by decide +kernel
theorem dX12_windowBound_28 : decode cX12_windowBound 28 = .ok (.iload_n 3, 1) := by decide +kernel
theorem dX12_windowBound_29 : decode cX12_windowBound 29 = .ok (.aload_n 0, 1) := by decide +kernel
theorem dX12_windowBound_30 : decode cX12_windowBound 30 = .ok (.getfield 63, 3) := by decide +kernel
theorem dX12_windowBound_33 : decode cX12_windowBound 33 = .ok (.idiv, 1) := by decide +kernel
theorem dX12_windowBound_34 : decode cX12_windowBound 34 = .ok (.iload_n 3, 1) := by decide +kernel
theorem dX12_windowBound_35 : decode cX12_windowBound 35 = .ok (.aload_n 0, 1) := by decide +kernel
theorem dX12_windowBound_36 : decode cX12_windowBound 36 = .ok (.getfield 63, 3) := by decide +kernel
theorem dX12_windowBound_39 : decode cX12_windowBound 39 = .ok (.irem, 1) := by decide +kernel
theorem dX12_windowBound_40 : decode cX12_windowBound 40 = .ok (.iload_n 1, 1) := by decide +kernel
theorem dX12_windowBound_41 : decode cX12_windowBound 41 = .ok (.invokevirtual 188, 3) := by decide +kernel
theorem dX12_windowBound_44 : decode cX12_windowBound 44 = .ok (.istore 4, 2) := by decide +kernel
theorem dX12_windowBound_46 : decode cX12_windowBound 46 = .ok (.iload 4, 2) := by decide +kernel
theorem dX12_windowBound_48 : decode cX12_windowBound 48 = .ok (.iload_n 2, 1) := by decide +kernel
theorem dX12_windowBound_49 : decode cX12_windowBound 49 = .ok (.if_icmp .le 8, 3) := by decide +kernel
theorem dX12_windowBound_52 : decode cX12_windowBound 52 = .ok (.iload 4, 2) := by decide +kernel
theorem dX12_windowBound_54 : decode cX12_windowBound 54 = .ok (.goto 4, 3) := by decide +kernel
theorem dX12_windowBound_57 : decode cX12_windowBound 57 = .ok (.iload_n 2, 1) := by decide +kernel
theorem dX12_windowBound_58 : decode cX12_windowBound 58 = .ok (.istore_n 2, 1) := by decide +kernel
theorem dX12_windowBound_59 : decode cX12_windowBound 59 = .ok (.iinc 3 1, 3) := by decide +kernel
theorem dX12_windowBound_62 : decode cX12_windowBound 62 = .ok (.goto (-48), 3) := by decide +kernel
theorem dX12_windowBound_65 : decode cX12_windowBound 65 = .ok (.iload_n 2, 1) := by decide +kernel
theorem dX12_windowBound_66 : decode cX12_windowBound 66 = .ok (.ireturn, 1) := by decide +kernel
theorem dX12_windowJob_0 : decode cX12_windowJob 0 = .ok (.iconst 0, 1) := by decide +kernel
theorem dX12_windowJob_1 : decode cX12_windowJob 1 = .ok (.istore_n 2, 1) := by decide +kernel
theorem dX12_windowJob_2 : decode cX12_windowJob 2 = .ok (.iconst 1, 1) := by decide +kernel
theorem dX12_windowJob_3 : decode cX12_windowJob 3 = .ok (.istore_n 3, 1) := by decide +kernel
theorem dX12_windowJob_4 : decode cX12_windowJob 4 = .ok (.iload_n 3, 1) := by decide +kernel
theorem dX12_windowJob_5 : decode cX12_windowJob 5 = .ok (.aload_n 0, 1) := by decide +kernel
theorem dX12_windowJob_6 : decode cX12_windowJob 6 = .ok (.getfield 63, 3) := by decide +kernel
theorem dX12_windowJob_9 : decode cX12_windowJob 9 = .ok (.aload_n 0, 1) := by decide +kernel
theorem dX12_windowJob_10 : decode cX12_windowJob 10 = .ok (.getfield 63, 3) := by decide +kernel
theorem dX12_windowJob_13 : decode cX12_windowJob 13 = .ok (.imul, 1) := by decide +kernel
theorem dX12_windowJob_14 : decode cX12_windowJob 14 = .ok (.if_icmp .ge 144, 3) := by decide +kernel
theorem dX12_windowJob_17 : decode cX12_windowJob 17 = .ok (.aload_n 0, 1) := by decide +kernel
theorem dX12_windowJob_18 : decode cX12_windowJob 18 = .ok (.iload_n 3, 1) := by decide +kernel
theorem dX12_windowJob_19 : decode cX12_windowJob 19 = .ok (.aload_n 0, 1) := by decide +kernel
theorem dX12_windowJob_20 : decode cX12_windowJob 20 = .ok (.getfield 63, 3) := by decide +kernel
theorem dX12_windowJob_23 : decode cX12_windowJob 23 = .ok (.idiv, 1) := by decide +kernel
theorem dX12_windowJob_24 : decode cX12_windowJob 24 = .ok (.iload_n 3, 1) := by decide +kernel
theorem dX12_windowJob_25 : decode cX12_windowJob 25 = .ok (.aload_n 0, 1) := by decide +kernel
theorem dX12_windowJob_26 : decode cX12_windowJob 26 = .ok (.getfield 63, 3) := by decide +kernel
theorem dX12_windowJob_29 : decode cX12_windowJob 29 = .ok (.irem, 1) := by decide +kernel
theorem dX12_windowJob_30 : decode cX12_windowJob 30 = .ok (.iconst 1, 1) := by decide +kernel
theorem dX12_windowJob_31 : decode cX12_windowJob 31 = .ok (.invokevirtual 188, 3) := by decide +kernel
theorem dX12_windowJob_34 : decode cX12_windowJob 34 = .ok (.istore 4, 2) := by decide +kernel
theorem dX12_windowJob_36 : decode cX12_windowJob 36 = .ok (.aload_n 0, 1) := by decide +kernel
theorem dX12_windowJob_37 : decode cX12_windowJob 37 = .ok (.iload_n 2, 1) := by decide +kernel
theorem dX12_windowJob_38 : decode cX12_windowJob 38 = .ok (.aload_n 0, 1) := by decide +kernel
theorem dX12_windowJob_39 : decode cX12_windowJob 39 = .ok (.getfield 63, 3) := by decide +kernel
theorem dX12_windowJob_42 : decode cX12_windowJob 42 = .ok (.idiv, 1) := by decide +kernel
theorem dX12_windowJob_43 : decode cX12_windowJob 43 = .ok (.iload_n 2, 1) := by decide +kernel
theorem dX12_windowJob_44 : decode cX12_windowJob 44 = .ok (.aload_n 0, 1) := by decide +kernel
theorem dX12_windowJob_45 : decode cX12_windowJob 45 = .ok (.getfield 63, 3) := by decide +kernel
theorem dX12_windowJob_48 : decode cX12_windowJob 48 = .ok (.irem, 1) := by decide +kernel
theorem dX12_windowJob_49 : decode cX12_windowJob 49 = .ok (.iconst 1, 1) := by decide +kernel
theorem dX12_windowJob_50 : decode cX12_windowJob 50 = .ok (.invokevirtual 188, 3) := by decide +kernel
theorem dX12_windowJob_53 : decode cX12_windowJob 53 = .ok (.istore 5, 2) := by decide +kernel
theorem dX12_windowJob_55 : decode cX12_windowJob 55 = .ok (.aload_n 0, 1) := by decide +kernel
theorem dX12_windowJob_56 : decode cX12_windowJob 56 = .ok (.getfield 13, 3) := by decide +kernel
theorem dX12_windowJob_59 : decode cX12_windowJob 59 = .ok (.iload_n 3, 1) := by decide +kernel
theorem dX12_windowJob_60 : decode cX12_windowJob 60 = .ok (.aload_n 0, 1) := by decide +kernel
theorem dX12_windowJob_61 : decode cX12_windowJob 61 = .ok (.getfield 63, 3) := by decide +kernel
theorem dX12_windowJob_64 : decode cX12_windowJob 64 = .ok (.irem, 1) := by decide +kernel
theorem dX12_windowJob_65 : decode cX12_windowJob 65 = .ok (.iaload, 1) := by decide +kernel
theorem dX12_windowJob_66 : decode cX12_windowJob 66 = .ok (.aload_n 0, 1) := by decide +kernel
theorem dX12_windowJob_67 : decode cX12_windowJob 67 = .ok (.getfield 13, 3) := by decide +kernel
theorem dX12_windowJob_70 : decode cX12_windowJob 70 = .ok (.iload_n 2, 1) := by decide +kernel
theorem dX12_windowJob_71 : decode cX12_windowJob 71 = .ok (.aload_n 0, 1) := by decide +kernel
theorem dX12_windowJob_72 : decode cX12_windowJob 72 = .ok (.getfield 63, 3) := by decide +kernel
theorem dX12_windowJob_75 : decode cX12_windowJob 75 = .ok (.irem, 1) := by decide +kernel
theorem dX12_windowJob_76 : decode cX12_windowJob 76 = .ok (.iaload, 1) := by decide +kernel
theorem dX12_windowJob_77 : decode cX12_windowJob 77 = .ok (.isub, 1) := by decide +kernel
theorem dX12_windowJob_78 : decode cX12_windowJob 78 = .ok (.istore 6, 2) := by decide +kernel
theorem dX12_windowJob_80 : decode cX12_windowJob 80 = .ok (.aload_n 0, 1) := by decide +kernel
theorem dX12_windowJob_81 : decode cX12_windowJob 81 = .ok (.getfield 19, 3) := by decide +kernel
theorem dX12_windowJob_84 : decode cX12_windowJob 84 = .ok (.iload_n 3, 1) := by decide +kernel
theorem dX12_windowJob_85 : decode cX12_windowJob 85 = .ok (.aload_n 0, 1) := by decide +kernel
theorem dX12_windowJob_86 : decode cX12_windowJob 86 = .ok (.getfield 63, 3) := by decide +kernel
theorem dX12_windowJob_89 : decode cX12_windowJob 89 = .ok (.idiv, 1) := by decide +kernel
theorem dX12_windowJob_90 : decode cX12_windowJob 90 = .ok (.iaload, 1) := by decide +kernel
theorem dX12_windowJob_91 : decode cX12_windowJob 91 = .ok (.aload_n 0, 1) := by decide +kernel
theorem dX12_windowJob_92 : decode cX12_windowJob 92 = .ok (.getfield 19, 3) := by decide +kernel
theorem dX12_windowJob_95 : decode cX12_windowJob 95 = .ok (.iload_n 2, 1) := by decide +kernel
theorem dX12_windowJob_96 : decode cX12_windowJob 96 = .ok (.aload_n 0, 1) := by decide +kernel
theorem dX12_windowJob_97 : decode cX12_windowJob 97 = .ok (.getfield 63, 3) := by decide +kernel
theorem dX12_windowJob_100 : decode cX12_windowJob 100 = .ok (.idiv, 1) := by decide +kernel
theorem dX12_windowJob_101 : decode cX12_windowJob 101 = .ok (.iaload, 1) := by decide +kernel
theorem dX12_windowJob_102 : decode cX12_windowJob 102 = .ok (.isub, 1) := by decide +kernel
theorem dX12_windowJob_103 : decode cX12_windowJob 103 = .ok (.istore 7, 2) := by decide +kernel
theorem dX12_windowJob_105 : decode cX12_windowJob 105 = .ok (.iload 4, 2) := by decide +kernel
theorem dX12_windowJob_107 : decode cX12_windowJob 107 = .ok (.iload 5, 2) := by decide +kernel
theorem dX12_windowJob_109 : decode cX12_windowJob 109 = .ok (.if_icmp .gt 25, 3) := by decide +kernel
theorem dX12_windowJob_112 : decode cX12_windowJob 112 = .ok (.iload 4, 2) := by decide +kernel
theorem dX12_windowJob_114 : decode cX12_windowJob 114 = .ok (.iload 5, 2) := by decide +kernel
theorem dX12_windowJob_116 : decode cX12_windowJob 116 = .ok (.if_icmp .ne 22, 3) := by decide +kernel
theorem dX12_windowJob_119 : decode cX12_windowJob 119 = .ok (.iload 6, 2) := by decide +kernel
theorem dX12_windowJob_121 : decode cX12_windowJob 121 = .ok (.ifCond .lt 13, 3) := by decide +kernel
theorem dX12_windowJob_124 : decode cX12_windowJob 124 = .ok (.iload 6, 2) := by decide +kernel
theorem dX12_windowJob_126 : decode cX12_windowJob 126 = .ok (.ifCond .ne 12, 3) := by decide +kernel
theorem dX12_windowJob_129 : decode cX12_windowJob 129 = .ok (.iload 7, 2) := by decide +kernel
theorem dX12_windowJob_131 : decode cX12_windowJob 131 = .ok (.ifCond .ge 7, 3) := by decide +kernel
theorem dX12_windowJob_134 : decode cX12_windowJob 134 = .ok (.iconst 1, 1) := by decide +kernel
theorem dX12_windowJob_135 : decode cX12_windowJob 135 = .ok (.goto 4, 3) := by decide +kernel
theorem dX12_windowJob_138 : decode cX12_windowJob 138 = .ok (.iconst 0, 1) := by decide +kernel
theorem dX12_windowJob_139 : decode cX12_windowJob 139 = .ok (.istore 8, 2) := by decide +kernel
theorem dX12_windowJob_141 : decode cX12_windowJob 141 = .ok (.iload 8, 2) := by decide +kernel
theorem dX12_windowJob_143 : decode cX12_windowJob 143 = .ok (.ifCond .eq 7, 3) := by decide +kernel
theorem dX12_windowJob_146 : decode cX12_windowJob 146 = .ok (.iload_n 3, 1) := by decide +kernel
theorem dX12_windowJob_147 : decode cX12_windowJob 147 = .ok (.goto 4, 3) := by decide +kernel
theorem dX12_windowJob_150 : decode cX12_windowJob 150 = .ok (.iload_n 2, 1) := by decide +kernel
theorem dX12_windowJob_151 : decode cX12_windowJob 151 = .ok (.istore_n 2, 1) := by decide +kernel
theorem dX12_windowJob_152 : decode cX12_windowJob 152 = .ok (.iinc 3 1, 3) := by decide +kernel
theorem dX12_windowJob_155 : decode cX12_windowJob 155 = .ok (.goto (-151), 3) := by decide +kernel
theorem dX12_windowJob_158 : decode cX12_windowJob 158 = .ok (.iload_n 1, 1) := by decide +kernel
theorem dX12_windowJob_159 : decode cX12_windowJob 159 = .ok (.ifCond .eq 12, 3) := by decide +kernel
theorem dX12_windowJob_162 : decode cX12_windowJob 162 = .ok (.iload_n 2, 1) := by decide +kernel
theorem dX12_windowJob_163 : decode cX12_windowJob 163 = .ok (.aload_n 0, 1) := by decide +kernel
theorem dX12_windowJob_164 : decode cX12_windowJob 164 = .ok (.getfield 63, 3) := by decide +kernel
theorem dX12_windowJob_167 : decode cX12_windowJob 167 = .ok (.irem, 1) := by decide +kernel
theorem dX12_windowJob_168 : decode cX12_windowJob 168 = .ok (.goto 9, 3) := by decide +kernel
theorem dX12_windowJob_171 : decode cX12_windowJob 171 = .ok (.iload_n 2, 1) := by decide +kernel
theorem dX12_windowJob_172 : decode cX12_windowJob 172 = .ok (.aload_n 0, 1) := by decide +kernel
theorem dX12_windowJob_173 : decode cX12_windowJob 173 = .ok (.getfield 63, 3) := by decide +kernel
theorem dX12_windowJob_176 : decode cX12_windowJob 176 = .ok (.idiv, 1) := by decide +kernel
theorem dX12_windowJob_177 : decode cX12_windowJob 177 = .ok (.ireturn, 1) := by decide +kernel
theorem dX12_windowDue_0 : decode cX12_windowDue 0 = .ok (.aload_n 0, 1) := by decide +kernel
theorem dX12_windowDue_1 : decode cX12_windowDue 1 = .ok (.invokevirtual 137, 3) := by decide +kernel
theorem dX12_windowDue_4 : decode cX12_windowDue 4 = .ok (.ifCond .eq 16, 3) := by decide +kernel
theorem dX12_windowDue_7 : decode cX12_windowDue 7 = .ok (.aload_n 0, 1) := by decide +kernel
theorem dX12_windowDue_8 : decode cX12_windowDue 8 = .ok (.getfield 13, 3) := by decide +kernel
theorem dX12_windowDue_11 : decode cX12_windowDue 11 = .ok (.aload_n 0, 1) := by decide +kernel
theorem dX12_windowDue_12 : decode cX12_windowDue 12 = .ok (.iconst 1, 1) := by decide +kernel
theorem dX12_windowDue_13 : decode cX12_windowDue 13 = .ok (.invokevirtual 192, 3) := by decide +kernel
theorem dX12_windowDue_16 : decode cX12_windowDue 16 = .ok (.iaload, 1) := by decide +kernel
theorem dX12_windowDue_17 : decode cX12_windowDue 17 = .ok (.goto 4, 3) := by decide +kernel
theorem dX12_windowDue_20 : decode cX12_windowDue 20 = .ok (.iconst 0, 1) := by decide +kernel
theorem dX12_windowDue_21 : decode cX12_windowDue 21 = .ok (.ireturn, 1) := by decide +kernel
theorem dX12_windowRelease_0 : decode cX12_windowRelease 0 = .ok (.aload_n 0, 1) := by decide +kernel
theorem dX12_windowRelease_1 : decode cX12_windowRelease 1 = .ok (.invokevirtual 137, 3) := by decide +kernel
theorem dX12_windowRelease_4 : decode cX12_windowRelease 4 = .ok (.ifCond .eq 16, 3) := by decide +kernel
theorem dX12_windowRelease_7 : decode cX12_windowRelease 7 = .ok (.aload_n 0, 1) := by decide +kernel
theorem dX12_windowRelease_8 : decode cX12_windowRelease 8 = .ok (.getfield 19, 3) := by decide +kernel
theorem dX12_windowRelease_11 : decode cX12_windowRelease 11 = .ok (.aload_n 0, 1) := by decide +kernel
theorem dX12_windowRelease_12 : decode cX12_windowRelease 12 = .ok (.iconst 0, 1) := by decide +kernel
theorem dX12_windowRelease_13 : decode cX12_windowRelease 13 = .ok (.invokevirtual 192, 3) := by decide +kernel
theorem dX12_windowRelease_16 : decode cX12_windowRelease 16 = .ok (.iaload, 1) := by decide +kernel
theorem dX12_windowRelease_17 : decode cX12_windowRelease 17 = .ok (.goto 4, 3) := by decide +kernel
theorem dX12_windowRelease_20 : decode cX12_windowRelease 20 = .ok (.iconst 0, 1) := by decide +kernel
theorem dX12_windowRelease_21 : decode cX12_windowRelease 21 = .ok (.ireturn, 1) := by decide +kernel
theorem dJx29ce0_ordinal_8abf5_0 : decode cJx29ce0_ordinal_8abf5 0 = .ok (.aload_n 0, 1) := by decide +kernel
theorem dJx29ce0_ordinal_8abf5_1 : decode cJx29ce0_ordinal_8abf5 1 = .ok (.getfield 7, 3) := by decide +kernel
theorem dJx29ce0_ordinal_8abf5_4 : decode cJx29ce0_ordinal_8abf5 4 = .ok (.ireturn, 1) := by decide +kernel
theorem dJ6_bitCount_0f7a4_0 : decode cJ6_bitCount_0f7a4 0 = .ok (.iload_n 0, 1) := by decide +kernel
theorem dJ6_bitCount_0f7a4_1 : decode cJ6_bitCount_0f7a4 1 = .ok (.iload_n 0, 1) := by decide +kernel
theorem dJ6_bitCount_0f7a4_2 : decode cJ6_bitCount_0f7a4 2 = .ok (.iconst 1, 1) := by decide +kernel
theorem dJ6_bitCount_0f7a4_3 : decode cJ6_bitCount_0f7a4 3 = .ok (.iushr, 1) := by decide +kernel
theorem dJ6_bitCount_0f7a4_4 : decode cJ6_bitCount_0f7a4 4 = .ok (.ldc_w 265, 3) := by decide +kernel
theorem dJ6_bitCount_0f7a4_7 : decode cJ6_bitCount_0f7a4 7 = .ok (.iand, 1) := by decide +kernel
theorem dJ6_bitCount_0f7a4_8 : decode cJ6_bitCount_0f7a4 8 = .ok (.isub, 1) := by decide +kernel
theorem dJ6_bitCount_0f7a4_9 : decode cJ6_bitCount_0f7a4 9 = .ok (.istore_n 0, 1) := by decide +kernel
theorem dJ6_bitCount_0f7a4_10 : decode cJ6_bitCount_0f7a4 10 = .ok (.iload_n 0, 1) := by decide +kernel
theorem dJ6_bitCount_0f7a4_11 : decode cJ6_bitCount_0f7a4 11 = .ok (.ldc_w 266, 3) := by decide +kernel
theorem dJ6_bitCount_0f7a4_14 : decode cJ6_bitCount_0f7a4 14 = .ok (.iand, 1) := by decide +kernel
theorem dJ6_bitCount_0f7a4_15 : decode cJ6_bitCount_0f7a4 15 = .ok (.iload_n 0, 1) := by decide +kernel
theorem dJ6_bitCount_0f7a4_16 : decode cJ6_bitCount_0f7a4 16 = .ok (.iconst 2, 1) := by decide +kernel
theorem dJ6_bitCount_0f7a4_17 : decode cJ6_bitCount_0f7a4 17 = .ok (.iushr, 1) := by decide +kernel
theorem dJ6_bitCount_0f7a4_18 : decode cJ6_bitCount_0f7a4 18 = .ok (.ldc_w 266, 3) := by decide +kernel
theorem dJ6_bitCount_0f7a4_21 : decode cJ6_bitCount_0f7a4 21 = .ok (.iand, 1) := by decide +kernel
theorem dJ6_bitCount_0f7a4_22 : decode cJ6_bitCount_0f7a4 22 = .ok (.iadd, 1) := by decide +kernel
theorem dJ6_bitCount_0f7a4_23 : decode cJ6_bitCount_0f7a4 23 = .ok (.istore_n 0, 1) := by decide +kernel
theorem dJ6_bitCount_0f7a4_24 : decode cJ6_bitCount_0f7a4 24 = .ok (.iload_n 0, 1) := by decide +kernel
theorem dJ6_bitCount_0f7a4_25 : decode cJ6_bitCount_0f7a4 25 = .ok (.iload_n 0, 1) := by decide +kernel
theorem dJ6_bitCount_0f7a4_26 : decode cJ6_bitCount_0f7a4 26 = .ok (.iconst 4, 1) := by decide +kernel
theorem dJ6_bitCount_0f7a4_27 : decode cJ6_bitCount_0f7a4 27 = .ok (.iushr, 1) := by decide +kernel
theorem dJ6_bitCount_0f7a4_28 : decode cJ6_bitCount_0f7a4 28 = .ok (.iadd, 1) := by decide +kernel
theorem dJ6_bitCount_0f7a4_29 : decode cJ6_bitCount_0f7a4 29 = .ok (.ldc_w 267, 3) := by decide +kernel
theorem dJ6_bitCount_0f7a4_32 : decode cJ6_bitCount_0f7a4 32 = .ok (.iand, 1) := by decide +kernel
theorem dJ6_bitCount_0f7a4_33 : decode cJ6_bitCount_0f7a4 33 = .ok (.istore_n 0, 1) := by decide +kernel
theorem dJ6_bitCount_0f7a4_34 : decode cJ6_bitCount_0f7a4 34 = .ok (.iload_n 0, 1) := by decide +kernel
theorem dJ6_bitCount_0f7a4_35 : decode cJ6_bitCount_0f7a4 35 = .ok (.iload_n 0, 1) := by decide +kernel
theorem dJ6_bitCount_0f7a4_36 : decode cJ6_bitCount_0f7a4 36 = .ok (.bipush 8, 2) := by decide +kernel
theorem dJ6_bitCount_0f7a4_38 : decode cJ6_bitCount_0f7a4 38 = .ok (.iushr, 1) := by decide +kernel
theorem dJ6_bitCount_0f7a4_39 : decode cJ6_bitCount_0f7a4 39 = .ok (.iadd, 1) := by decide +kernel
theorem dJ6_bitCount_0f7a4_40 : decode cJ6_bitCount_0f7a4 40 = .ok (.istore_n 0, 1) := by decide +kernel
theorem dJ6_bitCount_0f7a4_41 : decode cJ6_bitCount_0f7a4 41 = .ok (.iload_n 0, 1) := by decide +kernel
theorem dJ6_bitCount_0f7a4_42 : decode cJ6_bitCount_0f7a4 42 = .ok (.iload_n 0, 1) := by decide +kernel
theorem dJ6_bitCount_0f7a4_43 : decode cJ6_bitCount_0f7a4 43 = .ok (.bipush 16, 2) := by decide +kernel
theorem dJ6_bitCount_0f7a4_45 : decode cJ6_bitCount_0f7a4 45 = .ok (.iushr, 1) := by decide +kernel
theorem dJ6_bitCount_0f7a4_46 : decode cJ6_bitCount_0f7a4 46 = .ok (.iadd, 1) := by decide +kernel
theorem dJ6_bitCount_0f7a4_47 : decode cJ6_bitCount_0f7a4 47 = .ok (.istore_n 0, 1) := by decide +kernel
theorem dJ6_bitCount_0f7a4_48 : decode cJ6_bitCount_0f7a4 48 = .ok (.iload_n 0, 1) := by decide +kernel
theorem dJ6_bitCount_0f7a4_49 : decode cJ6_bitCount_0f7a4 49 = .ok (.bipush 63, 2) := by decide +kernel
theorem dJ6_bitCount_0f7a4_51 : decode cJ6_bitCount_0f7a4 51 = .ok (.iand, 1) := by decide +kernel
theorem dJ6_bitCount_0f7a4_52 : decode cJ6_bitCount_0f7a4 52 = .ok (.ireturn, 1) := by decide +kernel
theorem dJ9_max_7cf53_0 : decode cJ9_max_7cf53 0 = .ok (.iload_n 0, 1) := by decide +kernel
theorem dJ9_max_7cf53_1 : decode cJ9_max_7cf53 1 = .ok (.iload_n 1, 1) := by decide +kernel
theorem dJ9_max_7cf53_2 : decode cJ9_max_7cf53 2 = .ok (.if_icmp .lt 7, 3) := by decide +kernel
theorem dJ9_max_7cf53_5 : decode cJ9_max_7cf53 5 = .ok (.iload_n 0, 1) := by decide +kernel
theorem dJ9_max_7cf53_6 : decode cJ9_max_7cf53 6 = .ok (.goto 4, 3) := by decide +kernel
theorem dJ9_max_7cf53_9 : decode cJ9_max_7cf53 9 = .ok (.iload_n 1, 1) := by decide +kernel
theorem dJ9_max_7cf53_10 : decode cJ9_max_7cf53 10 = .ok (.ireturn, 1) := by decide +kernel
theorem dJ9_min_7cf53_0 : decode cJ9_min_7cf53 0 = .ok (.iload_n 0, 1) := by decide +kernel
theorem dJ9_min_7cf53_1 : decode cJ9_min_7cf53 1 = .ok (.iload_n 1, 1) := by decide +kernel
theorem dJ9_min_7cf53_2 : decode cJ9_min_7cf53 2 = .ok (.if_icmp .gt 7, 3) := by decide +kernel
theorem dJ9_min_7cf53_5 : decode cJ9_min_7cf53 5 = .ok (.iload_n 0, 1) := by decide +kernel
theorem dJ9_min_7cf53_6 : decode cJ9_min_7cf53 6 = .ok (.goto 4, 3) := by decide +kernel
theorem dJ9_min_7cf53_9 : decode cJ9_min_7cf53 9 = .ok (.iload_n 1, 1) := by decide +kernel
theorem dJ9_min_7cf53_10 : decode cJ9_min_7cf53 10 = .ok (.ireturn, 1) := by decide +kernel
theorem dL_addJob_0 : decode cL_addJob 0 = .ok (.aload 6, 2) := by decide +kernel
theorem dL_addJob_2 : decode cL_addJob 2 = .ok (.iconst 0, 1) := by decide +kernel
theorem dL_addJob_3 : decode cL_addJob 3 = .ok (.aload_n 0, 1) := by decide +kernel
theorem dL_addJob_4 : decode cL_addJob 4 = .ok (.iload_n 1, 1) := by decide +kernel
theorem dL_addJob_5 : decode cL_addJob 5 = .ok (.iload_n 2, 1) := by decide +kernel
theorem dL_addJob_6 : decode cL_addJob 6 = .ok (.iload_n 3, 1) := by decide +kernel
theorem dL_addJob_7 : decode cL_addJob 7 = .ok (.iload 4, 2) := by decide +kernel
theorem dL_addJob_9 : decode cL_addJob 9 = .ok (.iload 5, 2) := by decide +kernel
theorem dL_addJob_11 : decode cL_addJob 11 = .ok (.invokevirtual 7, 3) := by decide +kernel
theorem dL_addJob_14 : decode cL_addJob 14 = .ok (.i2l, 1) := by decide +kernel
theorem dL_addJob_15 : decode cL_addJob 15 = .ok (.lastore, 1) := by decide +kernel
theorem dL_addJob_16 : decode cL_addJob 16 = .ok (.goto 11, 3) := by decide +kernel
theorem dL_addJob_19 : decode cL_addJob 19 = .ok (.astore 7, 2) := by decide +kernel
theorem dL_addJob_21 : decode cL_addJob 21 = .ok (.iconst 1, 1) := by decide +kernel
theorem dL_addJob_22 : decode cL_addJob 22 = .ok (.ireturn, 1) := by decide +kernel
theorem dL_addJob_23 : decode cL_addJob 23 = .ok (.astore 7, 2) := by decide +kernel
theorem dL_addJob_25 : decode cL_addJob 25 = .ok (.iconst 2, 1) := by decide +kernel
theorem dL_addJob_26 : decode cL_addJob 26 = .ok (.ireturn, 1) := by decide +kernel
theorem dL_addJob_27 : decode cL_addJob 27 = .ok (.iconst 0, 1) := by decide +kernel
theorem dL_addJob_28 : decode cL_addJob 28 = .ok (.ireturn, 1) := by decide +kernel
theorem dL_changeJob_0 : decode cL_changeJob 0 = .ok (.aload_n 0, 1) := by decide +kernel
theorem dL_changeJob_1 : decode cL_changeJob 1 = .ok (.iload_n 1, 1) := by decide +kernel
theorem dL_changeJob_2 : decode cL_changeJob 2 = .ok (.iload_n 2, 1) := by decide +kernel
theorem dL_changeJob_3 : decode cL_changeJob 3 = .ok (.iload_n 3, 1) := by decide +kernel
theorem dL_changeJob_4 : decode cL_changeJob 4 = .ok (.iload 4, 2) := by decide +kernel
theorem dL_changeJob_6 : decode cL_changeJob 6 = .ok (.iload 5, 2) := by decide +kernel
theorem dL_changeJob_8 : decode cL_changeJob 8 = .ok (.iload 6, 2) := by decide +kernel
theorem dL_changeJob_10 : decode cL_changeJob 10 = .ok (.invokevirtual 17, 3) := by decide +kernel
theorem dL_changeJob_13 : decode cL_changeJob 13 = .ok (.goto 11, 3) := by decide +kernel
theorem dL_changeJob_16 : decode cL_changeJob 16 = .ok (.astore 7, 2) := by decide +kernel
theorem dL_changeJob_18 : decode cL_changeJob 18 = .ok (.iconst 1, 1) := by decide +kernel
theorem dL_changeJob_19 : decode cL_changeJob 19 = .ok (.ireturn, 1) := by decide +kernel
theorem dL_changeJob_20 : decode cL_changeJob 20 = .ok (.astore 7, 2) := by decide +kernel
theorem dL_changeJob_22 : decode cL_changeJob 22 = .ok (.iconst 2, 1) := by decide +kernel
theorem dL_changeJob_23 : decode cL_changeJob 23 = .ok (.ireturn, 1) := by decide +kernel
theorem dL_changeJob_24 : decode cL_changeJob 24 = .ok (.iconst 0, 1) := by decide +kernel
theorem dL_changeJob_25 : decode cL_changeJob 25 = .ok (.ireturn, 1) := by decide +kernel
theorem dL_removeJob_0 : decode cL_removeJob 0 = .ok (.aload_n 2, 1) := by decide +kernel
theorem dL_removeJob_1 : decode cL_removeJob 1 = .ok (.iconst 0, 1) := by decide +kernel
theorem dL_removeJob_2 : decode cL_removeJob 2 = .ok (.aload_n 0, 1) := by decide +kernel
theorem dL_removeJob_3 : decode cL_removeJob 3 = .ok (.iload_n 1, 1) := by decide +kernel
theorem dL_removeJob_4 : decode cL_removeJob 4 = .ok (.invokevirtual 23, 3) := by decide +kernel
theorem dL_removeJob_7 : decode cL_removeJob 7 = .ok (.i2l, 1) := by decide +kernel
theorem dL_removeJob_8 : decode cL_removeJob 8 = .ok (.lastore, 1) := by decide +kernel
theorem dL_removeJob_9 : decode cL_removeJob 9 = .ok (.goto 6, 3) := by decide +kernel
theorem dL_removeJob_12 : decode cL_removeJob 12 = .ok (.astore_n 3, 1) := by decide +kernel
theorem dL_removeJob_13 : decode cL_removeJob 13 = .ok (.iconst 1, 1) := by decide +kernel
theorem dL_removeJob_14 : decode cL_removeJob 14 = .ok (.ireturn, 1) := by decide +kernel
theorem dL_removeJob_15 : decode cL_removeJob 15 = .ok (.iconst 0, 1) := by decide +kernel
theorem dL_removeJob_16 : decode cL_removeJob 16 = .ok (.ireturn, 1) := by decide +kernel
theorem dL_setSetup_0 : decode cL_setSetup 0 = .ok (.aload_n 3, 1) := by decide +kernel
theorem dL_setSetup_1 : decode cL_setSetup 1 = .ok (.iconst 0, 1) := by decide +kernel
theorem dL_setSetup_2 : decode cL_setSetup 2 = .ok (.aload_n 0, 1) := by decide +kernel
theorem dL_setSetup_3 : decode cL_setSetup 3 = .ok (.iload_n 1, 1) := by decide +kernel
theorem dL_setSetup_4 : decode cL_setSetup 4 = .ok (.iload_n 2, 1) := by decide +kernel
theorem dL_setSetup_5 : decode cL_setSetup 5 = .ok (.invokevirtual 27, 3) := by decide +kernel
theorem dL_setSetup_8 : decode cL_setSetup 8 = .ok (.i2l, 1) := by decide +kernel
theorem dL_setSetup_9 : decode cL_setSetup 9 = .ok (.lastore, 1) := by decide +kernel
theorem dL_setSetup_10 : decode cL_setSetup 10 = .ok (.goto 11, 3) := by decide +kernel
theorem dL_setSetup_13 : decode cL_setSetup 13 = .ok (.astore 4, 2) := by decide +kernel
theorem dL_setSetup_15 : decode cL_setSetup 15 = .ok (.iconst 1, 1) := by decide +kernel
theorem dL_setSetup_16 : decode cL_setSetup 16 = .ok (.ireturn, 1) := by decide +kernel
theorem dL_setSetup_17 : decode cL_setSetup 17 = .ok (.astore 4, 2) := by decide +kernel
theorem dL_setSetup_19 : decode cL_setSetup 19 = .ok (.iconst 2, 1) := by decide +kernel
theorem dL_setSetup_20 : decode cL_setSetup 20 = .ok (.ireturn, 1) := by decide +kernel
theorem dL_setSetup_21 : decode cL_setSetup 21 = .ok (.iconst 0, 1) := by decide +kernel
theorem dL_setSetup_22 : decode cL_setSetup 22 = .ok (.ireturn, 1) := by decide +kernel
theorem dL_planByDueDates_0 : decode cL_planByDueDates 0 = .ok (.aload_n 1, 1) := by decide +kernel
theorem dL_planByDueDates_1 : decode cL_planByDueDates 1 = .ok (.iconst 0, 1) := by decide +kernel
theorem dL_planByDueDates_2 : decode cL_planByDueDates 2 = .ok (.aload_n 0, 1) := by decide +kernel
theorem dL_planByDueDates_3 : decode cL_planByDueDates 3 = .ok (.invokevirtual 31, 3) := by decide +kernel
theorem dL_planByDueDates_6 : decode cL_planByDueDates 6 = .ok (.i2l, 1) := by decide +kernel
theorem dL_planByDueDates_7 : decode cL_planByDueDates 7 = .ok (.lastore, 1) := by decide +kernel
theorem dL_planByDueDates_8 : decode cL_planByDueDates 8 = .ok (.goto 6, 3) := by decide +kernel
theorem dL_planByDueDates_11 : decode cL_planByDueDates 11 = .ok (.astore_n 2, 1) := by decide +kernel
theorem dL_planByDueDates_12 : decode cL_planByDueDates 12 = .ok (.iconst 1, 1) := by decide +kernel
theorem dL_planByDueDates_13 : decode cL_planByDueDates 13 = .ok (.ireturn, 1) := by decide +kernel
theorem dL_planByDueDates_14 : decode cL_planByDueDates 14 = .ok (.iconst 0, 1) := by decide +kernel
theorem dL_planByDueDates_15 : decode cL_planByDueDates 15 = .ok (.ireturn, 1) := by decide +kernel
theorem dL_planFewestLate_0 : decode cL_planFewestLate 0 = .ok (.aload_n 1, 1) := by decide +kernel
theorem dL_planFewestLate_1 : decode cL_planFewestLate 1 = .ok (.iconst 0, 1) := by decide +kernel
theorem dL_planFewestLate_2 : decode cL_planFewestLate 2 = .ok (.aload_n 0, 1) := by decide +kernel
theorem dL_planFewestLate_3 : decode cL_planFewestLate 3 = .ok (.invokevirtual 35, 3) := by decide +kernel
theorem dL_planFewestLate_6 : decode cL_planFewestLate 6 = .ok (.i2l, 1) := by decide +kernel
theorem dL_planFewestLate_7 : decode cL_planFewestLate 7 = .ok (.lastore, 1) := by decide +kernel
theorem dL_planFewestLate_8 : decode cL_planFewestLate 8 = .ok (.goto 6, 3) := by decide +kernel
theorem dL_planFewestLate_11 : decode cL_planFewestLate 11 = .ok (.astore_n 2, 1) := by decide +kernel
theorem dL_planFewestLate_12 : decode cL_planFewestLate 12 = .ok (.iconst 1, 1) := by decide +kernel
theorem dL_planFewestLate_13 : decode cL_planFewestLate 13 = .ok (.ireturn, 1) := by decide +kernel
theorem dL_planFewestLate_14 : decode cL_planFewestLate 14 = .ok (.iconst 0, 1) := by decide +kernel
theorem dL_planFewestLate_15 : decode cL_planFewestLate 15 = .ok (.ireturn, 1) := by decide +kernel
theorem dL_planByRatios_0 : decode cL_planByRatios 0 = .ok (.aload_n 1, 1) := by decide +kernel
theorem dL_planByRatios_1 : decode cL_planByRatios 1 = .ok (.iconst 0, 1) := by decide +kernel
theorem dL_planByRatios_2 : decode cL_planByRatios 2 = .ok (.aload_n 0, 1) := by decide +kernel
theorem dL_planByRatios_3 : decode cL_planByRatios 3 = .ok (.invokevirtual 38, 3) := by decide +kernel
theorem dL_planByRatios_6 : decode cL_planByRatios 6 = .ok (.i2l, 1) := by decide +kernel
theorem dL_planByRatios_7 : decode cL_planByRatios 7 = .ok (.lastore, 1) := by decide +kernel
theorem dL_planByRatios_8 : decode cL_planByRatios 8 = .ok (.goto 6, 3) := by decide +kernel
theorem dL_planByRatios_11 : decode cL_planByRatios 11 = .ok (.astore_n 2, 1) := by decide +kernel
theorem dL_planByRatios_12 : decode cL_planByRatios 12 = .ok (.iconst 1, 1) := by decide +kernel
theorem dL_planByRatios_13 : decode cL_planByRatios 13 = .ok (.ireturn, 1) := by decide +kernel
theorem dL_planByRatios_14 : decode cL_planByRatios 14 = .ok (.iconst 0, 1) := by decide +kernel
theorem dL_planByRatios_15 : decode cL_planByRatios 15 = .ok (.ireturn, 1) := by decide +kernel
theorem dL_planLeastTardiness_0 : decode cL_planLeastTardiness 0 = .ok (.aload_n 1, 1) := by decide +kernel
theorem dL_planLeastTardiness_1 : decode cL_planLeastTardiness 1 = .ok (.iconst 0, 1) := by decide +kernel
theorem dL_planLeastTardiness_2 : decode cL_planLeastTardiness 2 = .ok (.aload_n 0, 1) := by decide +kernel
theorem dL_planLeastTardiness_3 : decode cL_planLeastTardiness 3 = .ok (.invokevirtual 41, 3) := by decide +kernel
theorem dL_planLeastTardiness_6 : decode cL_planLeastTardiness 6 = .ok (.i2l, 1) := by decide +kernel
theorem dL_planLeastTardiness_7 : decode cL_planLeastTardiness 7 = .ok (.lastore, 1) := by decide +kernel
theorem dL_planLeastTardiness_8 : decode cL_planLeastTardiness 8 = .ok (.goto 6, 3) := by decide +kernel
theorem dL_planLeastTardiness_11 : decode cL_planLeastTardiness 11 = .ok (.astore_n 2, 1) := by decide +kernel
theorem dL_planLeastTardiness_12 : decode cL_planLeastTardiness 12 = .ok (.iconst 1, 1) := by decide +kernel
theorem dL_planLeastTardiness_13 : decode cL_planLeastTardiness 13 = .ok (.ireturn, 1) := by decide +kernel
theorem dL_planLeastTardiness_14 : decode cL_planLeastTardiness 14 = .ok (.iconst 0, 1) := by decide +kernel
theorem dL_planLeastTardiness_15 : decode cL_planLeastTardiness 15 = .ok (.ireturn, 1) := by decide +kernel
theorem dL_planByFamilies_0 : decode cL_planByFamilies 0 = .ok (.aload_n 1, 1) := by decide +kernel
theorem dL_planByFamilies_1 : decode cL_planByFamilies 1 = .ok (.iconst 0, 1) := by decide +kernel
theorem dL_planByFamilies_2 : decode cL_planByFamilies 2 = .ok (.aload_n 0, 1) := by decide +kernel
theorem dL_planByFamilies_3 : decode cL_planByFamilies 3 = .ok (.invokevirtual 44, 3) := by decide +kernel
theorem dL_planByFamilies_6 : decode cL_planByFamilies 6 = .ok (.i2l, 1) := by decide +kernel
theorem dL_planByFamilies_7 : decode cL_planByFamilies 7 = .ok (.lastore, 1) := by decide +kernel
theorem dL_planByFamilies_8 : decode cL_planByFamilies 8 = .ok (.goto 6, 3) := by decide +kernel
theorem dL_planByFamilies_11 : decode cL_planByFamilies 11 = .ok (.astore_n 2, 1) := by decide +kernel
theorem dL_planByFamilies_12 : decode cL_planByFamilies 12 = .ok (.iconst 1, 1) := by decide +kernel
theorem dL_planByFamilies_13 : decode cL_planByFamilies 13 = .ok (.ireturn, 1) := by decide +kernel
theorem dL_planByFamilies_14 : decode cL_planByFamilies 14 = .ok (.iconst 0, 1) := by decide +kernel
theorem dL_planByFamilies_15 : decode cL_planByFamilies 15 = .ok (.ireturn, 1) := by decide +kernel
theorem dL_planPreemptiveByDates_0 : decode cL_planPreemptiveByDates 0 = .ok (.aload_n 1, 1) := by decide +kernel
theorem dL_planPreemptiveByDates_1 : decode cL_planPreemptiveByDates 1 = .ok (.iconst 0, 1) := by decide +kernel
theorem dL_planPreemptiveByDates_2 : decode cL_planPreemptiveByDates 2 = .ok (.aload_n 0, 1) := by decide +kernel
theorem dL_planPreemptiveByDates_3 : decode cL_planPreemptiveByDates 3 = .ok (.invokevirtual 47, 3) := by decide +kernel
theorem dL_planPreemptiveByDates_6 : decode cL_planPreemptiveByDates 6 = .ok (.i2l, 1) := by decide +kernel
theorem dL_planPreemptiveByDates_7 : decode cL_planPreemptiveByDates 7 = .ok (.lastore, 1) := by decide +kernel
theorem dL_planPreemptiveByDates_8 : decode cL_planPreemptiveByDates 8 = .ok (.goto 6, 3) := by decide +kernel
theorem dL_planPreemptiveByDates_11 : decode cL_planPreemptiveByDates 11 = .ok (.astore_n 2, 1) := by decide +kernel
theorem dL_planPreemptiveByDates_12 : decode cL_planPreemptiveByDates 12 = .ok (.iconst 1, 1) := by decide +kernel
theorem dL_planPreemptiveByDates_13 : decode cL_planPreemptiveByDates 13 = .ok (.ireturn, 1) := by decide +kernel
theorem dL_planPreemptiveByDates_14 : decode cL_planPreemptiveByDates 14 = .ok (.iconst 0, 1) := by decide +kernel
theorem dL_planPreemptiveByDates_15 : decode cL_planPreemptiveByDates 15 = .ok (.ireturn, 1) := by decide +kernel
theorem dL_planPreemptiveShortest_0 : decode cL_planPreemptiveShortest 0 = .ok (.aload_n 1, 1) := by decide +kernel
theorem dL_planPreemptiveShortest_1 : decode cL_planPreemptiveShortest 1 = .ok (.iconst 0, 1) := by decide +kernel
theorem dL_planPreemptiveShortest_2 : decode cL_planPreemptiveShortest 2 = .ok (.aload_n 0, 1) := by decide +kernel
theorem dL_planPreemptiveShortest_3 : decode cL_planPreemptiveShortest 3 = .ok (.invokevirtual 50, 3) := by decide +kernel
theorem dL_planPreemptiveShortest_6 : decode cL_planPreemptiveShortest 6 = .ok (.i2l, 1) := by decide +kernel
theorem dL_planPreemptiveShortest_7 : decode cL_planPreemptiveShortest 7 = .ok (.lastore, 1) := by decide +kernel
theorem dL_planPreemptiveShortest_8 : decode cL_planPreemptiveShortest 8 = .ok (.goto 6, 3) := by decide +kernel
theorem dL_planPreemptiveShortest_11 : decode cL_planPreemptiveShortest 11 = .ok (.astore_n 2, 1) := by decide +kernel
theorem dL_planPreemptiveShortest_12 : decode cL_planPreemptiveShortest 12 = .ok (.iconst 1, 1) := by decide +kernel
theorem dL_planPreemptiveShortest_13 : decode cL_planPreemptiveShortest 13 = .ok (.ireturn, 1) := by decide +kernel
theorem dL_planPreemptiveShortest_14 : decode cL_planPreemptiveShortest 14 = .ok (.iconst 0, 1) := by decide +kernel
theorem dL_planPreemptiveShortest_15 : decode cL_planPreemptiveShortest 15 = .ok (.ireturn, 1) := by decide +kernel
theorem dL_kindOf_0 : decode cL_kindOf 0 = .ok (.aload_n 2, 1) := by decide +kernel
theorem dL_kindOf_1 : decode cL_kindOf 1 = .ok (.iconst 0, 1) := by decide +kernel
theorem dL_kindOf_2 : decode cL_kindOf 2 = .ok (.aload_n 0, 1) := by decide +kernel
theorem dL_kindOf_3 : decode cL_kindOf 3 = .ok (.iload_n 1, 1) := by decide +kernel
theorem dL_kindOf_4 : decode cL_kindOf 4 = .ok (.invokevirtual 53, 3) := by decide +kernel
theorem dL_kindOf_7 : decode cL_kindOf 7 = .ok (.i2l, 1) := by decide +kernel
theorem dL_kindOf_8 : decode cL_kindOf 8 = .ok (.lastore, 1) := by decide +kernel
theorem dL_kindOf_9 : decode cL_kindOf 9 = .ok (.goto 6, 3) := by decide +kernel
theorem dL_kindOf_12 : decode cL_kindOf 12 = .ok (.astore_n 3, 1) := by decide +kernel
theorem dL_kindOf_13 : decode cL_kindOf 13 = .ok (.iconst 1, 1) := by decide +kernel
theorem dL_kindOf_14 : decode cL_kindOf 14 = .ok (.ireturn, 1) := by decide +kernel
theorem dL_kindOf_15 : decode cL_kindOf 15 = .ok (.iconst 0, 1) := by decide +kernel
theorem dL_kindOf_16 : decode cL_kindOf 16 = .ok (.ireturn, 1) := by decide +kernel
theorem dL_whoseIs_0 : decode cL_whoseIs 0 = .ok (.aload_n 2, 1) := by decide +kernel
theorem dL_whoseIs_1 : decode cL_whoseIs 1 = .ok (.iconst 0, 1) := by decide +kernel
theorem dL_whoseIs_2 : decode cL_whoseIs 2 = .ok (.aload_n 0, 1) := by decide +kernel
theorem dL_whoseIs_3 : decode cL_whoseIs 3 = .ok (.iload_n 1, 1) := by decide +kernel
theorem dL_whoseIs_4 : decode cL_whoseIs 4 = .ok (.invokevirtual 56, 3) := by decide +kernel
theorem dL_whoseIs_7 : decode cL_whoseIs 7 = .ok (.i2l, 1) := by decide +kernel
theorem dL_whoseIs_8 : decode cL_whoseIs 8 = .ok (.lastore, 1) := by decide +kernel
theorem dL_whoseIs_9 : decode cL_whoseIs 9 = .ok (.goto 6, 3) := by decide +kernel
theorem dL_whoseIs_12 : decode cL_whoseIs 12 = .ok (.astore_n 3, 1) := by decide +kernel
theorem dL_whoseIs_13 : decode cL_whoseIs 13 = .ok (.iconst 1, 1) := by decide +kernel
theorem dL_whoseIs_14 : decode cL_whoseIs 14 = .ok (.ireturn, 1) := by decide +kernel
theorem dL_whoseIs_15 : decode cL_whoseIs 15 = .ok (.iconst 0, 1) := by decide +kernel
theorem dL_whoseIs_16 : decode cL_whoseIs 16 = .ok (.ireturn, 1) := by decide +kernel
theorem dL_startOf_0 : decode cL_startOf 0 = .ok (.aload_n 2, 1) := by decide +kernel
theorem dL_startOf_1 : decode cL_startOf 1 = .ok (.iconst 0, 1) := by decide +kernel
theorem dL_startOf_2 : decode cL_startOf 2 = .ok (.aload_n 0, 1) := by decide +kernel
theorem dL_startOf_3 : decode cL_startOf 3 = .ok (.iload_n 1, 1) := by decide +kernel
theorem dL_startOf_4 : decode cL_startOf 4 = .ok (.invokevirtual 59, 3) := by decide +kernel
theorem dL_startOf_7 : decode cL_startOf 7 = .ok (.i2l, 1) := by decide +kernel
theorem dL_startOf_8 : decode cL_startOf 8 = .ok (.lastore, 1) := by decide +kernel
theorem dL_startOf_9 : decode cL_startOf 9 = .ok (.goto 6, 3) := by decide +kernel
theorem dL_startOf_12 : decode cL_startOf 12 = .ok (.astore_n 3, 1) := by decide +kernel
theorem dL_startOf_13 : decode cL_startOf 13 = .ok (.iconst 1, 1) := by decide +kernel
theorem dL_startOf_14 : decode cL_startOf 14 = .ok (.ireturn, 1) := by decide +kernel
theorem dL_startOf_15 : decode cL_startOf 15 = .ok (.iconst 0, 1) := by decide +kernel
theorem dL_startOf_16 : decode cL_startOf 16 = .ok (.ireturn, 1) := by decide +kernel
theorem dL_endOf_0 : decode cL_endOf 0 = .ok (.aload_n 2, 1) := by decide +kernel
theorem dL_endOf_1 : decode cL_endOf 1 = .ok (.iconst 0, 1) := by decide +kernel
theorem dL_endOf_2 : decode cL_endOf 2 = .ok (.aload_n 0, 1) := by decide +kernel
theorem dL_endOf_3 : decode cL_endOf 3 = .ok (.iload_n 1, 1) := by decide +kernel
theorem dL_endOf_4 : decode cL_endOf 4 = .ok (.invokevirtual 62, 3) := by decide +kernel
theorem dL_endOf_7 : decode cL_endOf 7 = .ok (.i2l, 1) := by decide +kernel
theorem dL_endOf_8 : decode cL_endOf 8 = .ok (.lastore, 1) := by decide +kernel
theorem dL_endOf_9 : decode cL_endOf 9 = .ok (.goto 6, 3) := by decide +kernel
theorem dL_endOf_12 : decode cL_endOf 12 = .ok (.astore_n 3, 1) := by decide +kernel
theorem dL_endOf_13 : decode cL_endOf 13 = .ok (.iconst 1, 1) := by decide +kernel
theorem dL_endOf_14 : decode cL_endOf 14 = .ok (.ireturn, 1) := by decide +kernel
theorem dL_endOf_15 : decode cL_endOf 15 = .ok (.iconst 0, 1) := by decide +kernel
theorem dL_endOf_16 : decode cL_endOf 16 = .ok (.ireturn, 1) := by decide +kernel
theorem dL_completion_0 : decode cL_completion 0 = .ok (.aload_n 2, 1) := by decide +kernel
theorem dL_completion_1 : decode cL_completion 1 = .ok (.iconst 0, 1) := by decide +kernel
theorem dL_completion_2 : decode cL_completion 2 = .ok (.aload_n 0, 1) := by decide +kernel
theorem dL_completion_3 : decode cL_completion 3 = .ok (.iload_n 1, 1) := by decide +kernel
theorem dL_completion_4 : decode cL_completion 4 = .ok (.invokevirtual 65, 3) := by decide +kernel
theorem dL_completion_7 : decode cL_completion 7 = .ok (.i2l, 1) := by decide +kernel
theorem dL_completion_8 : decode cL_completion 8 = .ok (.lastore, 1) := by decide +kernel
theorem dL_completion_9 : decode cL_completion 9 = .ok (.goto 9, 3) := by decide +kernel
theorem dL_completion_12 : decode cL_completion 12 = .ok (.astore_n 3, 1) := by decide +kernel
theorem dL_completion_13 : decode cL_completion 13 = .ok (.iconst 1, 1) := by decide +kernel
theorem dL_completion_14 : decode cL_completion 14 = .ok (.ireturn, 1) := by decide +kernel
theorem dL_completion_15 : decode cL_completion 15 = .ok (.astore_n 3, 1) := by decide +kernel
theorem dL_completion_16 : decode cL_completion 16 = .ok (.iconst 2, 1) := by decide +kernel
theorem dL_completion_17 : decode cL_completion 17 = .ok (.ireturn, 1) := by decide +kernel
theorem dL_completion_18 : decode cL_completion 18 = .ok (.iconst 0, 1) := by decide +kernel
theorem dL_completion_19 : decode cL_completion 19 = .ok (.ireturn, 1) := by decide +kernel
theorem dL_lateness_0 : decode cL_lateness 0 = .ok (.aload_n 2, 1) := by decide +kernel
theorem dL_lateness_1 : decode cL_lateness 1 = .ok (.iconst 0, 1) := by decide +kernel
theorem dL_lateness_2 : decode cL_lateness 2 = .ok (.aload_n 0, 1) := by decide +kernel
theorem dL_lateness_3 : decode cL_lateness 3 = .ok (.iload_n 1, 1) := by decide +kernel
theorem dL_lateness_4 : decode cL_lateness 4 = .ok (.invokevirtual 68, 3) := by decide +kernel
theorem dL_lateness_7 : decode cL_lateness 7 = .ok (.i2l, 1) := by decide +kernel
theorem dL_lateness_8 : decode cL_lateness 8 = .ok (.lastore, 1) := by decide +kernel
theorem dL_lateness_9 : decode cL_lateness 9 = .ok (.goto 9, 3) := by decide +kernel
theorem dL_lateness_12 : decode cL_lateness 12 = .ok (.astore_n 3, 1) := by decide +kernel
theorem dL_lateness_13 : decode cL_lateness 13 = .ok (.iconst 1, 1) := by decide +kernel
theorem dL_lateness_14 : decode cL_lateness 14 = .ok (.ireturn, 1) := by decide +kernel
theorem dL_lateness_15 : decode cL_lateness 15 = .ok (.astore_n 3, 1) := by decide +kernel
theorem dL_lateness_16 : decode cL_lateness 16 = .ok (.iconst 2, 1) := by decide +kernel
theorem dL_lateness_17 : decode cL_lateness 17 = .ok (.ireturn, 1) := by decide +kernel
theorem dL_lateness_18 : decode cL_lateness 18 = .ok (.iconst 0, 1) := by decide +kernel
theorem dL_lateness_19 : decode cL_lateness 19 = .ok (.ireturn, 1) := by decide +kernel
theorem dL_maxLateness_0 : decode cL_maxLateness 0 = .ok (.aload_n 1, 1) := by decide +kernel
theorem dL_maxLateness_1 : decode cL_maxLateness 1 = .ok (.iconst 0, 1) := by decide +kernel
theorem dL_maxLateness_2 : decode cL_maxLateness 2 = .ok (.aload_n 0, 1) := by decide +kernel
theorem dL_maxLateness_3 : decode cL_maxLateness 3 = .ok (.invokevirtual 71, 3) := by decide +kernel
theorem dL_maxLateness_6 : decode cL_maxLateness 6 = .ok (.i2l, 1) := by decide +kernel
theorem dL_maxLateness_7 : decode cL_maxLateness 7 = .ok (.lastore, 1) := by decide +kernel
theorem dL_maxLateness_8 : decode cL_maxLateness 8 = .ok (.goto 6, 3) := by decide +kernel
theorem dL_maxLateness_11 : decode cL_maxLateness 11 = .ok (.astore_n 2, 1) := by decide +kernel
theorem dL_maxLateness_12 : decode cL_maxLateness 12 = .ok (.iconst 1, 1) := by decide +kernel
theorem dL_maxLateness_13 : decode cL_maxLateness 13 = .ok (.ireturn, 1) := by decide +kernel
theorem dL_maxLateness_14 : decode cL_maxLateness 14 = .ok (.iconst 0, 1) := by decide +kernel
theorem dL_maxLateness_15 : decode cL_maxLateness 15 = .ok (.ireturn, 1) := by decide +kernel
theorem dL_lateJobs_0 : decode cL_lateJobs 0 = .ok (.aload_n 1, 1) := by decide +kernel
theorem dL_lateJobs_1 : decode cL_lateJobs 1 = .ok (.iconst 0, 1) := by decide +kernel
theorem dL_lateJobs_2 : decode cL_lateJobs 2 = .ok (.aload_n 0, 1) := by decide +kernel
theorem dL_lateJobs_3 : decode cL_lateJobs 3 = .ok (.invokevirtual 74, 3) := by decide +kernel
theorem dL_lateJobs_6 : decode cL_lateJobs 6 = .ok (.i2l, 1) := by decide +kernel
theorem dL_lateJobs_7 : decode cL_lateJobs 7 = .ok (.lastore, 1) := by decide +kernel
theorem dL_lateJobs_8 : decode cL_lateJobs 8 = .ok (.goto 6, 3) := by decide +kernel
theorem dL_lateJobs_11 : decode cL_lateJobs 11 = .ok (.astore_n 2, 1) := by decide +kernel
theorem dL_lateJobs_12 : decode cL_lateJobs 12 = .ok (.iconst 1, 1) := by decide +kernel
theorem dL_lateJobs_13 : decode cL_lateJobs 13 = .ok (.ireturn, 1) := by decide +kernel
theorem dL_lateJobs_14 : decode cL_lateJobs 14 = .ok (.iconst 0, 1) := by decide +kernel
theorem dL_lateJobs_15 : decode cL_lateJobs 15 = .ok (.ireturn, 1) := by decide +kernel
theorem dL_completions_0 : decode cL_completions 0 = .ok (.aload_n 1, 1) := by decide +kernel
theorem dL_completions_1 : decode cL_completions 1 = .ok (.iconst 0, 1) := by decide +kernel
theorem dL_completions_2 : decode cL_completions 2 = .ok (.aload_n 0, 1) := by decide +kernel
theorem dL_completions_3 : decode cL_completions 3 = .ok (.invokevirtual 77, 3) := by decide +kernel
theorem dL_completions_6 : decode cL_completions 6 = .ok (.i2l, 1) := by decide +kernel
theorem dL_completions_7 : decode cL_completions 7 = .ok (.lastore, 1) := by decide +kernel
theorem dL_completions_8 : decode cL_completions 8 = .ok (.goto 6, 3) := by decide +kernel
theorem dL_completions_11 : decode cL_completions 11 = .ok (.astore_n 2, 1) := by decide +kernel
theorem dL_completions_12 : decode cL_completions 12 = .ok (.iconst 1, 1) := by decide +kernel
theorem dL_completions_13 : decode cL_completions 13 = .ok (.ireturn, 1) := by decide +kernel
theorem dL_completions_14 : decode cL_completions 14 = .ok (.iconst 0, 1) := by decide +kernel
theorem dL_completions_15 : decode cL_completions 15 = .ok (.ireturn, 1) := by decide +kernel
theorem dL_weightedCompletions_0 : decode cL_weightedCompletions 0 = .ok (.aload_n 1, 1) := by decide +kernel
theorem dL_weightedCompletions_1 : decode cL_weightedCompletions 1 = .ok (.iconst 0, 1) := by decide +kernel
theorem dL_weightedCompletions_2 : decode cL_weightedCompletions 2 = .ok (.aload_n 0, 1) := by decide +kernel
theorem dL_weightedCompletions_3 : decode cL_weightedCompletions 3 = .ok (.invokevirtual 80, 3) := by decide +kernel
theorem dL_weightedCompletions_6 : decode cL_weightedCompletions 6 = .ok (.i2l, 1) := by decide +kernel
theorem dL_weightedCompletions_7 : decode cL_weightedCompletions 7 = .ok (.lastore, 1) := by decide +kernel
theorem dL_weightedCompletions_8 : decode cL_weightedCompletions 8 = .ok (.goto 6, 3) := by decide +kernel
theorem dL_weightedCompletions_11 : decode cL_weightedCompletions 11 = .ok (.astore_n 2, 1) := by decide +kernel
theorem dL_weightedCompletions_12 : decode cL_weightedCompletions 12 = .ok (.iconst 1, 1) := by decide +kernel
theorem dL_weightedCompletions_13 : decode cL_weightedCompletions 13 = .ok (.ireturn, 1) := by decide +kernel
theorem dL_weightedCompletions_14 : decode cL_weightedCompletions 14 = .ok (.iconst 0, 1) := by decide +kernel
theorem dL_weightedCompletions_15 : decode cL_weightedCompletions 15 = .ok (.ireturn, 1) := by decide +kernel
theorem dL_weightedTardiness_0 : decode cL_weightedTardiness 0 = .ok (.aload_n 1, 1) := by decide +kernel
theorem dL_weightedTardiness_1 : decode cL_weightedTardiness 1 = .ok (.iconst 0, 1) := by decide +kernel
theorem dL_weightedTardiness_2 : decode cL_weightedTardiness 2 = .ok (.aload_n 0, 1) := by decide +kernel
theorem dL_weightedTardiness_3 : decode cL_weightedTardiness 3 = .ok (.invokevirtual 83, 3) := by decide +kernel
theorem dL_weightedTardiness_6 : decode cL_weightedTardiness 6 = .ok (.i2l, 1) := by decide +kernel
theorem dL_weightedTardiness_7 : decode cL_weightedTardiness 7 = .ok (.lastore, 1) := by decide +kernel
theorem dL_weightedTardiness_8 : decode cL_weightedTardiness 8 = .ok (.goto 6, 3) := by decide +kernel
theorem dL_weightedTardiness_11 : decode cL_weightedTardiness 11 = .ok (.astore_n 2, 1) := by decide +kernel
theorem dL_weightedTardiness_12 : decode cL_weightedTardiness 12 = .ok (.iconst 1, 1) := by decide +kernel
theorem dL_weightedTardiness_13 : decode cL_weightedTardiness 13 = .ok (.ireturn, 1) := by decide +kernel
theorem dL_weightedTardiness_14 : decode cL_weightedTardiness 14 = .ok (.iconst 0, 1) := by decide +kernel
theorem dL_weightedTardiness_15 : decode cL_weightedTardiness 15 = .ok (.ireturn, 1) := by decide +kernel
theorem dL_leastLateness_0 : decode cL_leastLateness 0 = .ok (.aload_n 1, 1) := by decide +kernel
theorem dL_leastLateness_1 : decode cL_leastLateness 1 = .ok (.iconst 0, 1) := by decide +kernel
theorem dL_leastLateness_2 : decode cL_leastLateness 2 = .ok (.aload_n 0, 1) := by decide +kernel
theorem dL_leastLateness_3 : decode cL_leastLateness 3 = .ok (.invokevirtual 86, 3) := by decide +kernel
theorem dL_leastLateness_6 : decode cL_leastLateness 6 = .ok (.i2l, 1) := by decide +kernel
theorem dL_leastLateness_7 : decode cL_leastLateness 7 = .ok (.lastore, 1) := by decide +kernel
theorem dL_leastLateness_8 : decode cL_leastLateness 8 = .ok (.goto 6, 3) := by decide +kernel
theorem dL_leastLateness_11 : decode cL_leastLateness 11 = .ok (.astore_n 2, 1) := by decide +kernel
theorem dL_leastLateness_12 : decode cL_leastLateness 12 = .ok (.iconst 1, 1) := by decide +kernel
theorem dL_leastLateness_13 : decode cL_leastLateness 13 = .ok (.ireturn, 1) := by decide +kernel
theorem dL_leastLateness_14 : decode cL_leastLateness 14 = .ok (.iconst 0, 1) := by decide +kernel
theorem dL_leastLateness_15 : decode cL_leastLateness 15 = .ok (.ireturn, 1) := by decide +kernel
theorem dL_leastCompletions_0 : decode cL_leastCompletions 0 = .ok (.aload_n 1, 1) := by decide +kernel
theorem dL_leastCompletions_1 : decode cL_leastCompletions 1 = .ok (.iconst 0, 1) := by decide +kernel
theorem dL_leastCompletions_2 : decode cL_leastCompletions 2 = .ok (.aload_n 0, 1) := by decide +kernel
theorem dL_leastCompletions_3 : decode cL_leastCompletions 3 = .ok (.invokevirtual 89, 3) := by decide +kernel
theorem dL_leastCompletions_6 : decode cL_leastCompletions 6 = .ok (.i2l, 1) := by decide +kernel
theorem dL_leastCompletions_7 : decode cL_leastCompletions 7 = .ok (.lastore, 1) := by decide +kernel
theorem dL_leastCompletions_8 : decode cL_leastCompletions 8 = .ok (.goto 6, 3) := by decide +kernel
theorem dL_leastCompletions_11 : decode cL_leastCompletions 11 = .ok (.astore_n 2, 1) := by decide +kernel
theorem dL_leastCompletions_12 : decode cL_leastCompletions 12 = .ok (.iconst 1, 1) := by decide +kernel
theorem dL_leastCompletions_13 : decode cL_leastCompletions 13 = .ok (.ireturn, 1) := by decide +kernel
theorem dL_leastCompletions_14 : decode cL_leastCompletions 14 = .ok (.iconst 0, 1) := by decide +kernel
theorem dL_leastCompletions_15 : decode cL_leastCompletions 15 = .ok (.ireturn, 1) := by decide +kernel
theorem dL_leastTardiness_0 : decode cL_leastTardiness 0 = .ok (.aload_n 1, 1) := by decide +kernel
theorem dL_leastTardiness_1 : decode cL_leastTardiness 1 = .ok (.iconst 0, 1) := by decide +kernel
theorem dL_leastTardiness_2 : decode cL_leastTardiness 2 = .ok (.aload_n 0, 1) := by decide +kernel
theorem dL_leastTardiness_3 : decode cL_leastTardiness 3 = .ok (.invokevirtual 92, 3) := by decide +kernel
theorem dL_leastTardiness_6 : decode cL_leastTardiness 6 = .ok (.i2l, 1) := by decide +kernel
theorem dL_leastTardiness_7 : decode cL_leastTardiness 7 = .ok (.lastore, 1) := by decide +kernel
theorem dL_leastTardiness_8 : decode cL_leastTardiness 8 = .ok (.goto 6, 3) := by decide +kernel
theorem dL_leastTardiness_11 : decode cL_leastTardiness 11 = .ok (.astore_n 2, 1) := by decide +kernel
theorem dL_leastTardiness_12 : decode cL_leastTardiness 12 = .ok (.iconst 1, 1) := by decide +kernel
theorem dL_leastTardiness_13 : decode cL_leastTardiness 13 = .ok (.ireturn, 1) := by decide +kernel
theorem dL_leastTardiness_14 : decode cL_leastTardiness 14 = .ok (.iconst 0, 1) := by decide +kernel
theorem dL_leastTardiness_15 : decode cL_leastTardiness 15 = .ok (.ireturn, 1) := by decide +kernel
theorem dL_leastWithSetups_0 : decode cL_leastWithSetups 0 = .ok (.aload_n 1, 1) := by decide +kernel
theorem dL_leastWithSetups_1 : decode cL_leastWithSetups 1 = .ok (.iconst 0, 1) := by decide +kernel
theorem dL_leastWithSetups_2 : decode cL_leastWithSetups 2 = .ok (.aload_n 0, 1) := by decide +kernel
theorem dL_leastWithSetups_3 : decode cL_leastWithSetups 3 = .ok (.invokevirtual 95, 3) := by decide +kernel
theorem dL_leastWithSetups_6 : decode cL_leastWithSetups 6 = .ok (.i2l, 1) := by decide +kernel
theorem dL_leastWithSetups_7 : decode cL_leastWithSetups 7 = .ok (.lastore, 1) := by decide +kernel
theorem dL_leastWithSetups_8 : decode cL_leastWithSetups 8 = .ok (.goto 6, 3) := by decide +kernel
theorem dL_leastWithSetups_11 : decode cL_leastWithSetups 11 = .ok (.astore_n 2, 1) := by decide +kernel
theorem dL_leastWithSetups_12 : decode cL_leastWithSetups 12 = .ok (.iconst 1, 1) := by decide +kernel
theorem dL_leastWithSetups_13 : decode cL_leastWithSetups 13 = .ok (.ireturn, 1) := by decide +kernel
theorem dL_leastWithSetups_14 : decode cL_leastWithSetups 14 = .ok (.iconst 0, 1) := by decide +kernel
theorem dL_leastWithSetups_15 : decode cL_leastWithSetups 15 = .ok (.ireturn, 1) := by decide +kernel
theorem dL_leastPreemptiveLateness_0 : decode cL_leastPreemptiveLateness 0 = .ok (.aload_n 1, 1) := by decide +kernel
theorem dL_leastPreemptiveLateness_1 : decode cL_leastPreemptiveLateness 1 = .ok (.iconst 0, 1) := by decide +kernel
theorem dL_leastPreemptiveLateness_2 : decode cL_leastPreemptiveLateness 2 = .ok (.aload_n 0, 1) := by decide +kernel
theorem dL_leastPreemptiveLateness_3 : decode cL_leastPreemptiveLateness 3 = .ok (.invokevirtual 98, 3) := by decide +kernel
theorem dL_leastPreemptiveLateness_6 : decode cL_leastPreemptiveLateness 6 = .ok (.i2l, 1) := by decide +kernel
theorem dL_leastPreemptiveLateness_7 : decode cL_leastPreemptiveLateness 7 = .ok (.lastore, 1) := by decide +kernel
theorem dL_leastPreemptiveLateness_8 : decode cL_leastPreemptiveLateness 8 = .ok (.goto 6, 3) := by decide +kernel
theorem dL_leastPreemptiveLateness_11 : decode cL_leastPreemptiveLateness 11 = .ok (.astore_n 2, 1) := by decide +kernel
theorem dL_leastPreemptiveLateness_12 : decode cL_leastPreemptiveLateness 12 = .ok (.iconst 1, 1) := by decide +kernel
theorem dL_leastPreemptiveLateness_13 : decode cL_leastPreemptiveLateness 13 = .ok (.ireturn, 1) := by decide +kernel
theorem dL_leastPreemptiveLateness_14 : decode cL_leastPreemptiveLateness 14 = .ok (.iconst 0, 1) := by decide +kernel
theorem dL_leastPreemptiveLateness_15 : decode cL_leastPreemptiveLateness 15 = .ok (.ireturn, 1) := by decide +kernel
theorem dL_leastPreemptiveCompletions_0 : decode cL_leastPreemptiveCompletions 0 = .ok (.aload_n 1, 1) := by decide +kernel
theorem dL_leastPreemptiveCompletions_1 : decode cL_leastPreemptiveCompletions 1 = .ok (.iconst 0, 1) := by decide +kernel
theorem dL_leastPreemptiveCompletions_2 : decode cL_leastPreemptiveCompletions 2 = .ok (.aload_n 0, 1) := by decide +kernel
theorem dL_leastPreemptiveCompletions_3 : decode cL_leastPreemptiveCompletions 3 = .ok (.invokevirtual 101, 3) := by decide +kernel
theorem dL_leastPreemptiveCompletions_6 : decode cL_leastPreemptiveCompletions 6 = .ok (.i2l, 1) := by decide +kernel
theorem dL_leastPreemptiveCompletions_7 : decode cL_leastPreemptiveCompletions 7 = .ok (.lastore, 1) := by decide +kernel
theorem dL_leastPreemptiveCompletions_8 : decode cL_leastPreemptiveCompletions 8 = .ok (.goto 6, 3) := by decide +kernel
theorem dL_leastPreemptiveCompletions_11 : decode cL_leastPreemptiveCompletions 11 = .ok (.astore_n 2, 1) := by decide +kernel
theorem dL_leastPreemptiveCompletions_12 : decode cL_leastPreemptiveCompletions 12 = .ok (.iconst 1, 1) := by decide +kernel
theorem dL_leastPreemptiveCompletions_13 : decode cL_leastPreemptiveCompletions 13 = .ok (.ireturn, 1) := by decide +kernel
theorem dL_leastPreemptiveCompletions_14 : decode cL_leastPreemptiveCompletions 14 = .ok (.iconst 0, 1) := by decide +kernel
theorem dL_leastPreemptiveCompletions_15 : decode cL_leastPreemptiveCompletions 15 = .ok (.ireturn, 1) := by decide +kernel
theorem dL_canBeOnTime_0 : decode cL_canBeOnTime 0 = .ok (.aload_n 2, 1) := by decide +kernel
theorem dL_canBeOnTime_1 : decode cL_canBeOnTime 1 = .ok (.iconst 0, 1) := by decide +kernel
theorem dL_canBeOnTime_2 : decode cL_canBeOnTime 2 = .ok (.aload_n 0, 1) := by decide +kernel
theorem dL_canBeOnTime_3 : decode cL_canBeOnTime 3 = .ok (.iload_n 1, 1) := by decide +kernel
theorem dL_canBeOnTime_4 : decode cL_canBeOnTime 4 = .ok (.invokevirtual 104, 3) := by decide +kernel
theorem dL_canBeOnTime_7 : decode cL_canBeOnTime 7 = .ok (.ifCond .eq 7, 3) := by decide +kernel
theorem dL_canBeOnTime_10 : decode cL_canBeOnTime 10 = .ok (.lconst 1, 1) := by decide +kernel
theorem dL_canBeOnTime_11 : decode cL_canBeOnTime 11 = .ok (.goto 4, 3) := by decide +kernel
theorem dL_canBeOnTime_14 : decode cL_canBeOnTime 14 = .ok (.lconst 0, 1) := by decide +kernel
theorem dL_canBeOnTime_15 : decode cL_canBeOnTime 15 = .ok (.lastore, 1) := by decide +kernel
theorem dL_canBeOnTime_16 : decode cL_canBeOnTime 16 = .ok (.goto 6, 3) := by decide +kernel
theorem dL_canBeOnTime_19 : decode cL_canBeOnTime 19 = .ok (.astore_n 3, 1) := by decide +kernel
theorem dL_canBeOnTime_20 : decode cL_canBeOnTime 20 = .ok (.iconst 1, 1) := by decide +kernel
theorem dL_canBeOnTime_21 : decode cL_canBeOnTime 21 = .ok (.ireturn, 1) := by decide +kernel
theorem dL_canBeOnTime_22 : decode cL_canBeOnTime 22 = .ok (.iconst 0, 1) := by decide +kernel
theorem dL_canBeOnTime_23 : decode cL_canBeOnTime 23 = .ok (.ireturn, 1) := by decide +kernel
theorem dL_windowBound_0 : decode cL_windowBound 0 = .ok (.aload_n 2, 1) := by decide +kernel
theorem dL_windowBound_1 : decode cL_windowBound 1 = .ok (.iconst 0, 1) := by decide +kernel
theorem dL_windowBound_2 : decode cL_windowBound 2 = .ok (.aload_n 0, 1) := by decide +kernel
theorem dL_windowBound_3 : decode cL_windowBound 3 = .ok (.iload_n 1, 1) := by decide +kernel
theorem dL_windowBound_4 : decode cL_windowBound 4 = .ok (.invokevirtual 108, 3) := by decide +kernel
theorem dL_windowBound_7 : decode cL_windowBound 7 = .ok (.i2l, 1) := by decide +kernel
theorem dL_windowBound_8 : decode cL_windowBound 8 = .ok (.lastore, 1) := by decide +kernel
theorem dL_windowBound_9 : decode cL_windowBound 9 = .ok (.goto 6, 3) := by decide +kernel
theorem dL_windowBound_12 : decode cL_windowBound 12 = .ok (.astore_n 3, 1) := by decide +kernel
theorem dL_windowBound_13 : decode cL_windowBound 13 = .ok (.iconst 1, 1) := by decide +kernel
theorem dL_windowBound_14 : decode cL_windowBound 14 = .ok (.ireturn, 1) := by decide +kernel
theorem dL_windowBound_15 : decode cL_windowBound 15 = .ok (.iconst 0, 1) := by decide +kernel
theorem dL_windowBound_16 : decode cL_windowBound 16 = .ok (.ireturn, 1) := by decide +kernel
theorem dL_windowDue_0 : decode cL_windowDue 0 = .ok (.aload_n 1, 1) := by decide +kernel
theorem dL_windowDue_1 : decode cL_windowDue 1 = .ok (.iconst 0, 1) := by decide +kernel
theorem dL_windowDue_2 : decode cL_windowDue 2 = .ok (.aload_n 0, 1) := by decide +kernel
theorem dL_windowDue_3 : decode cL_windowDue 3 = .ok (.invokevirtual 112, 3) := by decide +kernel
theorem dL_windowDue_6 : decode cL_windowDue 6 = .ok (.i2l, 1) := by decide +kernel
theorem dL_windowDue_7 : decode cL_windowDue 7 = .ok (.lastore, 1) := by decide +kernel
theorem dL_windowDue_8 : decode cL_windowDue 8 = .ok (.goto 6, 3) := by decide +kernel
theorem dL_windowDue_11 : decode cL_windowDue 11 = .ok (.astore_n 2, 1) := by decide +kernel
theorem dL_windowDue_12 : decode cL_windowDue 12 = .ok (.iconst 1, 1) := by decide +kernel
theorem dL_windowDue_13 : decode cL_windowDue 13 = .ok (.ireturn, 1) := by decide +kernel
theorem dL_windowDue_14 : decode cL_windowDue 14 = .ok (.iconst 0, 1) := by decide +kernel
theorem dL_windowDue_15 : decode cL_windowDue 15 = .ok (.ireturn, 1) := by decide +kernel
theorem dL_windowRelease_0 : decode cL_windowRelease 0 = .ok (.aload_n 1, 1) := by decide +kernel
theorem dL_windowRelease_1 : decode cL_windowRelease 1 = .ok (.iconst 0, 1) := by decide +kernel
theorem dL_windowRelease_2 : decode cL_windowRelease 2 = .ok (.aload_n 0, 1) := by decide +kernel
theorem dL_windowRelease_3 : decode cL_windowRelease 3 = .ok (.invokevirtual 115, 3) := by decide +kernel
theorem dL_windowRelease_6 : decode cL_windowRelease 6 = .ok (.i2l, 1) := by decide +kernel
theorem dL_windowRelease_7 : decode cL_windowRelease 7 = .ok (.lastore, 1) := by decide +kernel
theorem dL_windowRelease_8 : decode cL_windowRelease 8 = .ok (.goto 6, 3) := by decide +kernel
theorem dL_windowRelease_11 : decode cL_windowRelease 11 = .ok (.astore_n 2, 1) := by decide +kernel
theorem dL_windowRelease_12 : decode cL_windowRelease 12 = .ok (.iconst 1, 1) := by decide +kernel
theorem dL_windowRelease_13 : decode cL_windowRelease 13 = .ok (.ireturn, 1) := by decide +kernel
theorem dL_windowRelease_14 : decode cL_windowRelease 14 = .ok (.iconst 0, 1) := by decide +kernel
theorem dL_windowRelease_15 : decode cL_windowRelease 15 = .ok (.ireturn, 1) := by decide +kernel
theorem dL_law_0 : decode cL_law 0 = .ok (.new 8, 3) := by decide +kernel
theorem dL_law_3 : decode cL_law 3 = .ok (.dup, 1) := by decide +kernel
theorem dL_law_4 : decode cL_law 4 = .ok (.invokespecial 118, 3) := by decide +kernel
theorem dL_law_7 : decode cL_law 7 = .ok (.astore_n 1, 1) := by decide +kernel
theorem dL_law_8 : decode cL_law 8 = .ok (.new 119, 3) := by decide +kernel
theorem dL_law_11 : decode cL_law 11 = .ok (.dup, 1) := by decide +kernel
theorem dL_law_12 : decode cL_law 12 = .ok (.invokespecial 121, 3) := by decide +kernel
theorem dL_law_15 : decode cL_law 15 = .ok (.astore_n 2, 1) := by decide +kernel
theorem dL_law_16 : decode cL_law 16 = .ok (.iconst 1, 1) := by decide +kernel
theorem dL_law_17 : decode cL_law 17 = .ok (.newarray .long, 2) := by decide +kernel
theorem dL_law_19 : decode cL_law 19 = .ok (.astore_n 3, 1) := by decide +kernel
theorem dL_law_20 : decode cL_law 20 = .ok (.iconst 0, 1) := by decide +kernel
theorem dL_law_21 : decode cL_law 21 = .ok (.istore 4, 2) := by decide +kernel
theorem dL_law_23 : decode cL_law 23 = .ok (.iload 4, 2) := by decide +kernel
theorem dL_law_25 : decode cL_law 25 = .ok (.aload_n 0, 1) := by decide +kernel
theorem dL_law_26 : decode cL_law 26 = .ok (.arraylength, 1) := by decide +kernel
theorem dL_law_27 : decode cL_law 27 = .ok (.bipush 7, 2) := by decide +kernel
theorem dL_law_29 : decode cL_law 29 = .ok (.isub, 1) := by decide +kernel
theorem dL_law_30 : decode cL_law 30 = .ok (.if_icmp .gt 1905, 3) := by decide +kernel
theorem dL_law_33 : decode cL_law 33 = .ok (.aload_n 0, 1) := by decide +kernel
theorem dL_law_34 : decode cL_law 34 = .ok (.iload 4, 2) := by decide +kernel
theorem dL_law_36 : decode cL_law 36 = .ok (.iaload, 1) := by decide +kernel
theorem dL_law_37 : decode cL_law 37 = .ok (.bipush 63, 2) := by decide +kernel
theorem dL_law_39 : decode cL_law 39 = .ok (.iand, 1) := by decide +kernel
theorem dL_law_40 : decode cL_law 40 = .ok (.tableswitch 1889 0 35 #[160, 264, 362, 418, 486, 499, 543, 587, 631, 675, 719, 763, 807, 820, 833, 889, 945, 1001, 1057, 1113, 1169, 1213, 1257, 1301, 1345, 1389, 1433, 1477, 1521, 1565, 1609, 1653, 1716, 1729, 1801, 1845], 160) := by decide +kernel
theorem dL_law_200 : decode cL_law 200 = .ok (.aload_n 1, 1) := by decide +kernel
theorem dL_law_201 : decode cL_law 201 = .ok (.aload_n 0, 1) := by decide +kernel
theorem dL_law_202 : decode cL_law 202 = .ok (.iload 4, 2) := by decide +kernel
theorem dL_law_204 : decode cL_law 204 = .ok (.iconst 1, 1) := by decide +kernel
theorem dL_law_205 : decode cL_law 205 = .ok (.iadd, 1) := by decide +kernel
theorem dL_law_206 : decode cL_law 206 = .ok (.iaload, 1) := by decide +kernel
theorem dL_law_207 : decode cL_law 207 = .ok (.aload_n 0, 1) := by decide +kernel
theorem dL_law_208 : decode cL_law 208 = .ok (.iload 4, 2) := by decide +kernel
theorem dL_law_210 : decode cL_law 210 = .ok (.iconst 2, 1) := by decide +kernel
theorem dL_law_211 : decode cL_law 211 = .ok (.iadd, 1) := by decide +kernel
theorem dL_law_212 : decode cL_law 212 = .ok (.iaload, 1) := by decide +kernel
theorem dL_law_213 : decode cL_law 213 = .ok (.aload_n 0, 1) := by decide +kernel
theorem dL_law_214 : decode cL_law 214 = .ok (.iload 4, 2) := by decide +kernel
theorem dL_law_216 : decode cL_law 216 = .ok (.iconst 3, 1) := by decide +kernel
theorem dL_law_217 : decode cL_law 217 = .ok (.iadd, 1) := by decide +kernel
theorem dL_law_218 : decode cL_law 218 = .ok (.iaload, 1) := by decide +kernel
theorem dL_law_219 : decode cL_law 219 = .ok (.aload_n 0, 1) := by decide +kernel
theorem dL_law_220 : decode cL_law 220 = .ok (.iload 4, 2) := by decide +kernel
theorem dL_law_222 : decode cL_law 222 = .ok (.iconst 4, 1) := by decide +kernel
theorem dL_law_223 : decode cL_law 223 = .ok (.iadd, 1) := by decide +kernel
theorem dL_law_224 : decode cL_law 224 = .ok (.iaload, 1) := by decide +kernel
theorem dL_law_225 : decode cL_law 225 = .ok (.aload_n 0, 1) := by decide +kernel
theorem dL_law_226 : decode cL_law 226 = .ok (.iload 4, 2) := by decide +kernel
theorem dL_law_228 : decode cL_law 228 = .ok (.iconst 5, 1) := by decide +kernel
theorem dL_law_229 : decode cL_law 229 = .ok (.iadd, 1) := by decide +kernel
theorem dL_law_230 : decode cL_law 230 = .ok (.iaload, 1) := by decide +kernel
theorem dL_law_231 : decode cL_law 231 = .ok (.aload_n 3, 1) := by decide +kernel
theorem dL_law_232 : decode cL_law 232 = .ok (.invokestatic 122, 3) := by decide +kernel
theorem dL_law_235 : decode cL_law 235 = .ok (.istore 5, 2) := by decide +kernel
theorem dL_law_237 : decode cL_law 237 = .ok (.aload_n 2, 1) := by decide +kernel
theorem dL_law_238 : decode cL_law 238 = .ok (.aload_n 0, 1) := by decide +kernel
theorem dL_law_239 : decode cL_law 239 = .ok (.iload 4, 2) := by decide +kernel
theorem dL_law_241 : decode cL_law 241 = .ok (.iconst 1, 1) := by decide +kernel
theorem dL_law_242 : decode cL_law 242 = .ok (.iadd, 1) := by decide +kernel
theorem dL_law_243 : decode cL_law 243 = .ok (.iaload, 1) := by decide +kernel
theorem dL_law_244 : decode cL_law 244 = .ok (.aload_n 0, 1) := by decide +kernel
theorem dL_law_245 : decode cL_law 245 = .ok (.iload 4, 2) := by decide +kernel
theorem dL_law_247 : decode cL_law 247 = .ok (.iconst 2, 1) := by decide +kernel
theorem dL_law_248 : decode cL_law 248 = .ok (.iadd, 1) := by decide +kernel
theorem dL_law_249 : decode cL_law 249 = .ok (.iaload, 1) := by decide +kernel
theorem dL_law_250 : decode cL_law 250 = .ok (.aload_n 0, 1) := by decide +kernel
theorem dL_law_251 : decode cL_law 251 = .ok (.iload 4, 2) := by decide +kernel
theorem dL_law_253 : decode cL_law 253 = .ok (.iconst 3, 1) := by decide +kernel
theorem dL_law_254 : decode cL_law 254 = .ok (.iadd, 1) := by decide +kernel
theorem dL_law_255 : decode cL_law 255 = .ok (.iaload, 1) := by decide +kernel
theorem dL_law_256 : decode cL_law 256 = .ok (.aload_n 0, 1) := by decide +kernel
theorem dL_law_257 : decode cL_law 257 = .ok (.iload 4, 2) := by decide +kernel
theorem dL_law_259 : decode cL_law 259 = .ok (.iconst 4, 1) := by decide +kernel
theorem dL_law_260 : decode cL_law 260 = .ok (.iadd, 1) := by decide +kernel
theorem dL_law_261 : decode cL_law 261 = .ok (.iaload, 1) := by decide +kernel
theorem dL_law_262 : decode cL_law 262 = .ok (.aload_n 0, 1) := by decide +kernel
theorem dL_law_263 : decode cL_law 263 = .ok (.iload 4, 2) := by decide +kernel
theorem dL_law_265 : decode cL_law 265 = .ok (.iconst 5, 1) := by decide +kernel
theorem dL_law_266 : decode cL_law 266 = .ok (.iadd, 1) := by decide +kernel
theorem dL_law_267 : decode cL_law 267 = .ok (.iaload, 1) := by decide +kernel
theorem dL_law_268 : decode cL_law 268 = .ok (.invokevirtual 127, 3) := by decide +kernel
theorem dL_law_271 : decode cL_law 271 = .ok (.istore 6, 2) := by decide +kernel
theorem dL_law_273 : decode cL_law 273 = .ok (.aload_n 2, 1) := by decide +kernel
theorem dL_law_274 : decode cL_law 274 = .ok (.invokevirtual 128, 3) := by decide +kernel
theorem dL_law_277 : decode cL_law 277 = .ok (.iload 5, 2) := by decide +kernel
theorem dL_law_279 : decode cL_law 279 = .ok (.if_icmp .eq 5, 3) := by decide +kernel
theorem dL_law_282 : decode cL_law 282 = .ok (.iconst 0, 1) := by decide +kernel
theorem dL_law_283 : decode cL_law 283 = .ok (.ireturn, 1) := by decide +kernel
theorem dL_law_284 : decode cL_law 284 = .ok (.iload 5, 2) := by decide +kernel
theorem dL_law_286 : decode cL_law 286 = .ok (.ifCond .ne 15, 3) := by decide +kernel
theorem dL_law_289 : decode cL_law 289 = .ok (.aload_n 3, 1) := by decide +kernel
theorem dL_law_290 : decode cL_law 290 = .ok (.iconst 0, 1) := by decide +kernel
theorem dL_law_291 : decode cL_law 291 = .ok (.laload, 1) := by decide +kernel
theorem dL_law_292 : decode cL_law 292 = .ok (.iload 6, 2) := by decide +kernel
theorem dL_law_294 : decode cL_law 294 = .ok (.i2l, 1) := by decide +kernel
theorem dL_law_295 : decode cL_law 295 = .ok (.lcmp, 1) := by decide +kernel
theorem dL_law_296 : decode cL_law 296 = .ok (.ifCond .eq 5, 3) := by decide +kernel
theorem dL_law_299 : decode cL_law 299 = .ok (.iconst 0, 1) := by decide +kernel
theorem dL_law_300 : decode cL_law 300 = .ok (.ireturn, 1) := by decide +kernel
theorem dL_law_301 : decode cL_law 301 = .ok (.goto 1628, 3) := by decide +kernel
theorem dL_law_304 : decode cL_law 304 = .ok (.aload_n 1, 1) := by decide +kernel
theorem dL_law_305 : decode cL_law 305 = .ok (.aload_n 0, 1) := by decide +kernel
theorem dL_law_306 : decode cL_law 306 = .ok (.iload 4, 2) := by decide +kernel
theorem dL_law_308 : decode cL_law 308 = .ok (.iconst 1, 1) := by decide +kernel
theorem dL_law_309 : decode cL_law 309 = .ok (.iadd, 1) := by decide +kernel
theorem dL_law_310 : decode cL_law 310 = .ok (.iaload, 1) := by decide +kernel
theorem dL_law_311 : decode cL_law 311 = .ok (.aload_n 0, 1) := by decide +kernel
theorem dL_law_312 : decode cL_law 312 = .ok (.iload 4, 2) := by decide +kernel
theorem dL_law_314 : decode cL_law 314 = .ok (.iconst 2, 1) := by decide +kernel
theorem dL_law_315 : decode cL_law 315 = .ok (.iadd, 1) := by decide +kernel
theorem dL_law_316 : decode cL_law 316 = .ok (.iaload, 1) := by decide +kernel
theorem dL_law_317 : decode cL_law 317 = .ok (.aload_n 0, 1) := by decide +kernel
theorem dL_law_318 : decode cL_law 318 = .ok (.iload 4, 2) := by decide +kernel
theorem dL_law_320 : decode cL_law 320 = .ok (.iconst 3, 1) := by decide +kernel
theorem dL_law_321 : decode cL_law 321 = .ok (.iadd, 1) := by decide +kernel
theorem dL_law_322 : decode cL_law 322 = .ok (.iaload, 1) := by decide +kernel
theorem dL_law_323 : decode cL_law 323 = .ok (.aload_n 0, 1) := by decide +kernel
theorem dL_law_324 : decode cL_law 324 = .ok (.iload 4, 2) := by decide +kernel
theorem dL_law_326 : decode cL_law 326 = .ok (.iconst 4, 1) := by decide +kernel
theorem dL_law_327 : decode cL_law 327 = .ok (.iadd, 1) := by decide +kernel
theorem dL_law_328 : decode cL_law 328 = .ok (.iaload, 1) := by decide +kernel
theorem dL_law_329 : decode cL_law 329 = .ok (.aload_n 0, 1) := by decide +kernel
theorem dL_law_330 : decode cL_law 330 = .ok (.iload 4, 2) := by decide +kernel
theorem dL_law_332 : decode cL_law 332 = .ok (.iconst 5, 1) := by decide +kernel
theorem dL_law_333 : decode cL_law 333 = .ok (.iadd, 1) := by decide +kernel
theorem dL_law_334 : decode cL_law 334 = .ok (.iaload, 1) := by decide +kernel
theorem dL_law_335 : decode cL_law 335 = .ok (.aload_n 0, 1) := by decide +kernel
theorem dL_law_336 : decode cL_law 336 = .ok (.iload 4, 2) := by decide +kernel
theorem dL_law_338 : decode cL_law 338 = .ok (.bipush 6, 2) := by decide +kernel
theorem dL_law_340 : decode cL_law 340 = .ok (.iadd, 1) := by decide +kernel
theorem dL_law_341 : decode cL_law 341 = .ok (.iaload, 1) := by decide +kernel
theorem dL_law_342 : decode cL_law 342 = .ok (.invokestatic 131, 3) := by decide +kernel
theorem dL_law_345 : decode cL_law 345 = .ok (.istore 5, 2) := by decide +kernel
theorem dL_law_347 : decode cL_law 347 = .ok (.aload_n 2, 1) := by decide +kernel
theorem dL_law_348 : decode cL_law 348 = .ok (.aload_n 0, 1) := by decide +kernel
theorem dL_law_349 : decode cL_law 349 = .ok (.iload 4, 2) := by decide +kernel
theorem dL_law_351 : decode cL_law 351 = .ok (.iconst 1, 1) := by decide +kernel
theorem dL_law_352 : decode cL_law 352 = .ok (.iadd, 1) := by decide +kernel
theorem dL_law_353 : decode cL_law 353 = .ok (.iaload, 1) := by decide +kernel
theorem dL_law_354 : decode cL_law 354 = .ok (.aload_n 0, 1) := by decide +kernel
theorem dL_law_355 : decode cL_law 355 = .ok (.iload 4, 2) := by decide +kernel
theorem dL_law_357 : decode cL_law 357 = .ok (.iconst 2, 1) := by decide +kernel
theorem dL_law_358 : decode cL_law 358 = .ok (.iadd, 1) := by decide +kernel
theorem dL_law_359 : decode cL_law 359 = .ok (.iaload, 1) := by decide +kernel
theorem dL_law_360 : decode cL_law 360 = .ok (.aload_n 0, 1) := by decide +kernel
theorem dL_law_361 : decode cL_law 361 = .ok (.iload 4, 2) := by decide +kernel
theorem dL_law_363 : decode cL_law 363 = .ok (.iconst 3, 1) := by decide +kernel
theorem dL_law_364 : decode cL_law 364 = .ok (.iadd, 1) := by decide +kernel
theorem dL_law_365 : decode cL_law 365 = .ok (.iaload, 1) := by decide +kernel
theorem dL_law_366 : decode cL_law 366 = .ok (.aload_n 0, 1) := by decide +kernel
theorem dL_law_367 : decode cL_law 367 = .ok (.iload 4, 2) := by decide +kernel
theorem dL_law_369 : decode cL_law 369 = .ok (.iconst 4, 1) := by decide +kernel
theorem dL_law_370 : decode cL_law 370 = .ok (.iadd, 1) := by decide +kernel
theorem dL_law_371 : decode cL_law 371 = .ok (.iaload, 1) := by decide +kernel
theorem dL_law_372 : decode cL_law 372 = .ok (.aload_n 0, 1) := by decide +kernel
theorem dL_law_373 : decode cL_law 373 = .ok (.iload 4, 2) := by decide +kernel
theorem dL_law_375 : decode cL_law 375 = .ok (.iconst 5, 1) := by decide +kernel
theorem dL_law_376 : decode cL_law 376 = .ok (.iadd, 1) := by decide +kernel
theorem dL_law_377 : decode cL_law 377 = .ok (.iaload, 1) := by decide +kernel
theorem dL_law_378 : decode cL_law 378 = .ok (.aload_n 0, 1) := by decide +kernel
theorem dL_law_379 : decode cL_law 379 = .ok (.iload 4, 2) := by decide +kernel
theorem dL_law_381 : decode cL_law 381 = .ok (.bipush 6, 2) := by decide +kernel
theorem dL_law_383 : decode cL_law 383 = .ok (.iadd, 1) := by decide +kernel
theorem dL_law_384 : decode cL_law 384 = .ok (.iaload, 1) := by decide +kernel
theorem dL_law_385 : decode cL_law 385 = .ok (.invokevirtual 134, 3) := by decide +kernel
theorem dL_law_388 : decode cL_law 388 = .ok (.aload_n 2, 1) := by decide +kernel
theorem dL_law_389 : decode cL_law 389 = .ok (.invokevirtual 128, 3) := by decide +kernel
theorem dL_law_392 : decode cL_law 392 = .ok (.iload 5, 2) := by decide +kernel
theorem dL_law_394 : decode cL_law 394 = .ok (.if_icmp .eq 5, 3) := by decide +kernel
theorem dL_law_397 : decode cL_law 397 = .ok (.iconst 0, 1) := by decide +kernel
theorem dL_law_398 : decode cL_law 398 = .ok (.ireturn, 1) := by decide +kernel
theorem dL_law_399 : decode cL_law 399 = .ok (.goto 1530, 3) := by decide +kernel
theorem dL_law_402 : decode cL_law 402 = .ok (.aload_n 1, 1) := by decide +kernel
theorem dL_law_403 : decode cL_law 403 = .ok (.aload_n 0, 1) := by decide +kernel
theorem dL_law_404 : decode cL_law 404 = .ok (.iload 4, 2) := by decide +kernel
theorem dL_law_406 : decode cL_law 406 = .ok (.iconst 1, 1) := by decide +kernel
theorem dL_law_407 : decode cL_law 407 = .ok (.iadd, 1) := by decide +kernel
theorem dL_law_408 : decode cL_law 408 = .ok (.iaload, 1) := by decide +kernel
theorem dL_law_409 : decode cL_law 409 = .ok (.aload_n 3, 1) := by decide +kernel
theorem dL_law_410 : decode cL_law 410 = .ok (.invokestatic 135, 3) := by decide +kernel
theorem dL_law_413 : decode cL_law 413 = .ok (.istore 5, 2) := by decide +kernel
theorem dL_law_415 : decode cL_law 415 = .ok (.aload_n 2, 1) := by decide +kernel
theorem dL_law_416 : decode cL_law 416 = .ok (.aload_n 0, 1) := by decide +kernel
theorem dL_law_417 : decode cL_law 417 = .ok (.iload 4, 2) := by decide +kernel
theorem dL_law_419 : decode cL_law 419 = .ok (.iconst 1, 1) := by decide +kernel
theorem dL_law_420 : decode cL_law 420 = .ok (.iadd, 1) := by decide +kernel
theorem dL_law_421 : decode cL_law 421 = .ok (.iaload, 1) := by decide +kernel
theorem dL_law_422 : decode cL_law 422 = .ok (.invokevirtual 138, 3) := by decide +kernel
theorem dL_law_425 : decode cL_law 425 = .ok (.istore 6, 2) := by decide +kernel
theorem dL_law_427 : decode cL_law 427 = .ok (.aload_n 2, 1) := by decide +kernel
theorem dL_law_428 : decode cL_law 428 = .ok (.invokevirtual 128, 3) := by decide +kernel
theorem dL_law_431 : decode cL_law 431 = .ok (.iload 5, 2) := by decide +kernel
theorem dL_law_433 : decode cL_law 433 = .ok (.if_icmp .eq 5, 3) := by decide +kernel
theorem dL_law_436 : decode cL_law 436 = .ok (.iconst 0, 1) := by decide +kernel
theorem dL_law_437 : decode cL_law 437 = .ok (.ireturn, 1) := by decide +kernel
theorem dL_law_438 : decode cL_law 438 = .ok (.iload 5, 2) := by decide +kernel
theorem dL_law_440 : decode cL_law 440 = .ok (.ifCond .ne 15, 3) := by decide +kernel
theorem dL_law_443 : decode cL_law 443 = .ok (.aload_n 3, 1) := by decide +kernel
theorem dL_law_444 : decode cL_law 444 = .ok (.iconst 0, 1) := by decide +kernel
theorem dL_law_445 : decode cL_law 445 = .ok (.laload, 1) := by decide +kernel
theorem dL_law_446 : decode cL_law 446 = .ok (.iload 6, 2) := by decide +kernel
theorem dL_law_448 : decode cL_law 448 = .ok (.i2l, 1) := by decide +kernel
theorem dL_law_449 : decode cL_law 449 = .ok (.lcmp, 1) := by decide +kernel
theorem dL_law_450 : decode cL_law 450 = .ok (.ifCond .eq 5, 3) := by decide +kernel
theorem dL_law_453 : decode cL_law 453 = .ok (.iconst 0, 1) := by decide +kernel
theorem dL_law_454 : decode cL_law 454 = .ok (.ireturn, 1) := by decide +kernel
theorem dL_law_455 : decode cL_law 455 = .ok (.goto 1474, 3) := by decide +kernel
theorem dL_law_458 : decode cL_law 458 = .ok (.aload_n 1, 1) := by decide +kernel
theorem dL_law_459 : decode cL_law 459 = .ok (.aload_n 0, 1) := by decide +kernel
theorem dL_law_460 : decode cL_law 460 = .ok (.iload 4, 2) := by decide +kernel
theorem dL_law_462 : decode cL_law 462 = .ok (.iconst 1, 1) := by decide +kernel
theorem dL_law_463 : decode cL_law 463 = .ok (.iadd, 1) := by decide +kernel
theorem dL_law_464 : decode cL_law 464 = .ok (.iaload, 1) := by decide +kernel
theorem dL_law_465 : decode cL_law 465 = .ok (.aload_n 0, 1) := by decide +kernel
theorem dL_law_466 : decode cL_law 466 = .ok (.iload 4, 2) := by decide +kernel
theorem dL_law_468 : decode cL_law 468 = .ok (.iconst 2, 1) := by decide +kernel
theorem dL_law_469 : decode cL_law 469 = .ok (.iadd, 1) := by decide +kernel
theorem dL_law_470 : decode cL_law 470 = .ok (.iaload, 1) := by decide +kernel
theorem dL_law_471 : decode cL_law 471 = .ok (.aload_n 3, 1) := by decide +kernel
theorem dL_law_472 : decode cL_law 472 = .ok (.invokestatic 139, 3) := by decide +kernel
theorem dL_law_475 : decode cL_law 475 = .ok (.istore 5, 2) := by decide +kernel
theorem dL_law_477 : decode cL_law 477 = .ok (.aload_n 2, 1) := by decide +kernel
theorem dL_law_478 : decode cL_law 478 = .ok (.aload_n 0, 1) := by decide +kernel
theorem dL_law_479 : decode cL_law 479 = .ok (.iload 4, 2) := by decide +kernel
theorem dL_law_481 : decode cL_law 481 = .ok (.iconst 1, 1) := by decide +kernel
theorem dL_law_482 : decode cL_law 482 = .ok (.iadd, 1) := by decide +kernel
theorem dL_law_483 : decode cL_law 483 = .ok (.iaload, 1) := by decide +kernel
theorem dL_law_484 : decode cL_law 484 = .ok (.aload_n 0, 1) := by decide +kernel
theorem dL_law_485 : decode cL_law 485 = .ok (.iload 4, 2) := by decide +kernel
theorem dL_law_487 : decode cL_law 487 = .ok (.iconst 2, 1) := by decide +kernel
theorem dL_law_488 : decode cL_law 488 = .ok (.iadd, 1) := by decide +kernel
theorem dL_law_489 : decode cL_law 489 = .ok (.iaload, 1) := by decide +kernel
theorem dL_law_490 : decode cL_law 490 = .ok (.invokevirtual 142, 3) := by decide +kernel
theorem dL_law_493 : decode cL_law 493 = .ok (.istore 6, 2) := by decide +kernel
theorem dL_law_495 : decode cL_law 495 = .ok (.aload_n 2, 1) := by decide +kernel
theorem dL_law_496 : decode cL_law 496 = .ok (.invokevirtual 128, 3) := by decide +kernel
theorem dL_law_499 : decode cL_law 499 = .ok (.iload 5, 2) := by decide +kernel
theorem dL_law_501 : decode cL_law 501 = .ok (.if_icmp .eq 5, 3) := by decide +kernel
theorem dL_law_504 : decode cL_law 504 = .ok (.iconst 0, 1) := by decide +kernel
theorem dL_law_505 : decode cL_law 505 = .ok (.ireturn, 1) := by decide +kernel
theorem dL_law_506 : decode cL_law 506 = .ok (.iload 5, 2) := by decide +kernel
theorem dL_law_508 : decode cL_law 508 = .ok (.ifCond .ne 15, 3) := by decide +kernel
theorem dL_law_511 : decode cL_law 511 = .ok (.aload_n 3, 1) := by decide +kernel
theorem dL_law_512 : decode cL_law 512 = .ok (.iconst 0, 1) := by decide +kernel
theorem dL_law_513 : decode cL_law 513 = .ok (.laload, 1) := by decide +kernel
theorem dL_law_514 : decode cL_law 514 = .ok (.iload 6, 2) := by decide +kernel
theorem dL_law_516 : decode cL_law 516 = .ok (.i2l, 1) := by decide +kernel
theorem dL_law_517 : decode cL_law 517 = .ok (.lcmp, 1) := by decide +kernel
theorem dL_law_518 : decode cL_law 518 = .ok (.ifCond .eq 5, 3) := by decide +kernel
theorem dL_law_521 : decode cL_law 521 = .ok (.iconst 0, 1) := by decide +kernel
theorem dL_law_522 : decode cL_law 522 = .ok (.ireturn, 1) := by decide +kernel
theorem dL_law_523 : decode cL_law 523 = .ok (.goto 1406, 3) := by decide +kernel
theorem dL_law_526 : decode cL_law 526 = .ok (.aload_n 1, 1) := by decide +kernel
theorem dL_law_527 : decode cL_law 527 = .ok (.invokevirtual 143, 3) := by decide +kernel
theorem dL_law_530 : decode cL_law 530 = .ok (.aload_n 2, 1) := by decide +kernel
theorem dL_law_531 : decode cL_law 531 = .ok (.invokevirtual 146, 3) := by decide +kernel
theorem dL_law_534 : decode cL_law 534 = .ok (.if_icmp .eq 1395, 3) := by decide +kernel
theorem dL_law_537 : decode cL_law 537 = .ok (.iconst 0, 1) := by decide +kernel
theorem dL_law_538 : decode cL_law 538 = .ok (.ireturn, 1) := by decide +kernel
theorem dL_law_539 : decode cL_law 539 = .ok (.aload_n 1, 1) := by decide +kernel
theorem dL_law_540 : decode cL_law 540 = .ok (.aload_n 3, 1) := by decide +kernel
theorem dL_law_541 : decode cL_law 541 = .ok (.invokestatic 147, 3) := by decide +kernel
theorem dL_law_544 : decode cL_law 544 = .ok (.istore 5, 2) := by decide +kernel
theorem dL_law_546 : decode cL_law 546 = .ok (.aload_n 2, 1) := by decide +kernel
theorem dL_law_547 : decode cL_law 547 = .ok (.invokevirtual 150, 3) := by decide +kernel
theorem dL_law_550 : decode cL_law 550 = .ok (.istore 6, 2) := by decide +kernel
theorem dL_law_552 : decode cL_law 552 = .ok (.aload_n 2, 1) := by decide +kernel
theorem dL_law_553 : decode cL_law 553 = .ok (.invokevirtual 128, 3) := by decide +kernel
theorem dL_law_556 : decode cL_law 556 = .ok (.iload 5, 2) := by decide +kernel
theorem dL_law_558 : decode cL_law 558 = .ok (.if_icmp .eq 5, 3) := by decide +kernel
theorem dL_law_561 : decode cL_law 561 = .ok (.iconst 0, 1) := by decide +kernel
theorem dL_law_562 : decode cL_law 562 = .ok (.ireturn, 1) := by decide +kernel
theorem dL_law_563 : decode cL_law 563 = .ok (.iload 5, 2) := by decide +kernel
theorem dL_law_565 : decode cL_law 565 = .ok (.ifCond .ne 15, 3) := by decide +kernel
theorem dL_law_568 : decode cL_law 568 = .ok (.aload_n 3, 1) := by decide +kernel
theorem dL_law_569 : decode cL_law 569 = .ok (.iconst 0, 1) := by decide +kernel
theorem dL_law_570 : decode cL_law 570 = .ok (.laload, 1) := by decide +kernel
theorem dL_law_571 : decode cL_law 571 = .ok (.iload 6, 2) := by decide +kernel
theorem dL_law_573 : decode cL_law 573 = .ok (.i2l, 1) := by decide +kernel
theorem dL_law_574 : decode cL_law 574 = .ok (.lcmp, 1) := by decide +kernel
theorem dL_law_575 : decode cL_law 575 = .ok (.ifCond .eq 5, 3) := by decide +kernel
theorem dL_law_578 : decode cL_law 578 = .ok (.iconst 0, 1) := by decide +kernel
theorem dL_law_579 : decode cL_law 579 = .ok (.ireturn, 1) := by decide +kernel
theorem dL_law_580 : decode cL_law 580 = .ok (.goto 1349, 3) := by decide +kernel
theorem dL_law_583 : decode cL_law 583 = .ok (.aload_n 1, 1) := by decide +kernel
theorem dL_law_584 : decode cL_law 584 = .ok (.aload_n 3, 1) := by decide +kernel
theorem dL_law_585 : decode cL_law 585 = .ok (.invokestatic 151, 3) := by decide +kernel
theorem dL_law_588 : decode cL_law 588 = .ok (.istore 5, 2) := by decide +kernel
theorem dL_law_590 : decode cL_law 590 = .ok (.aload_n 2, 1) := by decide +kernel
theorem dL_law_591 : decode cL_law 591 = .ok (.invokevirtual 153, 3) := by decide +kernel
theorem dL_law_594 : decode cL_law 594 = .ok (.istore 6, 2) := by decide +kernel
theorem dL_law_596 : decode cL_law 596 = .ok (.aload_n 2, 1) := by decide +kernel
theorem dL_law_597 : decode cL_law 597 = .ok (.invokevirtual 128, 3) := by decide +kernel
theorem dL_law_600 : decode cL_law 600 = .ok (.iload 5, 2) := by decide +kernel
theorem dL_law_602 : decode cL_law 602 = .ok (.if_icmp .eq 5, 3) := by decide +kernel
theorem dL_law_605 : decode cL_law 605 = .ok (.iconst 0, 1) := by decide +kernel
theorem dL_law_606 : decode cL_law 606 = .ok (.ireturn, 1) := by decide +kernel
theorem dL_law_607 : decode cL_law 607 = .ok (.iload 5, 2) := by decide +kernel
theorem dL_law_609 : decode cL_law 609 = .ok (.ifCond .ne 15, 3) := by decide +kernel
theorem dL_law_612 : decode cL_law 612 = .ok (.aload_n 3, 1) := by decide +kernel
theorem dL_law_613 : decode cL_law 613 = .ok (.iconst 0, 1) := by decide +kernel
theorem dL_law_614 : decode cL_law 614 = .ok (.laload, 1) := by decide +kernel
theorem dL_law_615 : decode cL_law 615 = .ok (.iload 6, 2) := by decide +kernel
theorem dL_law_617 : decode cL_law 617 = .ok (.i2l, 1) := by decide +kernel
theorem dL_law_618 : decode cL_law 618 = .ok (.lcmp, 1) := by decide +kernel
theorem dL_law_619 : decode cL_law 619 = .ok (.ifCond .eq 5, 3) := by decide +kernel
theorem dL_law_622 : decode cL_law 622 = .ok (.iconst 0, 1) := by decide +kernel
theorem dL_law_623 : decode cL_law 623 = .ok (.ireturn, 1) := by decide +kernel
theorem dL_law_624 : decode cL_law 624 = .ok (.goto 1305, 3) := by decide +kernel
theorem dL_law_627 : decode cL_law 627 = .ok (.aload_n 1, 1) := by decide +kernel
theorem dL_law_628 : decode cL_law 628 = .ok (.aload_n 3, 1) := by decide +kernel
theorem dL_law_629 : decode cL_law 629 = .ok (.invokestatic 154, 3) := by decide +kernel
theorem dL_law_632 : decode cL_law 632 = .ok (.istore 5, 2) := by decide +kernel
theorem dL_law_634 : decode cL_law 634 = .ok (.aload_n 2, 1) := by decide +kernel
theorem dL_law_635 : decode cL_law 635 = .ok (.invokevirtual 156, 3) := by decide +kernel
theorem dL_law_638 : decode cL_law 638 = .ok (.istore 6, 2) := by decide +kernel
theorem dL_law_640 : decode cL_law 640 = .ok (.aload_n 2, 1) := by decide +kernel
theorem dL_law_641 : decode cL_law 641 = .ok (.invokevirtual 128, 3) := by decide +kernel
theorem dL_law_644 : decode cL_law 644 = .ok (.iload 5, 2) := by decide +kernel
theorem dL_law_646 : decode cL_law 646 = .ok (.if_icmp .eq 5, 3) := by decide +kernel
theorem dL_law_649 : decode cL_law 649 = .ok (.iconst 0, 1) := by decide +kernel
theorem dL_law_650 : decode cL_law 650 = .ok (.ireturn, 1) := by decide +kernel
theorem dL_law_651 : decode cL_law 651 = .ok (.iload 5, 2) := by decide +kernel
theorem dL_law_653 : decode cL_law 653 = .ok (.ifCond .ne 15, 3) := by decide +kernel
theorem dL_law_656 : decode cL_law 656 = .ok (.aload_n 3, 1) := by decide +kernel
theorem dL_law_657 : decode cL_law 657 = .ok (.iconst 0, 1) := by decide +kernel
theorem dL_law_658 : decode cL_law 658 = .ok (.laload, 1) := by decide +kernel
theorem dL_law_659 : decode cL_law 659 = .ok (.iload 6, 2) := by decide +kernel
theorem dL_law_661 : decode cL_law 661 = .ok (.i2l, 1) := by decide +kernel
theorem dL_law_662 : decode cL_law 662 = .ok (.lcmp, 1) := by decide +kernel
theorem dL_law_663 : decode cL_law 663 = .ok (.ifCond .eq 5, 3) := by decide +kernel
theorem dL_law_666 : decode cL_law 666 = .ok (.iconst 0, 1) := by decide +kernel
theorem dL_law_667 : decode cL_law 667 = .ok (.ireturn, 1) := by decide +kernel
theorem dL_law_668 : decode cL_law 668 = .ok (.goto 1261, 3) := by decide +kernel
theorem dL_law_671 : decode cL_law 671 = .ok (.aload_n 1, 1) := by decide +kernel
theorem dL_law_672 : decode cL_law 672 = .ok (.aload_n 3, 1) := by decide +kernel
theorem dL_law_673 : decode cL_law 673 = .ok (.invokestatic 157, 3) := by decide +kernel
theorem dL_law_676 : decode cL_law 676 = .ok (.istore 5, 2) := by decide +kernel
theorem dL_law_678 : decode cL_law 678 = .ok (.aload_n 2, 1) := by decide +kernel
theorem dL_law_679 : decode cL_law 679 = .ok (.invokevirtual 159, 3) := by decide +kernel
theorem dL_law_682 : decode cL_law 682 = .ok (.istore 6, 2) := by decide +kernel
theorem dL_law_684 : decode cL_law 684 = .ok (.aload_n 2, 1) := by decide +kernel
theorem dL_law_685 : decode cL_law 685 = .ok (.invokevirtual 128, 3) := by decide +kernel
theorem dL_law_688 : decode cL_law 688 = .ok (.iload 5, 2) := by decide +kernel
theorem dL_law_690 : decode cL_law 690 = .ok (.if_icmp .eq 5, 3) := by decide +kernel
theorem dL_law_693 : decode cL_law 693 = .ok (.iconst 0, 1) := by decide +kernel
theorem dL_law_694 : decode cL_law 694 = .ok (.ireturn, 1) := by decide +kernel
theorem dL_law_695 : decode cL_law 695 = .ok (.iload 5, 2) := by decide +kernel
theorem dL_law_697 : decode cL_law 697 = .ok (.ifCond .ne 15, 3) := by decide +kernel
theorem dL_law_700 : decode cL_law 700 = .ok (.aload_n 3, 1) := by decide +kernel
theorem dL_law_701 : decode cL_law 701 = .ok (.iconst 0, 1) := by decide +kernel
theorem dL_law_702 : decode cL_law 702 = .ok (.laload, 1) := by decide +kernel
theorem dL_law_703 : decode cL_law 703 = .ok (.iload 6, 2) := by decide +kernel
theorem dL_law_705 : decode cL_law 705 = .ok (.i2l, 1) := by decide +kernel
theorem dL_law_706 : decode cL_law 706 = .ok (.lcmp, 1) := by decide +kernel
theorem dL_law_707 : decode cL_law 707 = .ok (.ifCond .eq 5, 3) := by decide +kernel
theorem dL_law_710 : decode cL_law 710 = .ok (.iconst 0, 1) := by decide +kernel
theorem dL_law_711 : decode cL_law 711 = .ok (.ireturn, 1) := by decide +kernel
theorem dL_law_712 : decode cL_law 712 = .ok (.goto 1217, 3) := by decide +kernel
theorem dL_law_715 : decode cL_law 715 = .ok (.aload_n 1, 1) := by decide +kernel
theorem dL_law_716 : decode cL_law 716 = .ok (.aload_n 3, 1) := by decide +kernel
theorem dL_law_717 : decode cL_law 717 = .ok (.invokestatic 160, 3) := by decide +kernel
theorem dL_law_720 : decode cL_law 720 = .ok (.istore 5, 2) := by decide +kernel
theorem dL_law_722 : decode cL_law 722 = .ok (.aload_n 2, 1) := by decide +kernel
theorem dL_law_723 : decode cL_law 723 = .ok (.invokevirtual 162, 3) := by decide +kernel
theorem dL_law_726 : decode cL_law 726 = .ok (.istore 6, 2) := by decide +kernel
theorem dL_law_728 : decode cL_law 728 = .ok (.aload_n 2, 1) := by decide +kernel
theorem dL_law_729 : decode cL_law 729 = .ok (.invokevirtual 128, 3) := by decide +kernel
theorem dL_law_732 : decode cL_law 732 = .ok (.iload 5, 2) := by decide +kernel
theorem dL_law_734 : decode cL_law 734 = .ok (.if_icmp .eq 5, 3) := by decide +kernel
theorem dL_law_737 : decode cL_law 737 = .ok (.iconst 0, 1) := by decide +kernel
theorem dL_law_738 : decode cL_law 738 = .ok (.ireturn, 1) := by decide +kernel
theorem dL_law_739 : decode cL_law 739 = .ok (.iload 5, 2) := by decide +kernel
theorem dL_law_741 : decode cL_law 741 = .ok (.ifCond .ne 15, 3) := by decide +kernel
theorem dL_law_744 : decode cL_law 744 = .ok (.aload_n 3, 1) := by decide +kernel
theorem dL_law_745 : decode cL_law 745 = .ok (.iconst 0, 1) := by decide +kernel
theorem dL_law_746 : decode cL_law 746 = .ok (.laload, 1) := by decide +kernel
theorem dL_law_747 : decode cL_law 747 = .ok (.iload 6, 2) := by decide +kernel
theorem dL_law_749 : decode cL_law 749 = .ok (.i2l, 1) := by decide +kernel
theorem dL_law_750 : decode cL_law 750 = .ok (.lcmp, 1) := by decide +kernel
theorem dL_law_751 : decode cL_law 751 = .ok (.ifCond .eq 5, 3) := by decide +kernel
theorem dL_law_754 : decode cL_law 754 = .ok (.iconst 0, 1) := by decide +kernel
theorem dL_law_755 : decode cL_law 755 = .ok (.ireturn, 1) := by decide +kernel
theorem dL_law_756 : decode cL_law 756 = .ok (.goto 1173, 3) := by decide +kernel
theorem dL_law_759 : decode cL_law 759 = .ok (.aload_n 1, 1) := by decide +kernel
theorem dL_law_760 : decode cL_law 760 = .ok (.aload_n 3, 1) := by decide +kernel
theorem dL_law_761 : decode cL_law 761 = .ok (.invokestatic 163, 3) := by decide +kernel
theorem dL_law_764 : decode cL_law 764 = .ok (.istore 5, 2) := by decide +kernel
theorem dL_law_766 : decode cL_law 766 = .ok (.aload_n 2, 1) := by decide +kernel
theorem dL_law_767 : decode cL_law 767 = .ok (.invokevirtual 165, 3) := by decide +kernel
theorem dL_law_770 : decode cL_law 770 = .ok (.istore 6, 2) := by decide +kernel
theorem dL_law_772 : decode cL_law 772 = .ok (.aload_n 2, 1) := by decide +kernel
theorem dL_law_773 : decode cL_law 773 = .ok (.invokevirtual 128, 3) := by decide +kernel
theorem dL_law_776 : decode cL_law 776 = .ok (.iload 5, 2) := by decide +kernel
theorem dL_law_778 : decode cL_law 778 = .ok (.if_icmp .eq 5, 3) := by decide +kernel
theorem dL_law_781 : decode cL_law 781 = .ok (.iconst 0, 1) := by decide +kernel
theorem dL_law_782 : decode cL_law 782 = .ok (.ireturn, 1) := by decide +kernel
theorem dL_law_783 : decode cL_law 783 = .ok (.iload 5, 2) := by decide +kernel
theorem dL_law_785 : decode cL_law 785 = .ok (.ifCond .ne 15, 3) := by decide +kernel
theorem dL_law_788 : decode cL_law 788 = .ok (.aload_n 3, 1) := by decide +kernel
theorem dL_law_789 : decode cL_law 789 = .ok (.iconst 0, 1) := by decide +kernel
theorem dL_law_790 : decode cL_law 790 = .ok (.laload, 1) := by decide +kernel
theorem dL_law_791 : decode cL_law 791 = .ok (.iload 6, 2) := by decide +kernel
theorem dL_law_793 : decode cL_law 793 = .ok (.i2l, 1) := by decide +kernel
theorem dL_law_794 : decode cL_law 794 = .ok (.lcmp, 1) := by decide +kernel
theorem dL_law_795 : decode cL_law 795 = .ok (.ifCond .eq 5, 3) := by decide +kernel
theorem dL_law_798 : decode cL_law 798 = .ok (.iconst 0, 1) := by decide +kernel
theorem dL_law_799 : decode cL_law 799 = .ok (.ireturn, 1) := by decide +kernel
theorem dL_law_800 : decode cL_law 800 = .ok (.goto 1129, 3) := by decide +kernel
theorem dL_law_803 : decode cL_law 803 = .ok (.aload_n 1, 1) := by decide +kernel
theorem dL_law_804 : decode cL_law 804 = .ok (.aload_n 3, 1) := by decide +kernel
theorem dL_law_805 : decode cL_law 805 = .ok (.invokestatic 166, 3) := by decide +kernel
theorem dL_law_808 : decode cL_law 808 = .ok (.istore 5, 2) := by decide +kernel
theorem dL_law_810 : decode cL_law 810 = .ok (.aload_n 2, 1) := by decide +kernel
theorem dL_law_811 : decode cL_law 811 = .ok (.invokevirtual 168, 3) := by decide +kernel
theorem dL_law_814 : decode cL_law 814 = .ok (.istore 6, 2) := by decide +kernel
theorem dL_law_816 : decode cL_law 816 = .ok (.aload_n 2, 1) := by decide +kernel
theorem dL_law_817 : decode cL_law 817 = .ok (.invokevirtual 128, 3) := by decide +kernel
theorem dL_law_820 : decode cL_law 820 = .ok (.iload 5, 2) := by decide +kernel
theorem dL_law_822 : decode cL_law 822 = .ok (.if_icmp .eq 5, 3) := by decide +kernel
theorem dL_law_825 : decode cL_law 825 = .ok (.iconst 0, 1) := by decide +kernel
theorem dL_law_826 : decode cL_law 826 = .ok (.ireturn, 1) := by decide +kernel
theorem dL_law_827 : decode cL_law 827 = .ok (.iload 5, 2) := by decide +kernel
theorem dL_law_829 : decode cL_law 829 = .ok (.ifCond .ne 15, 3) := by decide +kernel
theorem dL_law_832 : decode cL_law 832 = .ok (.aload_n 3, 1) := by decide +kernel
theorem dL_law_833 : decode cL_law 833 = .ok (.iconst 0, 1) := by decide +kernel
theorem dL_law_834 : decode cL_law 834 = .ok (.laload, 1) := by decide +kernel
theorem dL_law_835 : decode cL_law 835 = .ok (.iload 6, 2) := by decide +kernel
theorem dL_law_837 : decode cL_law 837 = .ok (.i2l, 1) := by decide +kernel
theorem dL_law_838 : decode cL_law 838 = .ok (.lcmp, 1) := by decide +kernel
theorem dL_law_839 : decode cL_law 839 = .ok (.ifCond .eq 5, 3) := by decide +kernel
theorem dL_law_842 : decode cL_law 842 = .ok (.iconst 0, 1) := by decide +kernel
theorem dL_law_843 : decode cL_law 843 = .ok (.ireturn, 1) := by decide +kernel
theorem dL_law_844 : decode cL_law 844 = .ok (.goto 1085, 3) := by decide +kernel
theorem dL_law_847 : decode cL_law 847 = .ok (.aload_n 1, 1) := by decide +kernel
theorem dL_law_848 : decode cL_law 848 = .ok (.invokevirtual 169, 3) := by decide +kernel
theorem dL_law_851 : decode cL_law 851 = .ok (.aload_n 2, 1) := by decide +kernel
theorem dL_law_852 : decode cL_law 852 = .ok (.invokevirtual 173, 3) := by decide +kernel
theorem dL_law_855 : decode cL_law 855 = .ok (.if_icmp .eq 1074, 3) := by decide +kernel
theorem dL_law_858 : decode cL_law 858 = .ok (.iconst 0, 1) := by decide +kernel
theorem dL_law_859 : decode cL_law 859 = .ok (.ireturn, 1) := by decide +kernel
theorem dL_law_860 : decode cL_law 860 = .ok (.aload_n 1, 1) := by decide +kernel
theorem dL_law_861 : decode cL_law 861 = .ok (.invokevirtual 174, 3) := by decide +kernel
theorem dL_law_864 : decode cL_law 864 = .ok (.aload_n 2, 1) := by decide +kernel
theorem dL_law_865 : decode cL_law 865 = .ok (.invokevirtual 177, 3) := by decide +kernel
theorem dL_law_868 : decode cL_law 868 = .ok (.if_icmp .eq 1061, 3) := by decide +kernel
theorem dL_law_871 : decode cL_law 871 = .ok (.iconst 0, 1) := by decide +kernel
theorem dL_law_872 : decode cL_law 872 = .ok (.ireturn, 1) := by decide +kernel
theorem dL_law_873 : decode cL_law 873 = .ok (.aload_n 1, 1) := by decide +kernel
theorem dL_law_874 : decode cL_law 874 = .ok (.aload_n 0, 1) := by decide +kernel
theorem dL_law_875 : decode cL_law 875 = .ok (.iload 4, 2) := by decide +kernel
theorem dL_law_877 : decode cL_law 877 = .ok (.iconst 1, 1) := by decide +kernel
theorem dL_law_878 : decode cL_law 878 = .ok (.iadd, 1) := by decide +kernel
theorem dL_law_879 : decode cL_law 879 = .ok (.iaload, 1) := by decide +kernel
theorem dL_law_880 : decode cL_law 880 = .ok (.aload_n 3, 1) := by decide +kernel
theorem dL_law_881 : decode cL_law 881 = .ok (.invokestatic 178, 3) := by decide +kernel
theorem dL_law_884 : decode cL_law 884 = .ok (.istore 5, 2) := by decide +kernel
theorem dL_law_886 : decode cL_law 886 = .ok (.aload_n 2, 1) := by decide +kernel
theorem dL_law_887 : decode cL_law 887 = .ok (.aload_n 0, 1) := by decide +kernel
theorem dL_law_888 : decode cL_law 888 = .ok (.iload 4, 2) := by decide +kernel
theorem dL_law_890 : decode cL_law 890 = .ok (.iconst 1, 1) := by decide +kernel
theorem dL_law_891 : decode cL_law 891 = .ok (.iadd, 1) := by decide +kernel
theorem dL_law_892 : decode cL_law 892 = .ok (.iaload, 1) := by decide +kernel
theorem dL_law_893 : decode cL_law 893 = .ok (.invokevirtual 180, 3) := by decide +kernel
theorem dL_law_896 : decode cL_law 896 = .ok (.istore 6, 2) := by decide +kernel
theorem dL_law_898 : decode cL_law 898 = .ok (.aload_n 2, 1) := by decide +kernel
theorem dL_law_899 : decode cL_law 899 = .ok (.invokevirtual 128, 3) := by decide +kernel
theorem dL_law_902 : decode cL_law 902 = .ok (.iload 5, 2) := by decide +kernel
theorem dL_law_904 : decode cL_law 904 = .ok (.if_icmp .eq 5, 3) := by decide +kernel
theorem dL_law_907 : decode cL_law 907 = .ok (.iconst 0, 1) := by decide +kernel
theorem dL_law_908 : decode cL_law 908 = .ok (.ireturn, 1) := by decide +kernel
theorem dL_law_909 : decode cL_law 909 = .ok (.iload 5, 2) := by decide +kernel
theorem dL_law_911 : decode cL_law 911 = .ok (.ifCond .ne 15, 3) := by decide +kernel
theorem dL_law_914 : decode cL_law 914 = .ok (.aload_n 3, 1) := by decide +kernel
theorem dL_law_915 : decode cL_law 915 = .ok (.iconst 0, 1) := by decide +kernel
theorem dL_law_916 : decode cL_law 916 = .ok (.laload, 1) := by decide +kernel
theorem dL_law_917 : decode cL_law 917 = .ok (.iload 6, 2) := by decide +kernel
theorem dL_law_919 : decode cL_law 919 = .ok (.i2l, 1) := by decide +kernel
theorem dL_law_920 : decode cL_law 920 = .ok (.lcmp, 1) := by decide +kernel
theorem dL_law_921 : decode cL_law 921 = .ok (.ifCond .eq 5, 3) := by decide +kernel
theorem dL_law_924 : decode cL_law 924 = .ok (.iconst 0, 1) := by decide +kernel
theorem dL_law_925 : decode cL_law 925 = .ok (.ireturn, 1) := by decide +kernel
theorem dL_law_926 : decode cL_law 926 = .ok (.goto 1003, 3) := by decide +kernel
theorem dL_law_929 : decode cL_law 929 = .ok (.aload_n 1, 1) := by decide +kernel
theorem dL_law_930 : decode cL_law 930 = .ok (.aload_n 0, 1) := by decide +kernel
theorem dL_law_931 : decode cL_law 931 = .ok (.iload 4, 2) := by decide +kernel
theorem dL_law_933 : decode cL_law 933 = .ok (.iconst 1, 1) := by decide +kernel
theorem dL_law_934 : decode cL_law 934 = .ok (.iadd, 1) := by decide +kernel
theorem dL_law_935 : decode cL_law 935 = .ok (.iaload, 1) := by decide +kernel
theorem dL_law_936 : decode cL_law 936 = .ok (.aload_n 3, 1) := by decide +kernel
theorem dL_law_937 : decode cL_law 937 = .ok (.invokestatic 181, 3) := by decide +kernel
theorem dL_law_940 : decode cL_law 940 = .ok (.istore 5, 2) := by decide +kernel
theorem dL_law_942 : decode cL_law 942 = .ok (.aload_n 2, 1) := by decide +kernel
theorem dL_law_943 : decode cL_law 943 = .ok (.aload_n 0, 1) := by decide +kernel
theorem dL_law_944 : decode cL_law 944 = .ok (.iload 4, 2) := by decide +kernel
theorem dL_law_946 : decode cL_law 946 = .ok (.iconst 1, 1) := by decide +kernel
theorem dL_law_947 : decode cL_law 947 = .ok (.iadd, 1) := by decide +kernel
theorem dL_law_948 : decode cL_law 948 = .ok (.iaload, 1) := by decide +kernel
theorem dL_law_949 : decode cL_law 949 = .ok (.invokevirtual 183, 3) := by decide +kernel
theorem dL_law_952 : decode cL_law 952 = .ok (.istore 6, 2) := by decide +kernel
theorem dL_law_954 : decode cL_law 954 = .ok (.aload_n 2, 1) := by decide +kernel
theorem dL_law_955 : decode cL_law 955 = .ok (.invokevirtual 128, 3) := by decide +kernel
theorem dL_law_958 : decode cL_law 958 = .ok (.iload 5, 2) := by decide +kernel
theorem dL_law_960 : decode cL_law 960 = .ok (.if_icmp .eq 5, 3) := by decide +kernel
theorem dL_law_963 : decode cL_law 963 = .ok (.iconst 0, 1) := by decide +kernel
theorem dL_law_964 : decode cL_law 964 = .ok (.ireturn, 1) := by decide +kernel
theorem dL_law_965 : decode cL_law 965 = .ok (.iload 5, 2) := by decide +kernel
theorem dL_law_967 : decode cL_law 967 = .ok (.ifCond .ne 15, 3) := by decide +kernel
theorem dL_law_970 : decode cL_law 970 = .ok (.aload_n 3, 1) := by decide +kernel
theorem dL_law_971 : decode cL_law 971 = .ok (.iconst 0, 1) := by decide +kernel
theorem dL_law_972 : decode cL_law 972 = .ok (.laload, 1) := by decide +kernel
theorem dL_law_973 : decode cL_law 973 = .ok (.iload 6, 2) := by decide +kernel
theorem dL_law_975 : decode cL_law 975 = .ok (.i2l, 1) := by decide +kernel
theorem dL_law_976 : decode cL_law 976 = .ok (.lcmp, 1) := by decide +kernel
theorem dL_law_977 : decode cL_law 977 = .ok (.ifCond .eq 5, 3) := by decide +kernel
theorem dL_law_980 : decode cL_law 980 = .ok (.iconst 0, 1) := by decide +kernel
theorem dL_law_981 : decode cL_law 981 = .ok (.ireturn, 1) := by decide +kernel
theorem dL_law_982 : decode cL_law 982 = .ok (.goto 947, 3) := by decide +kernel
theorem dL_law_985 : decode cL_law 985 = .ok (.aload_n 1, 1) := by decide +kernel
theorem dL_law_986 : decode cL_law 986 = .ok (.aload_n 0, 1) := by decide +kernel
theorem dL_law_987 : decode cL_law 987 = .ok (.iload 4, 2) := by decide +kernel
theorem dL_law_989 : decode cL_law 989 = .ok (.iconst 1, 1) := by decide +kernel
theorem dL_law_990 : decode cL_law 990 = .ok (.iadd, 1) := by decide +kernel
theorem dL_law_991 : decode cL_law 991 = .ok (.iaload, 1) := by decide +kernel
theorem dL_law_992 : decode cL_law 992 = .ok (.aload_n 3, 1) := by decide +kernel
theorem dL_law_993 : decode cL_law 993 = .ok (.invokestatic 184, 3) := by decide +kernel
theorem dL_law_996 : decode cL_law 996 = .ok (.istore 5, 2) := by decide +kernel
theorem dL_law_998 : decode cL_law 998 = .ok (.aload_n 2, 1) := by decide +kernel
theorem dL_law_999 : decode cL_law 999 = .ok (.aload_n 0, 1) := by decide +kernel
theorem dL_law_1000 : decode cL_law 1000 = .ok (.iload 4, 2) := by decide +kernel
theorem dL_law_1002 : decode cL_law 1002 = .ok (.iconst 1, 1) := by decide +kernel
theorem dL_law_1003 : decode cL_law 1003 = .ok (.iadd, 1) := by decide +kernel
theorem dL_law_1004 : decode cL_law 1004 = .ok (.iaload, 1) := by decide +kernel
theorem dL_law_1005 : decode cL_law 1005 = .ok (.invokevirtual 186, 3) := by decide +kernel
theorem dL_law_1008 : decode cL_law 1008 = .ok (.istore 6, 2) := by decide +kernel
theorem dL_law_1010 : decode cL_law 1010 = .ok (.aload_n 2, 1) := by decide +kernel
theorem dL_law_1011 : decode cL_law 1011 = .ok (.invokevirtual 128, 3) := by decide +kernel
theorem dL_law_1014 : decode cL_law 1014 = .ok (.iload 5, 2) := by decide +kernel
theorem dL_law_1016 : decode cL_law 1016 = .ok (.if_icmp .eq 5, 3) := by decide +kernel
theorem dL_law_1019 : decode cL_law 1019 = .ok (.iconst 0, 1) := by decide +kernel
theorem dL_law_1020 : decode cL_law 1020 = .ok (.ireturn, 1) := by decide +kernel
theorem dL_law_1021 : decode cL_law 1021 = .ok (.iload 5, 2) := by decide +kernel
theorem dL_law_1023 : decode cL_law 1023 = .ok (.ifCond .ne 15, 3) := by decide +kernel
theorem dL_law_1026 : decode cL_law 1026 = .ok (.aload_n 3, 1) := by decide +kernel
theorem dL_law_1027 : decode cL_law 1027 = .ok (.iconst 0, 1) := by decide +kernel
theorem dL_law_1028 : decode cL_law 1028 = .ok (.laload, 1) := by decide +kernel
theorem dL_law_1029 : decode cL_law 1029 = .ok (.iload 6, 2) := by decide +kernel
theorem dL_law_1031 : decode cL_law 1031 = .ok (.i2l, 1) := by decide +kernel
theorem dL_law_1032 : decode cL_law 1032 = .ok (.lcmp, 1) := by decide +kernel
theorem dL_law_1033 : decode cL_law 1033 = .ok (.ifCond .eq 5, 3) := by decide +kernel
theorem dL_law_1036 : decode cL_law 1036 = .ok (.iconst 0, 1) := by decide +kernel
theorem dL_law_1037 : decode cL_law 1037 = .ok (.ireturn, 1) := by decide +kernel
theorem dL_law_1038 : decode cL_law 1038 = .ok (.goto 891, 3) := by decide +kernel
theorem dL_law_1041 : decode cL_law 1041 = .ok (.aload_n 1, 1) := by decide +kernel
theorem dL_law_1042 : decode cL_law 1042 = .ok (.aload_n 0, 1) := by decide +kernel
theorem dL_law_1043 : decode cL_law 1043 = .ok (.iload 4, 2) := by decide +kernel
theorem dL_law_1045 : decode cL_law 1045 = .ok (.iconst 1, 1) := by decide +kernel
theorem dL_law_1046 : decode cL_law 1046 = .ok (.iadd, 1) := by decide +kernel
theorem dL_law_1047 : decode cL_law 1047 = .ok (.iaload, 1) := by decide +kernel
theorem dL_law_1048 : decode cL_law 1048 = .ok (.aload_n 3, 1) := by decide +kernel
theorem dL_law_1049 : decode cL_law 1049 = .ok (.invokestatic 187, 3) := by decide +kernel
theorem dL_law_1052 : decode cL_law 1052 = .ok (.istore 5, 2) := by decide +kernel
theorem dL_law_1054 : decode cL_law 1054 = .ok (.aload_n 2, 1) := by decide +kernel
theorem dL_law_1055 : decode cL_law 1055 = .ok (.aload_n 0, 1) := by decide +kernel
theorem dL_law_1056 : decode cL_law 1056 = .ok (.iload 4, 2) := by decide +kernel
theorem dL_law_1058 : decode cL_law 1058 = .ok (.iconst 1, 1) := by decide +kernel
theorem dL_law_1059 : decode cL_law 1059 = .ok (.iadd, 1) := by decide +kernel
theorem dL_law_1060 : decode cL_law 1060 = .ok (.iaload, 1) := by decide +kernel
theorem dL_law_1061 : decode cL_law 1061 = .ok (.invokevirtual 189, 3) := by decide +kernel
theorem dL_law_1064 : decode cL_law 1064 = .ok (.istore 6, 2) := by decide +kernel
theorem dL_law_1066 : decode cL_law 1066 = .ok (.aload_n 2, 1) := by decide +kernel
theorem dL_law_1067 : decode cL_law 1067 = .ok (.invokevirtual 128, 3) := by decide +kernel
theorem dL_law_1070 : decode cL_law 1070 = .ok (.iload 5, 2) := by decide +kernel
theorem dL_law_1072 : decode cL_law 1072 = .ok (.if_icmp .eq 5, 3) := by decide +kernel
theorem dL_law_1075 : decode cL_law 1075 = .ok (.iconst 0, 1) := by decide +kernel
theorem dL_law_1076 : decode cL_law 1076 = .ok (.ireturn, 1) := by decide +kernel
theorem dL_law_1077 : decode cL_law 1077 = .ok (.iload 5, 2) := by decide +kernel
theorem dL_law_1079 : decode cL_law 1079 = .ok (.ifCond .ne 15, 3) := by decide +kernel
theorem dL_law_1082 : decode cL_law 1082 = .ok (.aload_n 3, 1) := by decide +kernel
theorem dL_law_1083 : decode cL_law 1083 = .ok (.iconst 0, 1) := by decide +kernel
theorem dL_law_1084 : decode cL_law 1084 = .ok (.laload, 1) := by decide +kernel
theorem dL_law_1085 : decode cL_law 1085 = .ok (.iload 6, 2) := by decide +kernel
theorem dL_law_1087 : decode cL_law 1087 = .ok (.i2l, 1) := by decide +kernel
theorem dL_law_1088 : decode cL_law 1088 = .ok (.lcmp, 1) := by decide +kernel
theorem dL_law_1089 : decode cL_law 1089 = .ok (.ifCond .eq 5, 3) := by decide +kernel
theorem dL_law_1092 : decode cL_law 1092 = .ok (.iconst 0, 1) := by decide +kernel
theorem dL_law_1093 : decode cL_law 1093 = .ok (.ireturn, 1) := by decide +kernel
theorem dL_law_1094 : decode cL_law 1094 = .ok (.goto 835, 3) := by decide +kernel
theorem dL_law_1097 : decode cL_law 1097 = .ok (.aload_n 1, 1) := by decide +kernel
theorem dL_law_1098 : decode cL_law 1098 = .ok (.aload_n 0, 1) := by decide +kernel
theorem dL_law_1099 : decode cL_law 1099 = .ok (.iload 4, 2) := by decide +kernel
theorem dL_law_1101 : decode cL_law 1101 = .ok (.iconst 1, 1) := by decide +kernel
theorem dL_law_1102 : decode cL_law 1102 = .ok (.iadd, 1) := by decide +kernel
theorem dL_law_1103 : decode cL_law 1103 = .ok (.iaload, 1) := by decide +kernel
theorem dL_law_1104 : decode cL_law 1104 = .ok (.aload_n 3, 1) := by decide +kernel
theorem dL_law_1105 : decode cL_law 1105 = .ok (.invokestatic 190, 3) := by decide +kernel
theorem dL_law_1108 : decode cL_law 1108 = .ok (.istore 5, 2) := by decide +kernel
theorem dL_law_1110 : decode cL_law 1110 = .ok (.aload_n 2, 1) := by decide +kernel
theorem dL_law_1111 : decode cL_law 1111 = .ok (.aload_n 0, 1) := by decide +kernel
theorem dL_law_1112 : decode cL_law 1112 = .ok (.iload 4, 2) := by decide +kernel
theorem dL_law_1114 : decode cL_law 1114 = .ok (.iconst 1, 1) := by decide +kernel
theorem dL_law_1115 : decode cL_law 1115 = .ok (.iadd, 1) := by decide +kernel
theorem dL_law_1116 : decode cL_law 1116 = .ok (.iaload, 1) := by decide +kernel
theorem dL_law_1117 : decode cL_law 1117 = .ok (.invokevirtual 192, 3) := by decide +kernel
theorem dL_law_1120 : decode cL_law 1120 = .ok (.istore 6, 2) := by decide +kernel
theorem dL_law_1122 : decode cL_law 1122 = .ok (.aload_n 2, 1) := by decide +kernel
theorem dL_law_1123 : decode cL_law 1123 = .ok (.invokevirtual 128, 3) := by decide +kernel
theorem dL_law_1126 : decode cL_law 1126 = .ok (.iload 5, 2) := by decide +kernel
theorem dL_law_1128 : decode cL_law 1128 = .ok (.if_icmp .eq 5, 3) := by decide +kernel
theorem dL_law_1131 : decode cL_law 1131 = .ok (.iconst 0, 1) := by decide +kernel
theorem dL_law_1132 : decode cL_law 1132 = .ok (.ireturn, 1) := by decide +kernel
theorem dL_law_1133 : decode cL_law 1133 = .ok (.iload 5, 2) := by decide +kernel
theorem dL_law_1135 : decode cL_law 1135 = .ok (.ifCond .ne 15, 3) := by decide +kernel
theorem dL_law_1138 : decode cL_law 1138 = .ok (.aload_n 3, 1) := by decide +kernel
theorem dL_law_1139 : decode cL_law 1139 = .ok (.iconst 0, 1) := by decide +kernel
theorem dL_law_1140 : decode cL_law 1140 = .ok (.laload, 1) := by decide +kernel
theorem dL_law_1141 : decode cL_law 1141 = .ok (.iload 6, 2) := by decide +kernel
theorem dL_law_1143 : decode cL_law 1143 = .ok (.i2l, 1) := by decide +kernel
theorem dL_law_1144 : decode cL_law 1144 = .ok (.lcmp, 1) := by decide +kernel
theorem dL_law_1145 : decode cL_law 1145 = .ok (.ifCond .eq 5, 3) := by decide +kernel
theorem dL_law_1148 : decode cL_law 1148 = .ok (.iconst 0, 1) := by decide +kernel
theorem dL_law_1149 : decode cL_law 1149 = .ok (.ireturn, 1) := by decide +kernel
theorem dL_law_1150 : decode cL_law 1150 = .ok (.goto 779, 3) := by decide +kernel
theorem dL_law_1153 : decode cL_law 1153 = .ok (.aload_n 1, 1) := by decide +kernel
theorem dL_law_1154 : decode cL_law 1154 = .ok (.aload_n 0, 1) := by decide +kernel
theorem dL_law_1155 : decode cL_law 1155 = .ok (.iload 4, 2) := by decide +kernel
theorem dL_law_1157 : decode cL_law 1157 = .ok (.iconst 1, 1) := by decide +kernel
theorem dL_law_1158 : decode cL_law 1158 = .ok (.iadd, 1) := by decide +kernel
theorem dL_law_1159 : decode cL_law 1159 = .ok (.iaload, 1) := by decide +kernel
theorem dL_law_1160 : decode cL_law 1160 = .ok (.aload_n 3, 1) := by decide +kernel
theorem dL_law_1161 : decode cL_law 1161 = .ok (.invokestatic 193, 3) := by decide +kernel
theorem dL_law_1164 : decode cL_law 1164 = .ok (.istore 5, 2) := by decide +kernel
theorem dL_law_1166 : decode cL_law 1166 = .ok (.aload_n 2, 1) := by decide +kernel
theorem dL_law_1167 : decode cL_law 1167 = .ok (.aload_n 0, 1) := by decide +kernel
theorem dL_law_1168 : decode cL_law 1168 = .ok (.iload 4, 2) := by decide +kernel
theorem dL_law_1170 : decode cL_law 1170 = .ok (.iconst 1, 1) := by decide +kernel
theorem dL_law_1171 : decode cL_law 1171 = .ok (.iadd, 1) := by decide +kernel
theorem dL_law_1172 : decode cL_law 1172 = .ok (.iaload, 1) := by decide +kernel
theorem dL_law_1173 : decode cL_law 1173 = .ok (.invokevirtual 195, 3) := by decide +kernel
theorem dL_law_1176 : decode cL_law 1176 = .ok (.istore 6, 2) := by decide +kernel
theorem dL_law_1178 : decode cL_law 1178 = .ok (.aload_n 2, 1) := by decide +kernel
theorem dL_law_1179 : decode cL_law 1179 = .ok (.invokevirtual 128, 3) := by decide +kernel
theorem dL_law_1182 : decode cL_law 1182 = .ok (.iload 5, 2) := by decide +kernel
theorem dL_law_1184 : decode cL_law 1184 = .ok (.if_icmp .eq 5, 3) := by decide +kernel
theorem dL_law_1187 : decode cL_law 1187 = .ok (.iconst 0, 1) := by decide +kernel
theorem dL_law_1188 : decode cL_law 1188 = .ok (.ireturn, 1) := by decide +kernel
theorem dL_law_1189 : decode cL_law 1189 = .ok (.iload 5, 2) := by decide +kernel
theorem dL_law_1191 : decode cL_law 1191 = .ok (.ifCond .ne 15, 3) := by decide +kernel
theorem dL_law_1194 : decode cL_law 1194 = .ok (.aload_n 3, 1) := by decide +kernel
theorem dL_law_1195 : decode cL_law 1195 = .ok (.iconst 0, 1) := by decide +kernel
theorem dL_law_1196 : decode cL_law 1196 = .ok (.laload, 1) := by decide +kernel
theorem dL_law_1197 : decode cL_law 1197 = .ok (.iload 6, 2) := by decide +kernel
theorem dL_law_1199 : decode cL_law 1199 = .ok (.i2l, 1) := by decide +kernel
theorem dL_law_1200 : decode cL_law 1200 = .ok (.lcmp, 1) := by decide +kernel
theorem dL_law_1201 : decode cL_law 1201 = .ok (.ifCond .eq 5, 3) := by decide +kernel
theorem dL_law_1204 : decode cL_law 1204 = .ok (.iconst 0, 1) := by decide +kernel
theorem dL_law_1205 : decode cL_law 1205 = .ok (.ireturn, 1) := by decide +kernel
theorem dL_law_1206 : decode cL_law 1206 = .ok (.goto 723, 3) := by decide +kernel
theorem dL_law_1209 : decode cL_law 1209 = .ok (.aload_n 1, 1) := by decide +kernel
theorem dL_law_1210 : decode cL_law 1210 = .ok (.aload_n 3, 1) := by decide +kernel
theorem dL_law_1211 : decode cL_law 1211 = .ok (.invokestatic 196, 3) := by decide +kernel
theorem dL_law_1214 : decode cL_law 1214 = .ok (.istore 5, 2) := by decide +kernel
theorem dL_law_1216 : decode cL_law 1216 = .ok (.aload_n 2, 1) := by decide +kernel
theorem dL_law_1217 : decode cL_law 1217 = .ok (.invokevirtual 198, 3) := by decide +kernel
theorem dL_law_1220 : decode cL_law 1220 = .ok (.istore 6, 2) := by decide +kernel
theorem dL_law_1222 : decode cL_law 1222 = .ok (.aload_n 2, 1) := by decide +kernel
theorem dL_law_1223 : decode cL_law 1223 = .ok (.invokevirtual 128, 3) := by decide +kernel
theorem dL_law_1226 : decode cL_law 1226 = .ok (.iload 5, 2) := by decide +kernel
theorem dL_law_1228 : decode cL_law 1228 = .ok (.if_icmp .eq 5, 3) := by decide +kernel
theorem dL_law_1231 : decode cL_law 1231 = .ok (.iconst 0, 1) := by decide +kernel
theorem dL_law_1232 : decode cL_law 1232 = .ok (.ireturn, 1) := by decide +kernel
theorem dL_law_1233 : decode cL_law 1233 = .ok (.iload 5, 2) := by decide +kernel
theorem dL_law_1235 : decode cL_law 1235 = .ok (.ifCond .ne 15, 3) := by decide +kernel
theorem dL_law_1238 : decode cL_law 1238 = .ok (.aload_n 3, 1) := by decide +kernel
theorem dL_law_1239 : decode cL_law 1239 = .ok (.iconst 0, 1) := by decide +kernel
theorem dL_law_1240 : decode cL_law 1240 = .ok (.laload, 1) := by decide +kernel
theorem dL_law_1241 : decode cL_law 1241 = .ok (.iload 6, 2) := by decide +kernel
theorem dL_law_1243 : decode cL_law 1243 = .ok (.i2l, 1) := by decide +kernel
theorem dL_law_1244 : decode cL_law 1244 = .ok (.lcmp, 1) := by decide +kernel
theorem dL_law_1245 : decode cL_law 1245 = .ok (.ifCond .eq 5, 3) := by decide +kernel
theorem dL_law_1248 : decode cL_law 1248 = .ok (.iconst 0, 1) := by decide +kernel
theorem dL_law_1249 : decode cL_law 1249 = .ok (.ireturn, 1) := by decide +kernel
theorem dL_law_1250 : decode cL_law 1250 = .ok (.goto 679, 3) := by decide +kernel
theorem dL_law_1253 : decode cL_law 1253 = .ok (.aload_n 1, 1) := by decide +kernel
theorem dL_law_1254 : decode cL_law 1254 = .ok (.aload_n 3, 1) := by decide +kernel
theorem dL_law_1255 : decode cL_law 1255 = .ok (.invokestatic 199, 3) := by decide +kernel
theorem dL_law_1258 : decode cL_law 1258 = .ok (.istore 5, 2) := by decide +kernel
theorem dL_law_1260 : decode cL_law 1260 = .ok (.aload_n 2, 1) := by decide +kernel
theorem dL_law_1261 : decode cL_law 1261 = .ok (.invokevirtual 201, 3) := by decide +kernel
theorem dL_law_1264 : decode cL_law 1264 = .ok (.istore 6, 2) := by decide +kernel
theorem dL_law_1266 : decode cL_law 1266 = .ok (.aload_n 2, 1) := by decide +kernel
theorem dL_law_1267 : decode cL_law 1267 = .ok (.invokevirtual 128, 3) := by decide +kernel
theorem dL_law_1270 : decode cL_law 1270 = .ok (.iload 5, 2) := by decide +kernel
theorem dL_law_1272 : decode cL_law 1272 = .ok (.if_icmp .eq 5, 3) := by decide +kernel
theorem dL_law_1275 : decode cL_law 1275 = .ok (.iconst 0, 1) := by decide +kernel
theorem dL_law_1276 : decode cL_law 1276 = .ok (.ireturn, 1) := by decide +kernel
theorem dL_law_1277 : decode cL_law 1277 = .ok (.iload 5, 2) := by decide +kernel
theorem dL_law_1279 : decode cL_law 1279 = .ok (.ifCond .ne 15, 3) := by decide +kernel
theorem dL_law_1282 : decode cL_law 1282 = .ok (.aload_n 3, 1) := by decide +kernel
theorem dL_law_1283 : decode cL_law 1283 = .ok (.iconst 0, 1) := by decide +kernel
theorem dL_law_1284 : decode cL_law 1284 = .ok (.laload, 1) := by decide +kernel
theorem dL_law_1285 : decode cL_law 1285 = .ok (.iload 6, 2) := by decide +kernel
theorem dL_law_1287 : decode cL_law 1287 = .ok (.i2l, 1) := by decide +kernel
theorem dL_law_1288 : decode cL_law 1288 = .ok (.lcmp, 1) := by decide +kernel
theorem dL_law_1289 : decode cL_law 1289 = .ok (.ifCond .eq 5, 3) := by decide +kernel
theorem dL_law_1292 : decode cL_law 1292 = .ok (.iconst 0, 1) := by decide +kernel
theorem dL_law_1293 : decode cL_law 1293 = .ok (.ireturn, 1) := by decide +kernel
theorem dL_law_1294 : decode cL_law 1294 = .ok (.goto 635, 3) := by decide +kernel
theorem dL_law_1297 : decode cL_law 1297 = .ok (.aload_n 1, 1) := by decide +kernel
theorem dL_law_1298 : decode cL_law 1298 = .ok (.aload_n 3, 1) := by decide +kernel
theorem dL_law_1299 : decode cL_law 1299 = .ok (.invokestatic 202, 3) := by decide +kernel
theorem dL_law_1302 : decode cL_law 1302 = .ok (.istore 5, 2) := by decide +kernel
theorem dL_law_1304 : decode cL_law 1304 = .ok (.aload_n 2, 1) := by decide +kernel
theorem dL_law_1305 : decode cL_law 1305 = .ok (.invokevirtual 204, 3) := by decide +kernel
theorem dL_law_1308 : decode cL_law 1308 = .ok (.istore 6, 2) := by decide +kernel
theorem dL_law_1310 : decode cL_law 1310 = .ok (.aload_n 2, 1) := by decide +kernel
theorem dL_law_1311 : decode cL_law 1311 = .ok (.invokevirtual 128, 3) := by decide +kernel
theorem dL_law_1314 : decode cL_law 1314 = .ok (.iload 5, 2) := by decide +kernel
theorem dL_law_1316 : decode cL_law 1316 = .ok (.if_icmp .eq 5, 3) := by decide +kernel
theorem dL_law_1319 : decode cL_law 1319 = .ok (.iconst 0, 1) := by decide +kernel
theorem dL_law_1320 : decode cL_law 1320 = .ok (.ireturn, 1) := by decide +kernel
theorem dL_law_1321 : decode cL_law 1321 = .ok (.iload 5, 2) := by decide +kernel
theorem dL_law_1323 : decode cL_law 1323 = .ok (.ifCond .ne 15, 3) := by decide +kernel
theorem dL_law_1326 : decode cL_law 1326 = .ok (.aload_n 3, 1) := by decide +kernel
theorem dL_law_1327 : decode cL_law 1327 = .ok (.iconst 0, 1) := by decide +kernel
theorem dL_law_1328 : decode cL_law 1328 = .ok (.laload, 1) := by decide +kernel
theorem dL_law_1329 : decode cL_law 1329 = .ok (.iload 6, 2) := by decide +kernel
theorem dL_law_1331 : decode cL_law 1331 = .ok (.i2l, 1) := by decide +kernel
theorem dL_law_1332 : decode cL_law 1332 = .ok (.lcmp, 1) := by decide +kernel
theorem dL_law_1333 : decode cL_law 1333 = .ok (.ifCond .eq 5, 3) := by decide +kernel
theorem dL_law_1336 : decode cL_law 1336 = .ok (.iconst 0, 1) := by decide +kernel
theorem dL_law_1337 : decode cL_law 1337 = .ok (.ireturn, 1) := by decide +kernel
theorem dL_law_1338 : decode cL_law 1338 = .ok (.goto 591, 3) := by decide +kernel
theorem dL_law_1341 : decode cL_law 1341 = .ok (.aload_n 1, 1) := by decide +kernel
theorem dL_law_1342 : decode cL_law 1342 = .ok (.aload_n 3, 1) := by decide +kernel
theorem dL_law_1343 : decode cL_law 1343 = .ok (.invokestatic 205, 3) := by decide +kernel
theorem dL_law_1346 : decode cL_law 1346 = .ok (.istore 5, 2) := by decide +kernel
theorem dL_law_1348 : decode cL_law 1348 = .ok (.aload_n 2, 1) := by decide +kernel
theorem dL_law_1349 : decode cL_law 1349 = .ok (.invokevirtual 207, 3) := by decide +kernel
theorem dL_law_1352 : decode cL_law 1352 = .ok (.istore 6, 2) := by decide +kernel
theorem dL_law_1354 : decode cL_law 1354 = .ok (.aload_n 2, 1) := by decide +kernel
theorem dL_law_1355 : decode cL_law 1355 = .ok (.invokevirtual 128, 3) := by decide +kernel
theorem dL_law_1358 : decode cL_law 1358 = .ok (.iload 5, 2) := by decide +kernel
theorem dL_law_1360 : decode cL_law 1360 = .ok (.if_icmp .eq 5, 3) := by decide +kernel
theorem dL_law_1363 : decode cL_law 1363 = .ok (.iconst 0, 1) := by decide +kernel
theorem dL_law_1364 : decode cL_law 1364 = .ok (.ireturn, 1) := by decide +kernel
theorem dL_law_1365 : decode cL_law 1365 = .ok (.iload 5, 2) := by decide +kernel
theorem dL_law_1367 : decode cL_law 1367 = .ok (.ifCond .ne 15, 3) := by decide +kernel
theorem dL_law_1370 : decode cL_law 1370 = .ok (.aload_n 3, 1) := by decide +kernel
theorem dL_law_1371 : decode cL_law 1371 = .ok (.iconst 0, 1) := by decide +kernel
theorem dL_law_1372 : decode cL_law 1372 = .ok (.laload, 1) := by decide +kernel
theorem dL_law_1373 : decode cL_law 1373 = .ok (.iload 6, 2) := by decide +kernel
theorem dL_law_1375 : decode cL_law 1375 = .ok (.i2l, 1) := by decide +kernel
theorem dL_law_1376 : decode cL_law 1376 = .ok (.lcmp, 1) := by decide +kernel
theorem dL_law_1377 : decode cL_law 1377 = .ok (.ifCond .eq 5, 3) := by decide +kernel
theorem dL_law_1380 : decode cL_law 1380 = .ok (.iconst 0, 1) := by decide +kernel
theorem dL_law_1381 : decode cL_law 1381 = .ok (.ireturn, 1) := by decide +kernel
theorem dL_law_1382 : decode cL_law 1382 = .ok (.goto 547, 3) := by decide +kernel
theorem dL_law_1385 : decode cL_law 1385 = .ok (.aload_n 1, 1) := by decide +kernel
theorem dL_law_1386 : decode cL_law 1386 = .ok (.aload_n 3, 1) := by decide +kernel
theorem dL_law_1387 : decode cL_law 1387 = .ok (.invokestatic 208, 3) := by decide +kernel
theorem dL_law_1390 : decode cL_law 1390 = .ok (.istore 5, 2) := by decide +kernel
theorem dL_law_1392 : decode cL_law 1392 = .ok (.aload_n 2, 1) := by decide +kernel
theorem dL_law_1393 : decode cL_law 1393 = .ok (.invokevirtual 210, 3) := by decide +kernel
theorem dL_law_1396 : decode cL_law 1396 = .ok (.istore 6, 2) := by decide +kernel
theorem dL_law_1398 : decode cL_law 1398 = .ok (.aload_n 2, 1) := by decide +kernel
theorem dL_law_1399 : decode cL_law 1399 = .ok (.invokevirtual 128, 3) := by decide +kernel
theorem dL_law_1402 : decode cL_law 1402 = .ok (.iload 5, 2) := by decide +kernel
theorem dL_law_1404 : decode cL_law 1404 = .ok (.if_icmp .eq 5, 3) := by decide +kernel
theorem dL_law_1407 : decode cL_law 1407 = .ok (.iconst 0, 1) := by decide +kernel
theorem dL_law_1408 : decode cL_law 1408 = .ok (.ireturn, 1) := by decide +kernel
theorem dL_law_1409 : decode cL_law 1409 = .ok (.iload 5, 2) := by decide +kernel
theorem dL_law_1411 : decode cL_law 1411 = .ok (.ifCond .ne 15, 3) := by decide +kernel
theorem dL_law_1414 : decode cL_law 1414 = .ok (.aload_n 3, 1) := by decide +kernel
theorem dL_law_1415 : decode cL_law 1415 = .ok (.iconst 0, 1) := by decide +kernel
theorem dL_law_1416 : decode cL_law 1416 = .ok (.laload, 1) := by decide +kernel
theorem dL_law_1417 : decode cL_law 1417 = .ok (.iload 6, 2) := by decide +kernel
theorem dL_law_1419 : decode cL_law 1419 = .ok (.i2l, 1) := by decide +kernel
theorem dL_law_1420 : decode cL_law 1420 = .ok (.lcmp, 1) := by decide +kernel
theorem dL_law_1421 : decode cL_law 1421 = .ok (.ifCond .eq 5, 3) := by decide +kernel
theorem dL_law_1424 : decode cL_law 1424 = .ok (.iconst 0, 1) := by decide +kernel
theorem dL_law_1425 : decode cL_law 1425 = .ok (.ireturn, 1) := by decide +kernel
theorem dL_law_1426 : decode cL_law 1426 = .ok (.goto 503, 3) := by decide +kernel
theorem dL_law_1429 : decode cL_law 1429 = .ok (.aload_n 1, 1) := by decide +kernel
theorem dL_law_1430 : decode cL_law 1430 = .ok (.aload_n 3, 1) := by decide +kernel
theorem dL_law_1431 : decode cL_law 1431 = .ok (.invokestatic 211, 3) := by decide +kernel
theorem dL_law_1434 : decode cL_law 1434 = .ok (.istore 5, 2) := by decide +kernel
theorem dL_law_1436 : decode cL_law 1436 = .ok (.aload_n 2, 1) := by decide +kernel
theorem dL_law_1437 : decode cL_law 1437 = .ok (.invokevirtual 213, 3) := by decide +kernel
theorem dL_law_1440 : decode cL_law 1440 = .ok (.istore 6, 2) := by decide +kernel
theorem dL_law_1442 : decode cL_law 1442 = .ok (.aload_n 2, 1) := by decide +kernel
theorem dL_law_1443 : decode cL_law 1443 = .ok (.invokevirtual 128, 3) := by decide +kernel
theorem dL_law_1446 : decode cL_law 1446 = .ok (.iload 5, 2) := by decide +kernel
theorem dL_law_1448 : decode cL_law 1448 = .ok (.if_icmp .eq 5, 3) := by decide +kernel
theorem dL_law_1451 : decode cL_law 1451 = .ok (.iconst 0, 1) := by decide +kernel
theorem dL_law_1452 : decode cL_law 1452 = .ok (.ireturn, 1) := by decide +kernel
theorem dL_law_1453 : decode cL_law 1453 = .ok (.iload 5, 2) := by decide +kernel
theorem dL_law_1455 : decode cL_law 1455 = .ok (.ifCond .ne 15, 3) := by decide +kernel
theorem dL_law_1458 : decode cL_law 1458 = .ok (.aload_n 3, 1) := by decide +kernel
theorem dL_law_1459 : decode cL_law 1459 = .ok (.iconst 0, 1) := by decide +kernel
theorem dL_law_1460 : decode cL_law 1460 = .ok (.laload, 1) := by decide +kernel
theorem dL_law_1461 : decode cL_law 1461 = .ok (.iload 6, 2) := by decide +kernel
theorem dL_law_1463 : decode cL_law 1463 = .ok (.i2l, 1) := by decide +kernel
theorem dL_law_1464 : decode cL_law 1464 = .ok (.lcmp, 1) := by decide +kernel
theorem dL_law_1465 : decode cL_law 1465 = .ok (.ifCond .eq 5, 3) := by decide +kernel
theorem dL_law_1468 : decode cL_law 1468 = .ok (.iconst 0, 1) := by decide +kernel
theorem dL_law_1469 : decode cL_law 1469 = .ok (.ireturn, 1) := by decide +kernel
theorem dL_law_1470 : decode cL_law 1470 = .ok (.goto 459, 3) := by decide +kernel
theorem dL_law_1473 : decode cL_law 1473 = .ok (.aload_n 1, 1) := by decide +kernel
theorem dL_law_1474 : decode cL_law 1474 = .ok (.aload_n 3, 1) := by decide +kernel
theorem dL_law_1475 : decode cL_law 1475 = .ok (.invokestatic 214, 3) := by decide +kernel
theorem dL_law_1478 : decode cL_law 1478 = .ok (.istore 5, 2) := by decide +kernel
theorem dL_law_1480 : decode cL_law 1480 = .ok (.aload_n 2, 1) := by decide +kernel
theorem dL_law_1481 : decode cL_law 1481 = .ok (.invokevirtual 216, 3) := by decide +kernel
theorem dL_law_1484 : decode cL_law 1484 = .ok (.istore 6, 2) := by decide +kernel
theorem dL_law_1486 : decode cL_law 1486 = .ok (.aload_n 2, 1) := by decide +kernel
theorem dL_law_1487 : decode cL_law 1487 = .ok (.invokevirtual 128, 3) := by decide +kernel
theorem dL_law_1490 : decode cL_law 1490 = .ok (.iload 5, 2) := by decide +kernel
theorem dL_law_1492 : decode cL_law 1492 = .ok (.if_icmp .eq 5, 3) := by decide +kernel
theorem dL_law_1495 : decode cL_law 1495 = .ok (.iconst 0, 1) := by decide +kernel
theorem dL_law_1496 : decode cL_law 1496 = .ok (.ireturn, 1) := by decide +kernel
theorem dL_law_1497 : decode cL_law 1497 = .ok (.iload 5, 2) := by decide +kernel
theorem dL_law_1499 : decode cL_law 1499 = .ok (.ifCond .ne 15, 3) := by decide +kernel
theorem dL_law_1502 : decode cL_law 1502 = .ok (.aload_n 3, 1) := by decide +kernel
theorem dL_law_1503 : decode cL_law 1503 = .ok (.iconst 0, 1) := by decide +kernel
theorem dL_law_1504 : decode cL_law 1504 = .ok (.laload, 1) := by decide +kernel
theorem dL_law_1505 : decode cL_law 1505 = .ok (.iload 6, 2) := by decide +kernel
theorem dL_law_1507 : decode cL_law 1507 = .ok (.i2l, 1) := by decide +kernel
theorem dL_law_1508 : decode cL_law 1508 = .ok (.lcmp, 1) := by decide +kernel
theorem dL_law_1509 : decode cL_law 1509 = .ok (.ifCond .eq 5, 3) := by decide +kernel
theorem dL_law_1512 : decode cL_law 1512 = .ok (.iconst 0, 1) := by decide +kernel
theorem dL_law_1513 : decode cL_law 1513 = .ok (.ireturn, 1) := by decide +kernel
theorem dL_law_1514 : decode cL_law 1514 = .ok (.goto 415, 3) := by decide +kernel
theorem dL_law_1517 : decode cL_law 1517 = .ok (.aload_n 1, 1) := by decide +kernel
theorem dL_law_1518 : decode cL_law 1518 = .ok (.aload_n 3, 1) := by decide +kernel
theorem dL_law_1519 : decode cL_law 1519 = .ok (.invokestatic 217, 3) := by decide +kernel
theorem dL_law_1522 : decode cL_law 1522 = .ok (.istore 5, 2) := by decide +kernel
theorem dL_law_1524 : decode cL_law 1524 = .ok (.aload_n 2, 1) := by decide +kernel
theorem dL_law_1525 : decode cL_law 1525 = .ok (.invokevirtual 219, 3) := by decide +kernel
theorem dL_law_1528 : decode cL_law 1528 = .ok (.istore 6, 2) := by decide +kernel
theorem dL_law_1530 : decode cL_law 1530 = .ok (.aload_n 2, 1) := by decide +kernel
theorem dL_law_1531 : decode cL_law 1531 = .ok (.invokevirtual 128, 3) := by decide +kernel
theorem dL_law_1534 : decode cL_law 1534 = .ok (.iload 5, 2) := by decide +kernel
theorem dL_law_1536 : decode cL_law 1536 = .ok (.if_icmp .eq 5, 3) := by decide +kernel
theorem dL_law_1539 : decode cL_law 1539 = .ok (.iconst 0, 1) := by decide +kernel
theorem dL_law_1540 : decode cL_law 1540 = .ok (.ireturn, 1) := by decide +kernel
theorem dL_law_1541 : decode cL_law 1541 = .ok (.iload 5, 2) := by decide +kernel
theorem dL_law_1543 : decode cL_law 1543 = .ok (.ifCond .ne 15, 3) := by decide +kernel
theorem dL_law_1546 : decode cL_law 1546 = .ok (.aload_n 3, 1) := by decide +kernel
theorem dL_law_1547 : decode cL_law 1547 = .ok (.iconst 0, 1) := by decide +kernel
theorem dL_law_1548 : decode cL_law 1548 = .ok (.laload, 1) := by decide +kernel
theorem dL_law_1549 : decode cL_law 1549 = .ok (.iload 6, 2) := by decide +kernel
theorem dL_law_1551 : decode cL_law 1551 = .ok (.i2l, 1) := by decide +kernel
theorem dL_law_1552 : decode cL_law 1552 = .ok (.lcmp, 1) := by decide +kernel
theorem dL_law_1553 : decode cL_law 1553 = .ok (.ifCond .eq 5, 3) := by decide +kernel
theorem dL_law_1556 : decode cL_law 1556 = .ok (.iconst 0, 1) := by decide +kernel
theorem dL_law_1557 : decode cL_law 1557 = .ok (.ireturn, 1) := by decide +kernel
theorem dL_law_1558 : decode cL_law 1558 = .ok (.goto 371, 3) := by decide +kernel
theorem dL_law_1561 : decode cL_law 1561 = .ok (.aload_n 1, 1) := by decide +kernel
theorem dL_law_1562 : decode cL_law 1562 = .ok (.aload_n 3, 1) := by decide +kernel
theorem dL_law_1563 : decode cL_law 1563 = .ok (.invokestatic 220, 3) := by decide +kernel
theorem dL_law_1566 : decode cL_law 1566 = .ok (.istore 5, 2) := by decide +kernel
theorem dL_law_1568 : decode cL_law 1568 = .ok (.aload_n 2, 1) := by decide +kernel
theorem dL_law_1569 : decode cL_law 1569 = .ok (.invokevirtual 222, 3) := by decide +kernel
theorem dL_law_1572 : decode cL_law 1572 = .ok (.istore 6, 2) := by decide +kernel
theorem dL_law_1574 : decode cL_law 1574 = .ok (.aload_n 2, 1) := by decide +kernel
theorem dL_law_1575 : decode cL_law 1575 = .ok (.invokevirtual 128, 3) := by decide +kernel
theorem dL_law_1578 : decode cL_law 1578 = .ok (.iload 5, 2) := by decide +kernel
theorem dL_law_1580 : decode cL_law 1580 = .ok (.if_icmp .eq 5, 3) := by decide +kernel
theorem dL_law_1583 : decode cL_law 1583 = .ok (.iconst 0, 1) := by decide +kernel
theorem dL_law_1584 : decode cL_law 1584 = .ok (.ireturn, 1) := by decide +kernel
theorem dL_law_1585 : decode cL_law 1585 = .ok (.iload 5, 2) := by decide +kernel
theorem dL_law_1587 : decode cL_law 1587 = .ok (.ifCond .ne 15, 3) := by decide +kernel
theorem dL_law_1590 : decode cL_law 1590 = .ok (.aload_n 3, 1) := by decide +kernel
theorem dL_law_1591 : decode cL_law 1591 = .ok (.iconst 0, 1) := by decide +kernel
theorem dL_law_1592 : decode cL_law 1592 = .ok (.laload, 1) := by decide +kernel
theorem dL_law_1593 : decode cL_law 1593 = .ok (.iload 6, 2) := by decide +kernel
theorem dL_law_1595 : decode cL_law 1595 = .ok (.i2l, 1) := by decide +kernel
theorem dL_law_1596 : decode cL_law 1596 = .ok (.lcmp, 1) := by decide +kernel
theorem dL_law_1597 : decode cL_law 1597 = .ok (.ifCond .eq 5, 3) := by decide +kernel
theorem dL_law_1600 : decode cL_law 1600 = .ok (.iconst 0, 1) := by decide +kernel
theorem dL_law_1601 : decode cL_law 1601 = .ok (.ireturn, 1) := by decide +kernel
theorem dL_law_1602 : decode cL_law 1602 = .ok (.goto 327, 3) := by decide +kernel
theorem dL_law_1605 : decode cL_law 1605 = .ok (.aload_n 1, 1) := by decide +kernel
theorem dL_law_1606 : decode cL_law 1606 = .ok (.aload_n 3, 1) := by decide +kernel
theorem dL_law_1607 : decode cL_law 1607 = .ok (.invokestatic 223, 3) := by decide +kernel
theorem dL_law_1610 : decode cL_law 1610 = .ok (.istore 5, 2) := by decide +kernel
theorem dL_law_1612 : decode cL_law 1612 = .ok (.aload_n 2, 1) := by decide +kernel
theorem dL_law_1613 : decode cL_law 1613 = .ok (.invokevirtual 225, 3) := by decide +kernel
theorem dL_law_1616 : decode cL_law 1616 = .ok (.istore 6, 2) := by decide +kernel
theorem dL_law_1618 : decode cL_law 1618 = .ok (.aload_n 2, 1) := by decide +kernel
theorem dL_law_1619 : decode cL_law 1619 = .ok (.invokevirtual 128, 3) := by decide +kernel
theorem dL_law_1622 : decode cL_law 1622 = .ok (.iload 5, 2) := by decide +kernel
theorem dL_law_1624 : decode cL_law 1624 = .ok (.if_icmp .eq 5, 3) := by decide +kernel
theorem dL_law_1627 : decode cL_law 1627 = .ok (.iconst 0, 1) := by decide +kernel
theorem dL_law_1628 : decode cL_law 1628 = .ok (.ireturn, 1) := by decide +kernel
theorem dL_law_1629 : decode cL_law 1629 = .ok (.iload 5, 2) := by decide +kernel
theorem dL_law_1631 : decode cL_law 1631 = .ok (.ifCond .ne 15, 3) := by decide +kernel
theorem dL_law_1634 : decode cL_law 1634 = .ok (.aload_n 3, 1) := by decide +kernel
theorem dL_law_1635 : decode cL_law 1635 = .ok (.iconst 0, 1) := by decide +kernel
theorem dL_law_1636 : decode cL_law 1636 = .ok (.laload, 1) := by decide +kernel
theorem dL_law_1637 : decode cL_law 1637 = .ok (.iload 6, 2) := by decide +kernel
theorem dL_law_1639 : decode cL_law 1639 = .ok (.i2l, 1) := by decide +kernel
theorem dL_law_1640 : decode cL_law 1640 = .ok (.lcmp, 1) := by decide +kernel
theorem dL_law_1641 : decode cL_law 1641 = .ok (.ifCond .eq 5, 3) := by decide +kernel
theorem dL_law_1644 : decode cL_law 1644 = .ok (.iconst 0, 1) := by decide +kernel
theorem dL_law_1645 : decode cL_law 1645 = .ok (.ireturn, 1) := by decide +kernel
theorem dL_law_1646 : decode cL_law 1646 = .ok (.goto 283, 3) := by decide +kernel
theorem dL_law_1649 : decode cL_law 1649 = .ok (.aload_n 1, 1) := by decide +kernel
theorem dL_law_1650 : decode cL_law 1650 = .ok (.aload_n 3, 1) := by decide +kernel
theorem dL_law_1651 : decode cL_law 1651 = .ok (.invokestatic 226, 3) := by decide +kernel
theorem dL_law_1654 : decode cL_law 1654 = .ok (.istore 5, 2) := by decide +kernel
theorem dL_law_1656 : decode cL_law 1656 = .ok (.aload_n 2, 1) := by decide +kernel
theorem dL_law_1657 : decode cL_law 1657 = .ok (.invokevirtual 228, 3) := by decide +kernel
theorem dL_law_1660 : decode cL_law 1660 = .ok (.istore 6, 2) := by decide +kernel
theorem dL_law_1662 : decode cL_law 1662 = .ok (.aload_n 2, 1) := by decide +kernel
theorem dL_law_1663 : decode cL_law 1663 = .ok (.invokevirtual 128, 3) := by decide +kernel
theorem dL_law_1666 : decode cL_law 1666 = .ok (.iload 5, 2) := by decide +kernel
theorem dL_law_1668 : decode cL_law 1668 = .ok (.if_icmp .eq 5, 3) := by decide +kernel
theorem dL_law_1671 : decode cL_law 1671 = .ok (.iconst 0, 1) := by decide +kernel
theorem dL_law_1672 : decode cL_law 1672 = .ok (.ireturn, 1) := by decide +kernel
theorem dL_law_1673 : decode cL_law 1673 = .ok (.iload 5, 2) := by decide +kernel
theorem dL_law_1675 : decode cL_law 1675 = .ok (.ifCond .ne 15, 3) := by decide +kernel
theorem dL_law_1678 : decode cL_law 1678 = .ok (.aload_n 3, 1) := by decide +kernel
theorem dL_law_1679 : decode cL_law 1679 = .ok (.iconst 0, 1) := by decide +kernel
theorem dL_law_1680 : decode cL_law 1680 = .ok (.laload, 1) := by decide +kernel
theorem dL_law_1681 : decode cL_law 1681 = .ok (.iload 6, 2) := by decide +kernel
theorem dL_law_1683 : decode cL_law 1683 = .ok (.i2l, 1) := by decide +kernel
theorem dL_law_1684 : decode cL_law 1684 = .ok (.lcmp, 1) := by decide +kernel
theorem dL_law_1685 : decode cL_law 1685 = .ok (.ifCond .eq 5, 3) := by decide +kernel
theorem dL_law_1688 : decode cL_law 1688 = .ok (.iconst 0, 1) := by decide +kernel
theorem dL_law_1689 : decode cL_law 1689 = .ok (.ireturn, 1) := by decide +kernel
theorem dL_law_1690 : decode cL_law 1690 = .ok (.goto 239, 3) := by decide +kernel
theorem dL_law_1693 : decode cL_law 1693 = .ok (.aload_n 1, 1) := by decide +kernel
theorem dL_law_1694 : decode cL_law 1694 = .ok (.aload_n 0, 1) := by decide +kernel
theorem dL_law_1695 : decode cL_law 1695 = .ok (.iload 4, 2) := by decide +kernel
theorem dL_law_1697 : decode cL_law 1697 = .ok (.iconst 1, 1) := by decide +kernel
theorem dL_law_1698 : decode cL_law 1698 = .ok (.iadd, 1) := by decide +kernel
theorem dL_law_1699 : decode cL_law 1699 = .ok (.iaload, 1) := by decide +kernel
theorem dL_law_1700 : decode cL_law 1700 = .ok (.aload_n 3, 1) := by decide +kernel
theorem dL_law_1701 : decode cL_law 1701 = .ok (.invokestatic 229, 3) := by decide +kernel
theorem dL_law_1704 : decode cL_law 1704 = .ok (.istore 5, 2) := by decide +kernel
theorem dL_law_1706 : decode cL_law 1706 = .ok (.aload_n 2, 1) := by decide +kernel
theorem dL_law_1707 : decode cL_law 1707 = .ok (.aload_n 0, 1) := by decide +kernel
theorem dL_law_1708 : decode cL_law 1708 = .ok (.iload 4, 2) := by decide +kernel
theorem dL_law_1710 : decode cL_law 1710 = .ok (.iconst 1, 1) := by decide +kernel
theorem dL_law_1711 : decode cL_law 1711 = .ok (.iadd, 1) := by decide +kernel
theorem dL_law_1712 : decode cL_law 1712 = .ok (.iaload, 1) := by decide +kernel
theorem dL_law_1713 : decode cL_law 1713 = .ok (.invokevirtual 231, 3) := by decide +kernel
theorem dL_law_1716 : decode cL_law 1716 = .ok (.istore 6, 2) := by decide +kernel
theorem dL_law_1718 : decode cL_law 1718 = .ok (.aload_n 2, 1) := by decide +kernel
theorem dL_law_1719 : decode cL_law 1719 = .ok (.invokevirtual 128, 3) := by decide +kernel
theorem dL_law_1722 : decode cL_law 1722 = .ok (.iload 5, 2) := by decide +kernel
theorem dL_law_1724 : decode cL_law 1724 = .ok (.if_icmp .eq 5, 3) := by decide +kernel
theorem dL_law_1727 : decode cL_law 1727 = .ok (.iconst 0, 1) := by decide +kernel
theorem dL_law_1728 : decode cL_law 1728 = .ok (.ireturn, 1) := by decide +kernel
theorem dL_law_1729 : decode cL_law 1729 = .ok (.iload 5, 2) := by decide +kernel
theorem dL_law_1731 : decode cL_law 1731 = .ok (.ifCond .ne 22, 3) := by decide +kernel
theorem dL_law_1734 : decode cL_law 1734 = .ok (.aload_n 3, 1) := by decide +kernel
theorem dL_law_1735 : decode cL_law 1735 = .ok (.iconst 0, 1) := by decide +kernel
theorem dL_law_1736 : decode cL_law 1736 = .ok (.laload, 1) := by decide +kernel
theorem dL_law_1737 : decode cL_law 1737 = .ok (.iload 6, 2) := by decide +kernel
theorem dL_law_1739 : decode cL_law 1739 = .ok (.ifCond .eq 7, 3) := by decide +kernel
theorem dL_law_1742 : decode cL_law 1742 = .ok (.lconst 1, 1) := by decide +kernel
theorem dL_law_1743 : decode cL_law 1743 = .ok (.goto 4, 3) := by decide +kernel
theorem dL_law_1746 : decode cL_law 1746 = .ok (.lconst 0, 1) := by decide +kernel
theorem dL_law_1747 : decode cL_law 1747 = .ok (.lcmp, 1) := by decide +kernel
theorem dL_law_1748 : decode cL_law 1748 = .ok (.ifCond .eq 5, 3) := by decide +kernel
theorem dL_law_1751 : decode cL_law 1751 = .ok (.iconst 0, 1) := by decide +kernel
theorem dL_law_1752 : decode cL_law 1752 = .ok (.ireturn, 1) := by decide +kernel
theorem dL_law_1753 : decode cL_law 1753 = .ok (.goto 176, 3) := by decide +kernel
theorem dL_law_1756 : decode cL_law 1756 = .ok (.aload_n 1, 1) := by decide +kernel
theorem dL_law_1757 : decode cL_law 1757 = .ok (.invokevirtual 232, 3) := by decide +kernel
theorem dL_law_1760 : decode cL_law 1760 = .ok (.aload_n 2, 1) := by decide +kernel
theorem dL_law_1761 : decode cL_law 1761 = .ok (.invokevirtual 235, 3) := by decide +kernel
theorem dL_law_1764 : decode cL_law 1764 = .ok (.if_icmp .eq 165, 3) := by decide +kernel
theorem dL_law_1767 : decode cL_law 1767 = .ok (.iconst 0, 1) := by decide +kernel
theorem dL_law_1768 : decode cL_law 1768 = .ok (.ireturn, 1) := by decide +kernel
theorem dL_law_1769 : decode cL_law 1769 = .ok (.aload_n 1, 1) := by decide +kernel
theorem dL_law_1770 : decode cL_law 1770 = .ok (.aload_n 0, 1) := by decide +kernel
theorem dL_law_1771 : decode cL_law 1771 = .ok (.iload 4, 2) := by decide +kernel
theorem dL_law_1773 : decode cL_law 1773 = .ok (.iconst 1, 1) := by decide +kernel
theorem dL_law_1774 : decode cL_law 1774 = .ok (.iadd, 1) := by decide +kernel
theorem dL_law_1775 : decode cL_law 1775 = .ok (.iaload, 1) := by decide +kernel
theorem dL_law_1776 : decode cL_law 1776 = .ok (.ifCond .eq 7, 3) := by decide +kernel
theorem dL_law_1779 : decode cL_law 1779 = .ok (.iconst 1, 1) := by decide +kernel
theorem dL_law_1780 : decode cL_law 1780 = .ok (.goto 4, 3) := by decide +kernel
theorem dL_law_1783 : decode cL_law 1783 = .ok (.iconst 0, 1) := by decide +kernel
theorem dL_law_1784 : decode cL_law 1784 = .ok (.aload_n 3, 1) := by decide +kernel
theorem dL_law_1785 : decode cL_law 1785 = .ok (.invokestatic 236, 3) := by decide +kernel
theorem dL_law_1788 : decode cL_law 1788 = .ok (.istore 5, 2) := by decide +kernel
theorem dL_law_1790 : decode cL_law 1790 = .ok (.aload_n 2, 1) := by decide +kernel
theorem dL_law_1791 : decode cL_law 1791 = .ok (.aload_n 0, 1) := by decide +kernel
theorem dL_law_1792 : decode cL_law 1792 = .ok (.iload 4, 2) := by decide +kernel
theorem dL_law_1794 : decode cL_law 1794 = .ok (.iconst 1, 1) := by decide +kernel
theorem dL_law_1795 : decode cL_law 1795 = .ok (.iadd, 1) := by decide +kernel
theorem dL_law_1796 : decode cL_law 1796 = .ok (.iaload, 1) := by decide +kernel
theorem dL_law_1797 : decode cL_law 1797 = .ok (.ifCond .eq 7, 3) := by decide +kernel
theorem dL_law_1800 : decode cL_law 1800 = .ok (.iconst 1, 1) := by decide +kernel
theorem dL_law_1801 : decode cL_law 1801 = .ok (.goto 4, 3) := by decide +kernel
theorem dL_law_1804 : decode cL_law 1804 = .ok (.iconst 0, 1) := by decide +kernel
theorem dL_law_1805 : decode cL_law 1805 = .ok (.invokevirtual 239, 3) := by decide +kernel
theorem dL_law_1808 : decode cL_law 1808 = .ok (.istore 6, 2) := by decide +kernel
theorem dL_law_1810 : decode cL_law 1810 = .ok (.aload_n 2, 1) := by decide +kernel
theorem dL_law_1811 : decode cL_law 1811 = .ok (.invokevirtual 128, 3) := by decide +kernel
theorem dL_law_1814 : decode cL_law 1814 = .ok (.iload 5, 2) := by decide +kernel
theorem dL_law_1816 : decode cL_law 1816 = .ok (.if_icmp .eq 5, 3) := by decide +kernel
theorem dL_law_1819 : decode cL_law 1819 = .ok (.iconst 0, 1) := by decide +kernel
theorem dL_law_1820 : decode cL_law 1820 = .ok (.ireturn, 1) := by decide +kernel
theorem dL_law_1821 : decode cL_law 1821 = .ok (.iload 5, 2) := by decide +kernel
theorem dL_law_1823 : decode cL_law 1823 = .ok (.ifCond .ne 15, 3) := by decide +kernel
theorem dL_law_1826 : decode cL_law 1826 = .ok (.aload_n 3, 1) := by decide +kernel
theorem dL_law_1827 : decode cL_law 1827 = .ok (.iconst 0, 1) := by decide +kernel
theorem dL_law_1828 : decode cL_law 1828 = .ok (.laload, 1) := by decide +kernel
theorem dL_law_1829 : decode cL_law 1829 = .ok (.iload 6, 2) := by decide +kernel
theorem dL_law_1831 : decode cL_law 1831 = .ok (.i2l, 1) := by decide +kernel
theorem dL_law_1832 : decode cL_law 1832 = .ok (.lcmp, 1) := by decide +kernel
theorem dL_law_1833 : decode cL_law 1833 = .ok (.ifCond .eq 5, 3) := by decide +kernel
theorem dL_law_1836 : decode cL_law 1836 = .ok (.iconst 0, 1) := by decide +kernel
theorem dL_law_1837 : decode cL_law 1837 = .ok (.ireturn, 1) := by decide +kernel
theorem dL_law_1838 : decode cL_law 1838 = .ok (.goto 91, 3) := by decide +kernel
theorem dL_law_1841 : decode cL_law 1841 = .ok (.aload_n 1, 1) := by decide +kernel
theorem dL_law_1842 : decode cL_law 1842 = .ok (.aload_n 3, 1) := by decide +kernel
theorem dL_law_1843 : decode cL_law 1843 = .ok (.invokestatic 240, 3) := by decide +kernel
theorem dL_law_1846 : decode cL_law 1846 = .ok (.istore 5, 2) := by decide +kernel
theorem dL_law_1848 : decode cL_law 1848 = .ok (.aload_n 2, 1) := by decide +kernel
theorem dL_law_1849 : decode cL_law 1849 = .ok (.invokevirtual 242, 3) := by decide +kernel
theorem dL_law_1852 : decode cL_law 1852 = .ok (.istore 6, 2) := by decide +kernel
theorem dL_law_1854 : decode cL_law 1854 = .ok (.aload_n 2, 1) := by decide +kernel
theorem dL_law_1855 : decode cL_law 1855 = .ok (.invokevirtual 128, 3) := by decide +kernel
theorem dL_law_1858 : decode cL_law 1858 = .ok (.iload 5, 2) := by decide +kernel
theorem dL_law_1860 : decode cL_law 1860 = .ok (.if_icmp .eq 5, 3) := by decide +kernel
theorem dL_law_1863 : decode cL_law 1863 = .ok (.iconst 0, 1) := by decide +kernel
theorem dL_law_1864 : decode cL_law 1864 = .ok (.ireturn, 1) := by decide +kernel
theorem dL_law_1865 : decode cL_law 1865 = .ok (.iload 5, 2) := by decide +kernel
theorem dL_law_1867 : decode cL_law 1867 = .ok (.ifCond .ne 15, 3) := by decide +kernel
theorem dL_law_1870 : decode cL_law 1870 = .ok (.aload_n 3, 1) := by decide +kernel
theorem dL_law_1871 : decode cL_law 1871 = .ok (.iconst 0, 1) := by decide +kernel
theorem dL_law_1872 : decode cL_law 1872 = .ok (.laload, 1) := by decide +kernel
theorem dL_law_1873 : decode cL_law 1873 = .ok (.iload 6, 2) := by decide +kernel
theorem dL_law_1875 : decode cL_law 1875 = .ok (.i2l, 1) := by decide +kernel
theorem dL_law_1876 : decode cL_law 1876 = .ok (.lcmp, 1) := by decide +kernel
theorem dL_law_1877 : decode cL_law 1877 = .ok (.ifCond .eq 5, 3) := by decide +kernel
theorem dL_law_1880 : decode cL_law 1880 = .ok (.iconst 0, 1) := by decide +kernel
theorem dL_law_1881 : decode cL_law 1881 = .ok (.ireturn, 1) := by decide +kernel
theorem dL_law_1882 : decode cL_law 1882 = .ok (.goto 47, 3) := by decide +kernel
theorem dL_law_1885 : decode cL_law 1885 = .ok (.aload_n 1, 1) := by decide +kernel
theorem dL_law_1886 : decode cL_law 1886 = .ok (.aload_n 3, 1) := by decide +kernel
theorem dL_law_1887 : decode cL_law 1887 = .ok (.invokestatic 243, 3) := by decide +kernel
theorem dL_law_1890 : decode cL_law 1890 = .ok (.istore 5, 2) := by decide +kernel
theorem dL_law_1892 : decode cL_law 1892 = .ok (.aload_n 2, 1) := by decide +kernel
theorem dL_law_1893 : decode cL_law 1893 = .ok (.invokevirtual 245, 3) := by decide +kernel
theorem dL_law_1896 : decode cL_law 1896 = .ok (.istore 6, 2) := by decide +kernel
theorem dL_law_1898 : decode cL_law 1898 = .ok (.aload_n 2, 1) := by decide +kernel
theorem dL_law_1899 : decode cL_law 1899 = .ok (.invokevirtual 128, 3) := by decide +kernel
theorem dL_law_1902 : decode cL_law 1902 = .ok (.iload 5, 2) := by decide +kernel
theorem dL_law_1904 : decode cL_law 1904 = .ok (.if_icmp .eq 5, 3) := by decide +kernel
theorem dL_law_1907 : decode cL_law 1907 = .ok (.iconst 0, 1) := by decide +kernel
theorem dL_law_1908 : decode cL_law 1908 = .ok (.ireturn, 1) := by decide +kernel
theorem dL_law_1909 : decode cL_law 1909 = .ok (.iload 5, 2) := by decide +kernel
theorem dL_law_1911 : decode cL_law 1911 = .ok (.ifCond .ne 15, 3) := by decide +kernel
theorem dL_law_1914 : decode cL_law 1914 = .ok (.aload_n 3, 1) := by decide +kernel
theorem dL_law_1915 : decode cL_law 1915 = .ok (.iconst 0, 1) := by decide +kernel
theorem dL_law_1916 : decode cL_law 1916 = .ok (.laload, 1) := by decide +kernel
theorem dL_law_1917 : decode cL_law 1917 = .ok (.iload 6, 2) := by decide +kernel
theorem dL_law_1919 : decode cL_law 1919 = .ok (.i2l, 1) := by decide +kernel
theorem dL_law_1920 : decode cL_law 1920 = .ok (.lcmp, 1) := by decide +kernel
theorem dL_law_1921 : decode cL_law 1921 = .ok (.ifCond .eq 5, 3) := by decide +kernel
theorem dL_law_1924 : decode cL_law 1924 = .ok (.iconst 0, 1) := by decide +kernel
theorem dL_law_1925 : decode cL_law 1925 = .ok (.ireturn, 1) := by decide +kernel
theorem dL_law_1926 : decode cL_law 1926 = .ok (.goto 3, 3) := by decide +kernel
theorem dL_law_1929 : decode cL_law 1929 = .ok (.iinc 4 7, 3) := by decide +kernel
theorem dL_law_1932 : decode cL_law 1932 = .ok (.goto (-1909), 3) := by decide +kernel
theorem dL_law_1935 : decode cL_law 1935 = .ok (.iconst 1, 1) := by decide +kernel
theorem dL_law_1936 : decode cL_law 1936 = .ok (.ireturn, 1) := by decide +kernel
