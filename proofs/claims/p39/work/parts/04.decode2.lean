theorem dX10_lengthsWithin_59 : decode cX10_lengthsWithin 59 = .ok (.iload 5, 2) := by decide +kernel
theorem dX10_lengthsWithin_61 : decode cX10_lengthsWithin 61 = .ok (.iaload, 1) := by decide +kernel
theorem dX10_lengthsWithin_62 : decode cX10_lengthsWithin 62 = .ok (.iadd, 1) := by decide +kernel
theorem dX10_lengthsWithin_63 : decode cX10_lengthsWithin 63 = .ok (.istore 4, 2) := by decide +kernel
theorem dX10_lengthsWithin_65 : decode cX10_lengthsWithin 65 = .ok (.iinc 5 1, 3) := by decide +kernel
theorem dX10_lengthsWithin_68 : decode cX10_lengthsWithin 68 = .ok (.goto (-62), 3) := by decide +kernel
theorem dX10_lengthsWithin_71 : decode cX10_lengthsWithin 71 = .ok (.iload 4, 2) := by decide +kernel
theorem dX10_lengthsWithin_73 : decode cX10_lengthsWithin 73 = .ok (.ireturn, 1) := by decide +kernel
theorem dX11_init_0 : decode cX11_init 0 = .ok (.aload_n 0, 1) := by decide +kernel
theorem dX11_init_1 : decode cX11_init 1 = .ok (.invokespecial 3, 3) := by decide +kernel
theorem dX11_init_4 : decode cX11_init 4 = .ok (.aload_n 0, 1) := by decide +kernel
theorem dX11_init_5 : decode cX11_init 5 = .ok (.new 9, 3) := by decide +kernel
theorem dX11_init_8 : decode cX11_init 8 = .ok (.dup, 1) := by decide +kernel
theorem dX11_init_9 : decode cX11_init 9 = .ok (.invokespecial 11, 3) := by decide +kernel
theorem dX11_init_12 : decode cX11_init 12 = .ok (.putfield 12, 3) := by decide +kernel
theorem dX11_init_15 : decode cX11_init 15 = .ok (.aload_n 0, 1) := by decide +kernel
theorem dX11_init_16 : decode cX11_init 16 = .ok (.new 16, 3) := by decide +kernel
theorem dX11_init_19 : decode cX11_init 19 = .ok (.dup, 1) := by decide +kernel
theorem dX11_init_20 : decode cX11_init 20 = .ok (.invokespecial 18, 3) := by decide +kernel
theorem dX11_init_23 : decode cX11_init 23 = .ok (.putfield 19, 3) := by decide +kernel
theorem dX11_init_26 : decode cX11_init 26 = .ok (.aload_n 0, 1) := by decide +kernel
theorem dX11_init_27 : decode cX11_init 27 = .ok (.new 23, 3) := by decide +kernel
theorem dX11_init_30 : decode cX11_init 30 = .ok (.dup, 1) := by decide +kernel
theorem dX11_init_31 : decode cX11_init 31 = .ok (.invokespecial 25, 3) := by decide +kernel
theorem dX11_init_34 : decode cX11_init 34 = .ok (.putfield 26, 3) := by decide +kernel
theorem dX11_init_37 : decode cX11_init 37 = .ok (.aload_n 0, 1) := by decide +kernel
theorem dX11_init_38 : decode cX11_init 38 = .ok (.new 30, 3) := by decide +kernel
theorem dX11_init_41 : decode cX11_init 41 = .ok (.dup, 1) := by decide +kernel
theorem dX11_init_42 : decode cX11_init 42 = .ok (.invokespecial 32, 3) := by decide +kernel
theorem dX11_init_45 : decode cX11_init 45 = .ok (.putfield 33, 3) := by decide +kernel
theorem dX11_init_48 : decode cX11_init 48 = .ok (.aload_n 0, 1) := by decide +kernel
theorem dX11_init_49 : decode cX11_init 49 = .ok (.new 37, 3) := by decide +kernel
theorem dX11_init_52 : decode cX11_init 52 = .ok (.dup, 1) := by decide +kernel
theorem dX11_init_53 : decode cX11_init 53 = .ok (.invokespecial 39, 3) := by decide +kernel
theorem dX11_init_56 : decode cX11_init 56 = .ok (.putfield 40, 3) := by decide +kernel
theorem dX11_init_59 : decode cX11_init 59 = .ok (.aload_n 0, 1) := by decide +kernel
theorem dX11_init_60 : decode cX11_init 60 = .ok (.new 44, 3) := by decide +kernel
theorem dX11_init_63 : decode cX11_init 63 = .ok (.dup, 1) := by decide +kernel
theorem dX11_init_64 : decode cX11_init 64 = .ok (.invokespecial 46, 3) := by decide +kernel
theorem dX11_init_67 : decode cX11_init 67 = .ok (.putfield 47, 3) := by decide +kernel
theorem dX11_init_70 : decode cX11_init 70 = .ok (.aload_n 0, 1) := by decide +kernel
theorem dX11_init_71 : decode cX11_init 71 = .ok (.new 51, 3) := by decide +kernel
theorem dX11_init_74 : decode cX11_init 74 = .ok (.dup, 1) := by decide +kernel
theorem dX11_init_75 : decode cX11_init 75 = .ok (.invokespecial 53, 3) := by decide +kernel
theorem dX11_init_78 : decode cX11_init 78 = .ok (.putfield 54, 3) := by decide +kernel
theorem dX11_init_81 : decode cX11_init 81 = .ok (.return_, 1) := by decide +kernel
theorem dX11_addJob_0 : decode cX11_addJob 0 = .ok (.iload_n 1, 1) := by decide +kernel
theorem dX11_addJob_1 : decode cX11_addJob 1 = .ok (.iload_n 2, 1) := by decide +kernel
theorem dX11_addJob_2 : decode cX11_addJob 2 = .ok (.iload_n 3, 1) := by decide +kernel
theorem dX11_addJob_3 : decode cX11_addJob 3 = .ok (.iload 4, 2) := by decide +kernel
theorem dX11_addJob_5 : decode cX11_addJob 5 = .ok (.iload 5, 2) := by decide +kernel
theorem dX11_addJob_7 : decode cX11_addJob 7 = .ok (.invokestatic 58, 3) := by decide +kernel
theorem dX11_addJob_10 : decode cX11_addJob 10 = .ok (.aload_n 0, 1) := by decide +kernel
theorem dX11_addJob_11 : decode cX11_addJob 11 = .ok (.getfield 12, 3) := by decide +kernel
theorem dX11_addJob_14 : decode cX11_addJob 14 = .ok (.getfield 62, 3) := by decide +kernel
theorem dX11_addJob_17 : decode cX11_addJob 17 = .ok (.bipush 10, 2) := by decide +kernel
theorem dX11_addJob_19 : decode cX11_addJob 19 = .ok (.if_icmp .lt 13, 3) := by decide +kernel
theorem dX11_addJob_22 : decode cX11_addJob 22 = .ok (.new 66, 3) := by decide +kernel
theorem dX11_addJob_25 : decode cX11_addJob 25 = .ok (.dup, 1) := by decide +kernel
theorem dX11_addJob_26 : decode cX11_addJob 26 = .ok (.ldc 68, 2) := by decide +kernel
theorem dX11_addJob_28 : decode cX11_addJob 28 = .ok (.invokespecial 70, 3) := by decide +kernel
theorem dX11_addJob_31 : decode cX11_addJob 31 = .ok (.athrow, 1) := by decide +kernel
theorem dX11_addJob_32 : decode cX11_addJob 32 = .ok (.aload_n 0, 1) := by decide +kernel
theorem dX11_addJob_33 : decode cX11_addJob 33 = .ok (.getfield 12, 3) := by decide +kernel
theorem dX11_addJob_36 : decode cX11_addJob 36 = .ok (.getfield 62, 3) := by decide +kernel
theorem dX11_addJob_39 : decode cX11_addJob 39 = .ok (.istore 6, 2) := by decide +kernel
theorem dX11_addJob_41 : decode cX11_addJob 41 = .ok (.aload_n 0, 1) := by decide +kernel
theorem dX11_addJob_42 : decode cX11_addJob 42 = .ok (.getfield 12, 3) := by decide +kernel
theorem dX11_addJob_45 : decode cX11_addJob 45 = .ok (.dup, 1) := by decide +kernel
theorem dX11_addJob_46 : decode cX11_addJob 46 = .ok (.getfield 62, 3) := by decide +kernel
theorem dX11_addJob_49 : decode cX11_addJob 49 = .ok (.iconst 1, 1) := by decide +kernel
theorem dX11_addJob_50 : decode cX11_addJob 50 = .ok (.iadd, 1) := by decide +kernel
theorem dX11_addJob_51 : decode cX11_addJob 51 = .ok (.putfield 62, 3) := by decide +kernel
theorem dX11_addJob_54 : decode cX11_addJob 54 = .ok (.aload_n 0, 1) := by decide +kernel
theorem dX11_addJob_55 : decode cX11_addJob 55 = .ok (.getfield 12, 3) := by decide +kernel
theorem dX11_addJob_58 : decode cX11_addJob 58 = .ok (.iload 6, 2) := by decide +kernel
theorem dX11_addJob_60 : decode cX11_addJob 60 = .ok (.iload_n 1, 1) := by decide +kernel
theorem dX11_addJob_61 : decode cX11_addJob 61 = .ok (.iload_n 2, 1) := by decide +kernel
theorem dX11_addJob_62 : decode cX11_addJob 62 = .ok (.iload_n 3, 1) := by decide +kernel
theorem dX11_addJob_63 : decode cX11_addJob 63 = .ok (.iload 4, 2) := by decide +kernel
theorem dX11_addJob_65 : decode cX11_addJob 65 = .ok (.iload 5, 2) := by decide +kernel
theorem dX11_addJob_67 : decode cX11_addJob 67 = .ok (.invokevirtual 73, 3) := by decide +kernel
theorem dX11_addJob_70 : decode cX11_addJob 70 = .ok (.aload_n 0, 1) := by decide +kernel
theorem dX11_addJob_71 : decode cX11_addJob 71 = .ok (.getfield 19, 3) := by decide +kernel
theorem dX11_addJob_74 : decode cX11_addJob 74 = .ok (.invokevirtual 77, 3) := by decide +kernel
theorem dX11_addJob_77 : decode cX11_addJob 77 = .ok (.iload 6, 2) := by decide +kernel
theorem dX11_addJob_79 : decode cX11_addJob 79 = .ok (.ireturn, 1) := by decide +kernel
theorem dX11_changeJob_0 : decode cX11_changeJob 0 = .ok (.aload_n 0, 1) := by decide +kernel
theorem dX11_changeJob_1 : decode cX11_changeJob 1 = .ok (.iload_n 1, 1) := by decide +kernel
theorem dX11_changeJob_2 : decode cX11_changeJob 2 = .ok (.invokevirtual 80, 3) := by decide +kernel
theorem dX11_changeJob_5 : decode cX11_changeJob 5 = .ok (.iload_n 2, 1) := by decide +kernel
theorem dX11_changeJob_6 : decode cX11_changeJob 6 = .ok (.iload_n 3, 1) := by decide +kernel
theorem dX11_changeJob_7 : decode cX11_changeJob 7 = .ok (.iload 4, 2) := by decide +kernel
theorem dX11_changeJob_9 : decode cX11_changeJob 9 = .ok (.iload 5, 2) := by decide +kernel
theorem dX11_changeJob_11 : decode cX11_changeJob 11 = .ok (.iload 6, 2) := by decide +kernel
theorem dX11_changeJob_13 : decode cX11_changeJob 13 = .ok (.invokestatic 58, 3) := by decide +kernel
theorem dX11_changeJob_16 : decode cX11_changeJob 16 = .ok (.aload_n 0, 1) := by decide +kernel
theorem dX11_changeJob_17 : decode cX11_changeJob 17 = .ok (.getfield 12, 3) := by decide +kernel
theorem dX11_changeJob_20 : decode cX11_changeJob 20 = .ok (.iload_n 1, 1) := by decide +kernel
theorem dX11_changeJob_21 : decode cX11_changeJob 21 = .ok (.iload_n 2, 1) := by decide +kernel
theorem dX11_changeJob_22 : decode cX11_changeJob 22 = .ok (.iload_n 3, 1) := by decide +kernel
theorem dX11_changeJob_23 : decode cX11_changeJob 23 = .ok (.iload 4, 2) := by decide +kernel
theorem dX11_changeJob_25 : decode cX11_changeJob 25 = .ok (.iload 5, 2) := by decide +kernel
theorem dX11_changeJob_27 : decode cX11_changeJob 27 = .ok (.iload 6, 2) := by decide +kernel
theorem dX11_changeJob_29 : decode cX11_changeJob 29 = .ok (.invokevirtual 73, 3) := by decide +kernel
theorem dX11_changeJob_32 : decode cX11_changeJob 32 = .ok (.aload_n 0, 1) := by decide +kernel
theorem dX11_changeJob_33 : decode cX11_changeJob 33 = .ok (.getfield 19, 3) := by decide +kernel
theorem dX11_changeJob_36 : decode cX11_changeJob 36 = .ok (.invokevirtual 77, 3) := by decide +kernel
theorem dX11_changeJob_39 : decode cX11_changeJob 39 = .ok (.return_, 1) := by decide +kernel
theorem dX11_removeJob_0 : decode cX11_removeJob 0 = .ok (.aload_n 0, 1) := by decide +kernel
theorem dX11_removeJob_1 : decode cX11_removeJob 1 = .ok (.iload_n 1, 1) := by decide +kernel
theorem dX11_removeJob_2 : decode cX11_removeJob 2 = .ok (.invokevirtual 80, 3) := by decide +kernel
theorem dX11_removeJob_5 : decode cX11_removeJob 5 = .ok (.aload_n 0, 1) := by decide +kernel
theorem dX11_removeJob_6 : decode cX11_removeJob 6 = .ok (.getfield 12, 3) := by decide +kernel
theorem dX11_removeJob_9 : decode cX11_removeJob 9 = .ok (.iload_n 1, 1) := by decide +kernel
theorem dX11_removeJob_10 : decode cX11_removeJob 10 = .ok (.invokevirtual 84, 3) := by decide +kernel
theorem dX11_removeJob_13 : decode cX11_removeJob 13 = .ok (.aload_n 0, 1) := by decide +kernel
theorem dX11_removeJob_14 : decode cX11_removeJob 14 = .ok (.getfield 19, 3) := by decide +kernel
theorem dX11_removeJob_17 : decode cX11_removeJob 17 = .ok (.invokevirtual 77, 3) := by decide +kernel
theorem dX11_removeJob_20 : decode cX11_removeJob 20 = .ok (.aload_n 0, 1) := by decide +kernel
theorem dX11_removeJob_21 : decode cX11_removeJob 21 = .ok (.getfield 12, 3) := by decide +kernel
theorem dX11_removeJob_24 : decode cX11_removeJob 24 = .ok (.getfield 62, 3) := by decide +kernel
theorem dX11_removeJob_27 : decode cX11_removeJob 27 = .ok (.ireturn, 1) := by decide +kernel
theorem dX11_setSetup_0 : decode cX11_setSetup 0 = .ok (.iload_n 1, 1) := by decide +kernel
theorem dX11_setSetup_1 : decode cX11_setSetup 1 = .ok (.iconst 0, 1) := by decide +kernel
theorem dX11_setSetup_2 : decode cX11_setSetup 2 = .ok (.iconst 3, 1) := by decide +kernel
theorem dX11_setSetup_3 : decode cX11_setSetup 3 = .ok (.invokestatic 87, 3) := by decide +kernel
theorem dX11_setSetup_6 : decode cX11_setSetup 6 = .ok (.ifCond .ne 13, 3) := by decide +kernel
theorem dX11_setSetup_9 : decode cX11_setSetup 9 = .ok (.new 91, 3) := by decide +kernel
theorem dX11_setSetup_12 : decode cX11_setSetup 12 = .ok (.dup, 1) := by decide +kernel
theorem dX11_setSetup_13 : decode cX11_setSetup 13 = .ok (.ldc 93, 2) := by decide +kernel
theorem dX11_setSetup_15 : decode cX11_setSetup 15 = .ok (.invokespecial 95, 3) := by decide +kernel
theorem dX11_setSetup_18 : decode cX11_setSetup 18 = .ok (.athrow, 1) := by decide +kernel
theorem dX11_setSetup_19 : decode cX11_setSetup 19 = .ok (.iload_n 2, 1) := by decide +kernel
theorem dX11_setSetup_20 : decode cX11_setSetup 20 = .ok (.iconst 0, 1) := by decide +kernel
theorem dX11_setSetup_21 : decode cX11_setSetup 21 = .ok (.bipush 20, 2) := by decide +kernel
theorem dX11_setSetup_23 : decode cX11_setSetup 23 = .ok (.invokestatic 87, 3) := by decide +kernel
theorem dX11_setSetup_26 : decode cX11_setSetup 26 = .ok (.ifCond .ne 13, 3) := by decide +kernel
theorem dX11_setSetup_29 : decode cX11_setSetup 29 = .ok (.new 96, 3) := by decide +kernel
theorem dX11_setSetup_32 : decode cX11_setSetup 32 = .ok (.dup, 1) := by decide +kernel
theorem dX11_setSetup_33 : decode cX11_setSetup 33 = .ok (.ldc 98, 2) := by decide +kernel
theorem dX11_setSetup_35 : decode cX11_setSetup 35 = .ok (.invokespecial 100, 3) := by decide +kernel
theorem dX11_setSetup_38 : decode cX11_setSetup 38 = .ok (.athrow, 1) := by decide +kernel
theorem dX11_setSetup_39 : decode cX11_setSetup 39 = .ok (.aload_n 0, 1) := by decide +kernel
theorem dX11_setSetup_40 : decode cX11_setSetup 40 = .ok (.getfield 12, 3) := by decide +kernel
theorem dX11_setSetup_43 : decode cX11_setSetup 43 = .ok (.getfield 101, 3) := by decide +kernel
theorem dX11_setSetup_46 : decode cX11_setSetup 46 = .ok (.iload_n 1, 1) := by decide +kernel
theorem dX11_setSetup_47 : decode cX11_setSetup 47 = .ok (.iaload, 1) := by decide +kernel
theorem dX11_setSetup_48 : decode cX11_setSetup 48 = .ok (.istore_n 3, 1) := by decide +kernel
theorem dX11_setSetup_49 : decode cX11_setSetup 49 = .ok (.aload_n 0, 1) := by decide +kernel
theorem dX11_setSetup_50 : decode cX11_setSetup 50 = .ok (.getfield 12, 3) := by decide +kernel
theorem dX11_setSetup_53 : decode cX11_setSetup 53 = .ok (.getfield 101, 3) := by decide +kernel
theorem dX11_setSetup_56 : decode cX11_setSetup 56 = .ok (.iload_n 1, 1) := by decide +kernel
theorem dX11_setSetup_57 : decode cX11_setSetup 57 = .ok (.iload_n 2, 1) := by decide +kernel
theorem dX11_setSetup_58 : decode cX11_setSetup 58 = .ok (.iastore, 1) := by decide +kernel
theorem dX11_setSetup_59 : decode cX11_setSetup 59 = .ok (.aload_n 0, 1) := by decide +kernel
theorem dX11_setSetup_60 : decode cX11_setSetup 60 = .ok (.getfield 19, 3) := by decide +kernel
theorem dX11_setSetup_63 : decode cX11_setSetup 63 = .ok (.invokevirtual 77, 3) := by decide +kernel
theorem dX11_setSetup_66 : decode cX11_setSetup 66 = .ok (.iload_n 3, 1) := by decide +kernel
theorem dX11_setSetup_67 : decode cX11_setSetup 67 = .ok (.ireturn, 1) := by decide +kernel
theorem dX11_jobs_0 : decode cX11_jobs 0 = .ok (.aload_n 0, 1) := by decide +kernel
theorem dX11_jobs_1 : decode cX11_jobs 1 = .ok (.getfield 12, 3) := by decide +kernel
theorem dX11_jobs_4 : decode cX11_jobs 4 = .ok (.getfield 62, 3) := by decide +kernel
theorem dX11_jobs_7 : decode cX11_jobs 7 = .ok (.ireturn, 1) := by decide +kernel
theorem dX11_planByDueDates_0 : decode cX11_planByDueDates 0 = .ok (.aload_n 0, 1) := by decide +kernel
theorem dX11_planByDueDates_1 : decode cX11_planByDueDates 1 = .ok (.invokevirtual 105, 3) := by decide +kernel
theorem dX11_planByDueDates_4 : decode cX11_planByDueDates 4 = .ok (.aload_n 0, 1) := by decide +kernel
theorem dX11_planByDueDates_5 : decode cX11_planByDueDates 5 = .ok (.getfield 26, 3) := by decide +kernel
theorem dX11_planByDueDates_8 : decode cX11_planByDueDates 8 = .ok (.aload_n 0, 1) := by decide +kernel
theorem dX11_planByDueDates_9 : decode cX11_planByDueDates 9 = .ok (.getfield 12, 3) := by decide +kernel
theorem dX11_planByDueDates_12 : decode cX11_planByDueDates 12 = .ok (.invokevirtual 108, 3) := by decide +kernel
theorem dX11_planByDueDates_15 : decode cX11_planByDueDates 15 = .ok (.aload_n 0, 1) := by decide +kernel
theorem dX11_planByDueDates_16 : decode cX11_planByDueDates 16 = .ok (.getfield 19, 3) := by decide +kernel
theorem dX11_planByDueDates_19 : decode cX11_planByDueDates 19 = .ok (.aload_n 0, 1) := by decide +kernel
theorem dX11_planByDueDates_20 : decode cX11_planByDueDates 20 = .ok (.getfield 12, 3) := by decide +kernel
theorem dX11_planByDueDates_23 : decode cX11_planByDueDates 23 = .ok (.aload_n 0, 1) := by decide +kernel
theorem dX11_planByDueDates_24 : decode cX11_planByDueDates 24 = .ok (.getfield 26, 3) := by decide +kernel
theorem dX11_planByDueDates_27 : decode cX11_planByDueDates 27 = .ok (.getfield 112, 3) := by decide +kernel
theorem dX11_planByDueDates_30 : decode cX11_planByDueDates 30 = .ok (.iconst 0, 1) := by decide +kernel
theorem dX11_planByDueDates_31 : decode cX11_planByDueDates 31 = .ok (.invokevirtual 115, 3) := by decide +kernel
theorem dX11_planByDueDates_34 : decode cX11_planByDueDates 34 = .ok (.aload_n 0, 1) := by decide +kernel
theorem dX11_planByDueDates_35 : decode cX11_planByDueDates 35 = .ok (.getfield 19, 3) := by decide +kernel
theorem dX11_planByDueDates_38 : decode cX11_planByDueDates 38 = .ok (.aload_n 0, 1) := by decide +kernel
theorem dX11_planByDueDates_39 : decode cX11_planByDueDates 39 = .ok (.getfield 12, 3) := by decide +kernel
theorem dX11_planByDueDates_42 : decode cX11_planByDueDates 42 = .ok (.getstatic 119, 3) := by decide +kernel
theorem dX11_planByDueDates_45 : decode cX11_planByDueDates 45 = .ok (.invokevirtual 125, 3) := by decide +kernel
theorem dX11_planByDueDates_48 : decode cX11_planByDueDates 48 = .ok (.ireturn, 1) := by decide +kernel
theorem dX11_planFewestLate_0 : decode cX11_planFewestLate 0 = .ok (.aload_n 0, 1) := by decide +kernel
theorem dX11_planFewestLate_1 : decode cX11_planFewestLate 1 = .ok (.invokevirtual 105, 3) := by decide +kernel
theorem dX11_planFewestLate_4 : decode cX11_planFewestLate 4 = .ok (.aload_n 0, 1) := by decide +kernel
theorem dX11_planFewestLate_5 : decode cX11_planFewestLate 5 = .ok (.getfield 26, 3) := by decide +kernel
theorem dX11_planFewestLate_8 : decode cX11_planFewestLate 8 = .ok (.aload_n 0, 1) := by decide +kernel
theorem dX11_planFewestLate_9 : decode cX11_planFewestLate 9 = .ok (.getfield 12, 3) := by decide +kernel
theorem dX11_planFewestLate_12 : decode cX11_planFewestLate 12 = .ok (.invokevirtual 129, 3) := by decide +kernel
theorem dX11_planFewestLate_15 : decode cX11_planFewestLate 15 = .ok (.istore_n 1, 1) := by decide +kernel
theorem dX11_planFewestLate_16 : decode cX11_planFewestLate 16 = .ok (.aload_n 0, 1) := by decide +kernel
theorem dX11_planFewestLate_17 : decode cX11_planFewestLate 17 = .ok (.getfield 19, 3) := by decide +kernel
theorem dX11_planFewestLate_20 : decode cX11_planFewestLate 20 = .ok (.aload_n 0, 1) := by decide +kernel
theorem dX11_planFewestLate_21 : decode cX11_planFewestLate 21 = .ok (.getfield 12, 3) := by decide +kernel
theorem dX11_planFewestLate_24 : decode cX11_planFewestLate 24 = .ok (.aload_n 0, 1) := by decide +kernel
theorem dX11_planFewestLate_25 : decode cX11_planFewestLate 25 = .ok (.getfield 26, 3) := by decide +kernel
theorem dX11_planFewestLate_28 : decode cX11_planFewestLate 28 = .ok (.getfield 112, 3) := by decide +kernel
theorem dX11_planFewestLate_31 : decode cX11_planFewestLate 31 = .ok (.iconst 0, 1) := by decide +kernel
theorem dX11_planFewestLate_32 : decode cX11_planFewestLate 32 = .ok (.invokevirtual 115, 3) := by decide +kernel
theorem dX11_planFewestLate_35 : decode cX11_planFewestLate 35 = .ok (.iload_n 1, 1) := by decide +kernel
theorem dX11_planFewestLate_36 : decode cX11_planFewestLate 36 = .ok (.ireturn, 1) := by decide +kernel
theorem dX11_planByRatios_0 : decode cX11_planByRatios 0 = .ok (.aload_n 0, 1) := by decide +kernel
theorem dX11_planByRatios_1 : decode cX11_planByRatios 1 = .ok (.invokevirtual 105, 3) := by decide +kernel
theorem dX11_planByRatios_4 : decode cX11_planByRatios 4 = .ok (.aload_n 0, 1) := by decide +kernel
theorem dX11_planByRatios_5 : decode cX11_planByRatios 5 = .ok (.getfield 26, 3) := by decide +kernel
theorem dX11_planByRatios_8 : decode cX11_planByRatios 8 = .ok (.aload_n 0, 1) := by decide +kernel
theorem dX11_planByRatios_9 : decode cX11_planByRatios 9 = .ok (.getfield 12, 3) := by decide +kernel
theorem dX11_planByRatios_12 : decode cX11_planByRatios 12 = .ok (.invokevirtual 133, 3) := by decide +kernel
theorem dX11_planByRatios_15 : decode cX11_planByRatios 15 = .ok (.aload_n 0, 1) := by decide +kernel
theorem dX11_planByRatios_16 : decode cX11_planByRatios 16 = .ok (.getfield 19, 3) := by decide +kernel
theorem dX11_planByRatios_19 : decode cX11_planByRatios 19 = .ok (.aload_n 0, 1) := by decide +kernel
theorem dX11_planByRatios_20 : decode cX11_planByRatios 20 = .ok (.getfield 12, 3) := by decide +kernel
theorem dX11_planByRatios_23 : decode cX11_planByRatios 23 = .ok (.aload_n 0, 1) := by decide +kernel
theorem dX11_planByRatios_24 : decode cX11_planByRatios 24 = .ok (.getfield 26, 3) := by decide +kernel
theorem dX11_planByRatios_27 : decode cX11_planByRatios 27 = .ok (.getfield 112, 3) := by decide +kernel
theorem dX11_planByRatios_30 : decode cX11_planByRatios 30 = .ok (.iconst 0, 1) := by decide +kernel
theorem dX11_planByRatios_31 : decode cX11_planByRatios 31 = .ok (.invokevirtual 115, 3) := by decide +kernel
theorem dX11_planByRatios_34 : decode cX11_planByRatios 34 = .ok (.aload_n 0, 1) := by decide +kernel
theorem dX11_planByRatios_35 : decode cX11_planByRatios 35 = .ok (.getfield 19, 3) := by decide +kernel
theorem dX11_planByRatios_38 : decode cX11_planByRatios 38 = .ok (.aload_n 0, 1) := by decide +kernel
theorem dX11_planByRatios_39 : decode cX11_planByRatios 39 = .ok (.getfield 12, 3) := by decide +kernel
theorem dX11_planByRatios_42 : decode cX11_planByRatios 42 = .ok (.getstatic 136, 3) := by decide +kernel
theorem dX11_planByRatios_45 : decode cX11_planByRatios 45 = .ok (.invokevirtual 125, 3) := by decide +kernel
theorem dX11_planByRatios_48 : decode cX11_planByRatios 48 = .ok (.ireturn, 1) := by decide +kernel
theorem dX11_planLeastTardiness_0 : decode cX11_planLeastTardiness 0 = .ok (.aload_n 0, 1) := by decide +kernel
theorem dX11_planLeastTardiness_1 : decode cX11_planLeastTardiness 1 = .ok (.invokevirtual 105, 3) := by decide +kernel
theorem dX11_planLeastTardiness_4 : decode cX11_planLeastTardiness 4 = .ok (.aload_n 0, 1) := by decide +kernel
theorem dX11_planLeastTardiness_5 : decode cX11_planLeastTardiness 5 = .ok (.getfield 26, 3) := by decide +kernel
theorem dX11_planLeastTardiness_8 : decode cX11_planLeastTardiness 8 = .ok (.aload_n 0, 1) := by decide +kernel
theorem dX11_planLeastTardiness_9 : decode cX11_planLeastTardiness 9 = .ok (.getfield 12, 3) := by decide +kernel
theorem dX11_planLeastTardiness_12 : decode cX11_planLeastTardiness 12 = .ok (.invokevirtual 139, 3) := by decide +kernel
theorem dX11_planLeastTardiness_15 : decode cX11_planLeastTardiness 15 = .ok (.aload_n 0, 1) := by decide +kernel
theorem dX11_planLeastTardiness_16 : decode cX11_planLeastTardiness 16 = .ok (.getfield 19, 3) := by decide +kernel
theorem dX11_planLeastTardiness_19 : decode cX11_planLeastTardiness 19 = .ok (.aload_n 0, 1) := by decide +kernel
theorem dX11_planLeastTardiness_20 : decode cX11_planLeastTardiness 20 = .ok (.getfield 12, 3) := by decide +kernel
theorem dX11_planLeastTardiness_23 : decode cX11_planLeastTardiness 23 = .ok (.aload_n 0, 1) := by decide +kernel
theorem dX11_planLeastTardiness_24 : decode cX11_planLeastTardiness 24 = .ok (.getfield 26, 3) := by decide +kernel
theorem dX11_planLeastTardiness_27 : decode cX11_planLeastTardiness 27 = .ok (.getfield 112, 3) := by decide +kernel
theorem dX11_planLeastTardiness_30 : decode cX11_planLeastTardiness 30 = .ok (.iconst 0, 1) := by decide +kernel
theorem dX11_planLeastTardiness_31 : decode cX11_planLeastTardiness 31 = .ok (.invokevirtual 115, 3) := by decide +kernel
theorem dX11_planLeastTardiness_34 : decode cX11_planLeastTardiness 34 = .ok (.aload_n 0, 1) := by decide +kernel
theorem dX11_planLeastTardiness_35 : decode cX11_planLeastTardiness 35 = .ok (.getfield 19, 3) := by decide +kernel
theorem dX11_planLeastTardiness_38 : decode cX11_planLeastTardiness 38 = .ok (.aload_n 0, 1) := by decide +kernel
theorem dX11_planLeastTardiness_39 : decode cX11_planLeastTardiness 39 = .ok (.getfield 12, 3) := by decide +kernel
theorem dX11_planLeastTardiness_42 : decode cX11_planLeastTardiness 42 = .ok (.getstatic 142, 3) := by decide +kernel
theorem dX11_planLeastTardiness_45 : decode cX11_planLeastTardiness 45 = .ok (.invokevirtual 125, 3) := by decide +kernel
theorem dX11_planLeastTardiness_48 : decode cX11_planLeastTardiness 48 = .ok (.ireturn, 1) := by decide +kernel
theorem dX11_planByFamilies_0 : decode cX11_planByFamilies 0 = .ok (.aload_n 0, 1) := by decide +kernel
theorem dX11_planByFamilies_1 : decode cX11_planByFamilies 1 = .ok (.invokevirtual 105, 3) := by decide +kernel
theorem dX11_planByFamilies_4 : decode cX11_planByFamilies 4 = .ok (.aload_n 0, 1) := by decide +kernel
theorem dX11_planByFamilies_5 : decode cX11_planByFamilies 5 = .ok (.getfield 26, 3) := by decide +kernel
theorem dX11_planByFamilies_8 : decode cX11_planByFamilies 8 = .ok (.aload_n 0, 1) := by decide +kernel
theorem dX11_planByFamilies_9 : decode cX11_planByFamilies 9 = .ok (.getfield 12, 3) := by decide +kernel
theorem dX11_planByFamilies_12 : decode cX11_planByFamilies 12 = .ok (.invokevirtual 145, 3) := by decide +kernel
theorem dX11_planByFamilies_15 : decode cX11_planByFamilies 15 = .ok (.aload_n 0, 1) := by decide +kernel
theorem dX11_planByFamilies_16 : decode cX11_planByFamilies 16 = .ok (.getfield 19, 3) := by decide +kernel
theorem dX11_planByFamilies_19 : decode cX11_planByFamilies 19 = .ok (.aload_n 0, 1) := by decide +kernel
theorem dX11_planByFamilies_20 : decode cX11_planByFamilies 20 = .ok (.getfield 12, 3) := by decide +kernel
theorem dX11_planByFamilies_23 : decode cX11_planByFamilies 23 = .ok (.aload_n 0, 1) := by decide +kernel
theorem dX11_planByFamilies_24 : decode cX11_planByFamilies 24 = .ok (.getfield 26, 3) := by decide +kernel
theorem dX11_planByFamilies_27 : decode cX11_planByFamilies 27 = .ok (.getfield 112, 3) := by decide +kernel
theorem dX11_planByFamilies_30 : decode cX11_planByFamilies 30 = .ok (.iconst 1, 1) := by decide +kernel
theorem dX11_planByFamilies_31 : decode cX11_planByFamilies 31 = .ok (.invokevirtual 115, 3) := by decide +kernel
theorem dX11_planByFamilies_34 : decode cX11_planByFamilies 34 = .ok (.aload_n 0, 1) := by decide +kernel
theorem dX11_planByFamilies_35 : decode cX11_planByFamilies 35 = .ok (.getfield 19, 3) := by decide +kernel
theorem dX11_planByFamilies_38 : decode cX11_planByFamilies 38 = .ok (.aload_n 0, 1) := by decide +kernel
theorem dX11_planByFamilies_39 : decode cX11_planByFamilies 39 = .ok (.getfield 12, 3) := by decide +kernel
theorem dX11_planByFamilies_42 : decode cX11_planByFamilies 42 = .ok (.getstatic 119, 3) := by decide +kernel
theorem dX11_planByFamilies_45 : decode cX11_planByFamilies 45 = .ok (.invokevirtual 125, 3) := by decide +kernel
theorem dX11_planByFamilies_48 : decode cX11_planByFamilies 48 = .ok (.ireturn, 1) := by decide +kernel
theorem dX11_planPreemptiveByDates_0 : decode cX11_planPreemptiveByDates 0 = .ok (.aload_n 0, 1) := by decide +kernel
theorem dX11_planPreemptiveByDates_1 : decode cX11_planPreemptiveByDates 1 = .ok (.invokevirtual 105, 3) := by decide +kernel
theorem dX11_planPreemptiveByDates_4 : decode cX11_planPreemptiveByDates 4 = .ok (.aload_n 0, 1) := by decide +kernel
theorem dX11_planPreemptiveByDates_5 : decode cX11_planPreemptiveByDates 5 = .ok (.getfield 33, 3) := by decide +kernel
theorem dX11_planPreemptiveByDates_8 : decode cX11_planPreemptiveByDates 8 = .ok (.aload_n 0, 1) := by decide +kernel
theorem dX11_planPreemptiveByDates_9 : decode cX11_planPreemptiveByDates 9 = .ok (.getfield 12, 3) := by decide +kernel
theorem dX11_planPreemptiveByDates_12 : decode cX11_planPreemptiveByDates 12 = .ok (.aload_n 0, 1) := by decide +kernel
theorem dX11_planPreemptiveByDates_13 : decode cX11_planPreemptiveByDates 13 = .ok (.getfield 19, 3) := by decide +kernel
theorem dX11_planPreemptiveByDates_16 : decode cX11_planPreemptiveByDates 16 = .ok (.iconst 0, 1) := by decide +kernel
theorem dX11_planPreemptiveByDates_17 : decode cX11_planPreemptiveByDates 17 = .ok (.invokevirtual 148, 3) := by decide +kernel
theorem dX11_planPreemptiveByDates_20 : decode cX11_planPreemptiveByDates 20 = .ok (.aload_n 0, 1) := by decide +kernel
theorem dX11_planPreemptiveByDates_21 : decode cX11_planPreemptiveByDates 21 = .ok (.getfield 19, 3) := by decide +kernel
theorem dX11_planPreemptiveByDates_24 : decode cX11_planPreemptiveByDates 24 = .ok (.aload_n 0, 1) := by decide +kernel
theorem dX11_planPreemptiveByDates_25 : decode cX11_planPreemptiveByDates 25 = .ok (.getfield 12, 3) := by decide +kernel
theorem dX11_planPreemptiveByDates_28 : decode cX11_planPreemptiveByDates 28 = .ok (.getstatic 119, 3) := by decide +kernel
theorem dX11_planPreemptiveByDates_31 : decode cX11_planPreemptiveByDates 31 = .ok (.invokevirtual 125, 3) := by decide +kernel
theorem dX11_planPreemptiveByDates_34 : decode cX11_planPreemptiveByDates 34 = .ok (.ireturn, 1) := by decide +kernel
theorem dX11_planPreemptiveShortest_0 : decode cX11_planPreemptiveShortest 0 = .ok (.aload_n 0, 1) := by decide +kernel
theorem dX11_planPreemptiveShortest_1 : decode cX11_planPreemptiveShortest 1 = .ok (.invokevirtual 105, 3) := by decide +kernel
theorem dX11_planPreemptiveShortest_4 : decode cX11_planPreemptiveShortest 4 = .ok (.aload_n 0, 1) := by decide +kernel
theorem dX11_planPreemptiveShortest_5 : decode cX11_planPreemptiveShortest 5 = .ok (.getfield 33, 3) := by decide +kernel
theorem dX11_planPreemptiveShortest_8 : decode cX11_planPreemptiveShortest 8 = .ok (.aload_n 0, 1) := by decide +kernel
theorem dX11_planPreemptiveShortest_9 : decode cX11_planPreemptiveShortest 9 = .ok (.getfield 12, 3) := by decide +kernel
theorem dX11_planPreemptiveShortest_12 : decode cX11_planPreemptiveShortest 12 = .ok (.aload_n 0, 1) := by decide +kernel
theorem dX11_planPreemptiveShortest_13 : decode cX11_planPreemptiveShortest 13 = .ok (.getfield 19, 3) := by decide +kernel
theorem dX11_planPreemptiveShortest_16 : decode cX11_planPreemptiveShortest 16 = .ok (.iconst 1, 1) := by decide +kernel
theorem dX11_planPreemptiveShortest_17 : decode cX11_planPreemptiveShortest 17 = .ok (.invokevirtual 148, 3) := by decide +kernel
theorem dX11_planPreemptiveShortest_20 : decode cX11_planPreemptiveShortest 20 = .ok (.aload_n 0, 1) := by decide +kernel
theorem dX11_planPreemptiveShortest_21 : decode cX11_planPreemptiveShortest 21 = .ok (.getfield 19, 3) := by decide +kernel
theorem dX11_planPreemptiveShortest_24 : decode cX11_planPreemptiveShortest 24 = .ok (.aload_n 0, 1) := by decide +kernel
theorem dX11_planPreemptiveShortest_25 : decode cX11_planPreemptiveShortest 25 = .ok (.getfield 12, 3) := by decide +kernel
theorem dX11_planPreemptiveShortest_28 : decode cX11_planPreemptiveShortest 28 = .ok (.getstatic 152, 3) := by decide +kernel
theorem dX11_planPreemptiveShortest_31 : decode cX11_planPreemptiveShortest 31 = .ok (.invokevirtual 125, 3) := by decide +kernel
theorem dX11_planPreemptiveShortest_34 : decode cX11_planPreemptiveShortest 34 = .ok (.ireturn, 1) := by decide +kernel
theorem dX11_hasPlan_0 : decode cX11_hasPlan 0 = .ok (.aload_n 0, 1) := by decide +kernel
theorem dX11_hasPlan_1 : decode cX11_hasPlan 1 = .ok (.getfield 19, 3) := by decide +kernel
theorem dX11_hasPlan_4 : decode cX11_hasPlan 4 = .ok (.getfield 155, 3) := by decide +kernel
theorem dX11_hasPlan_7 : decode cX11_hasPlan 7 = .ok (.ireturn, 1) := by decide +kernel
theorem dX11_pieces_0 : decode cX11_pieces 0 = .ok (.aload_n 0, 1) := by decide +kernel
theorem dX11_pieces_1 : decode cX11_pieces 1 = .ok (.getfield 19, 3) := by decide +kernel
theorem dX11_pieces_4 : decode cX11_pieces 4 = .ok (.getfield 159, 3) := by decide +kernel
theorem dX11_pieces_7 : decode cX11_pieces 7 = .ok (.ireturn, 1) := by decide +kernel
theorem dX11_kindOf_0 : decode cX11_kindOf 0 = .ok (.aload_n 0, 1) := by decide +kernel
theorem dX11_kindOf_1 : decode cX11_kindOf 1 = .ok (.iload_n 1, 1) := by decide +kernel
theorem dX11_kindOf_2 : decode cX11_kindOf 2 = .ok (.invokevirtual 160, 3) := by decide +kernel
theorem dX11_kindOf_5 : decode cX11_kindOf 5 = .ok (.aload_n 0, 1) := by decide +kernel
theorem dX11_kindOf_6 : decode cX11_kindOf 6 = .ok (.getfield 19, 3) := by decide +kernel
theorem dX11_kindOf_9 : decode cX11_kindOf 9 = .ok (.getfield 163, 3) := by decide +kernel
theorem dX11_kindOf_12 : decode cX11_kindOf 12 = .ok (.iload_n 1, 1) := by decide +kernel
theorem dX11_kindOf_13 : decode cX11_kindOf 13 = .ok (.iaload, 1) := by decide +kernel
theorem dX11_kindOf_14 : decode cX11_kindOf 14 = .ok (.ireturn, 1) := by decide +kernel
theorem dX11_whoseIs_0 : decode cX11_whoseIs 0 = .ok (.aload_n 0, 1) := by decide +kernel
theorem dX11_whoseIs_1 : decode cX11_whoseIs 1 = .ok (.iload_n 1, 1) := by decide +kernel
theorem dX11_whoseIs_2 : decode cX11_whoseIs 2 = .ok (.invokevirtual 160, 3) := by decide +kernel
theorem dX11_whoseIs_5 : decode cX11_whoseIs 5 = .ok (.aload_n 0, 1) := by decide +kernel
theorem dX11_whoseIs_6 : decode cX11_whoseIs 6 = .ok (.getfield 19, 3) := by decide +kernel
theorem dX11_whoseIs_9 : decode cX11_whoseIs 9 = .ok (.getfield 166, 3) := by decide +kernel
theorem dX11_whoseIs_12 : decode cX11_whoseIs 12 = .ok (.iload_n 1, 1) := by decide +kernel
theorem dX11_whoseIs_13 : decode cX11_whoseIs 13 = .ok (.iaload, 1) := by decide +kernel
theorem dX11_whoseIs_14 : decode cX11_whoseIs 14 = .ok (.ireturn, 1) := by decide +kernel
theorem dX11_startOf_0 : decode cX11_startOf 0 = .ok (.aload_n 0, 1) := by decide +kernel
theorem dX11_startOf_1 : decode cX11_startOf 1 = .ok (.iload_n 1, 1) := by decide +kernel
theorem dX11_startOf_2 : decode cX11_startOf 2 = .ok (.invokevirtual 160, 3) := by decide +kernel
theorem dX11_startOf_5 : decode cX11_startOf 5 = .ok (.iload_n 1, 1) := by decide +kernel
theorem dX11_startOf_6 : decode cX11_startOf 6 = .ok (.ifCond .ne 7, 3) := by decide +kernel
theorem dX11_startOf_9 : decode cX11_startOf 9 = .ok (.iconst 0, 1) := by decide +kernel
theorem dX11_startOf_10 : decode cX11_startOf 10 = .ok (.goto 14, 3) := by decide +kernel
theorem dX11_startOf_13 : decode cX11_startOf 13 = .ok (.aload_n 0, 1) := by decide +kernel
theorem dX11_startOf_14 : decode cX11_startOf 14 = .ok (.getfield 19, 3) := by decide +kernel
theorem dX11_startOf_17 : decode cX11_startOf 17 = .ok (.getfield 169, 3) := by decide +kernel
theorem dX11_startOf_20 : decode cX11_startOf 20 = .ok (.iload_n 1, 1) := by decide +kernel
theorem dX11_startOf_21 : decode cX11_startOf 21 = .ok (.iconst 1, 1) := by decide +kernel
theorem dX11_startOf_22 : decode cX11_startOf 22 = .ok (.isub, 1) := by decide +kernel
theorem dX11_startOf_23 : decode cX11_startOf 23 = .ok (.iaload, 1) := by decide +kernel
theorem dX11_startOf_24 : decode cX11_startOf 24 = .ok (.ireturn, 1) := by decide +kernel
theorem dX11_endOf_0 : decode cX11_endOf 0 = .ok (.aload_n 0, 1) := by decide +kernel
theorem dX11_endOf_1 : decode cX11_endOf 1 = .ok (.iload_n 1, 1) := by decide +kernel
theorem dX11_endOf_2 : decode cX11_endOf 2 = .ok (.invokevirtual 160, 3) := by decide +kernel
theorem dX11_endOf_5 : decode cX11_endOf 5 = .ok (.aload_n 0, 1) := by decide +kernel
theorem dX11_endOf_6 : decode cX11_endOf 6 = .ok (.getfield 19, 3) := by decide +kernel
theorem dX11_endOf_9 : decode cX11_endOf 9 = .ok (.getfield 169, 3) := by decide +kernel
theorem dX11_endOf_12 : decode cX11_endOf 12 = .ok (.iload_n 1, 1) := by decide +kernel
theorem dX11_endOf_13 : decode cX11_endOf 13 = .ok (.iaload, 1) := by decide +kernel
theorem dX11_endOf_14 : decode cX11_endOf 14 = .ok (.ireturn, 1) := by decide +kernel
theorem dX11_completion_0 : decode cX11_completion 0 = .ok (.aload_n 0, 1) := by decide +kernel
theorem dX11_completion_1 : decode cX11_completion 1 = .ok (.iload_n 1, 1) := by decide +kernel
theorem dX11_completion_2 : decode cX11_completion 2 = .ok (.invokevirtual 80, 3) := by decide +kernel
theorem dX11_completion_5 : decode cX11_completion 5 = .ok (.aload_n 0, 1) := by decide +kernel
theorem dX11_completion_6 : decode cX11_completion 6 = .ok (.invokevirtual 172, 3) := by decide +kernel
theorem dX11_completion_9 : decode cX11_completion 9 = .ok (.aload_n 0, 1) := by decide +kernel
theorem dX11_completion_10 : decode cX11_completion 10 = .ok (.getfield 19, 3) := by decide +kernel
theorem dX11_completion_13 : decode cX11_completion 13 = .ok (.getfield 175, 3) := by decide +kernel
theorem dX11_completion_16 : decode cX11_completion 16 = .ok (.iload_n 1, 1) := by decide +kernel
theorem dX11_completion_17 : decode cX11_completion 17 = .ok (.iaload, 1) := by decide +kernel
theorem dX11_completion_18 : decode cX11_completion 18 = .ok (.ireturn, 1) := by decide +kernel
theorem dX11_lateness_0 : decode cX11_lateness 0 = .ok (.aload_n 0, 1) := by decide +kernel
theorem dX11_lateness_1 : decode cX11_lateness 1 = .ok (.iload_n 1, 1) := by decide +kernel
theorem dX11_lateness_2 : decode cX11_lateness 2 = .ok (.invokevirtual 80, 3) := by decide +kernel
theorem dX11_lateness_5 : decode cX11_lateness 5 = .ok (.aload_n 0, 1) := by decide +kernel
theorem dX11_lateness_6 : decode cX11_lateness 6 = .ok (.invokevirtual 172, 3) := by decide +kernel
theorem dX11_lateness_9 : decode cX11_lateness 9 = .ok (.aload_n 0, 1) := by decide +kernel
theorem dX11_lateness_10 : decode cX11_lateness 10 = .ok (.getfield 19, 3) := by decide +kernel
theorem dX11_lateness_13 : decode cX11_lateness 13 = .ok (.getfield 175, 3) := by decide +kernel
theorem dX11_lateness_16 : decode cX11_lateness 16 = .ok (.iload_n 1, 1) := by decide +kernel
theorem dX11_lateness_17 : decode cX11_lateness 17 = .ok (.iaload, 1) := by decide +kernel
theorem dX11_lateness_18 : decode cX11_lateness 18 = .ok (.aload_n 0, 1) := by decide +kernel
theorem dX11_lateness_19 : decode cX11_lateness 19 = .ok (.getfield 12, 3) := by decide +kernel
theorem dX11_lateness_22 : decode cX11_lateness 22 = .ok (.getfield 178, 3) := by decide +kernel
theorem dX11_lateness_25 : decode cX11_lateness 25 = .ok (.iload_n 1, 1) := by decide +kernel
theorem dX11_lateness_26 : decode cX11_lateness 26 = .ok (.iaload, 1) := by decide +kernel
theorem dX11_lateness_27 : decode cX11_lateness 27 = .ok (.isub, 1) := by decide +kernel
theorem dX11_lateness_28 : decode cX11_lateness 28 = .ok (.ireturn, 1) := by decide +kernel
theorem dX11_maxLateness_0 : decode cX11_maxLateness 0 = .ok (.aload_n 0, 1) := by decide +kernel
theorem dX11_maxLateness_1 : decode cX11_maxLateness 1 = .ok (.invokevirtual 172, 3) := by decide +kernel
theorem dX11_maxLateness_4 : decode cX11_maxLateness 4 = .ok (.aload_n 0, 1) := by decide +kernel
theorem dX11_maxLateness_5 : decode cX11_maxLateness 5 = .ok (.getfield 19, 3) := by decide +kernel
theorem dX11_maxLateness_8 : decode cX11_maxLateness 8 = .ok (.aload_n 0, 1) := by decide +kernel
theorem dX11_maxLateness_9 : decode cX11_maxLateness 9 = .ok (.getfield 12, 3) := by decide +kernel
theorem dX11_maxLateness_12 : decode cX11_maxLateness 12 = .ok (.getstatic 119, 3) := by decide +kernel
theorem dX11_maxLateness_15 : decode cX11_maxLateness 15 = .ok (.invokevirtual 125, 3) := by decide +kernel
theorem dX11_maxLateness_18 : decode cX11_maxLateness 18 = .ok (.ireturn, 1) := by decide +kernel
theorem dX11_lateJobs_0 : decode cX11_lateJobs 0 = .ok (.aload_n 0, 1) := by decide +kernel
theorem dX11_lateJobs_1 : decode cX11_lateJobs 1 = .ok (.invokevirtual 172, 3) := by decide +kernel
theorem dX11_lateJobs_4 : decode cX11_lateJobs 4 = .ok (.aload_n 0, 1) := by decide +kernel
theorem dX11_lateJobs_5 : decode cX11_lateJobs 5 = .ok (.getfield 19, 3) := by decide +kernel
theorem dX11_lateJobs_8 : decode cX11_lateJobs 8 = .ok (.aload_n 0, 1) := by decide +kernel
theorem dX11_lateJobs_9 : decode cX11_lateJobs 9 = .ok (.getfield 12, 3) := by decide +kernel
theorem dX11_lateJobs_12 : decode cX11_lateJobs 12 = .ok (.getstatic 181, 3) := by decide +kernel
theorem dX11_lateJobs_15 : decode cX11_lateJobs 15 = .ok (.invokevirtual 125, 3) := by decide +kernel
theorem dX11_lateJobs_18 : decode cX11_lateJobs 18 = .ok (.ireturn, 1) := by decide +kernel
theorem dX11_completions_0 : decode cX11_completions 0 = .ok (.aload_n 0, 1) := by decide +kernel
theorem dX11_completions_1 : decode cX11_completions 1 = .ok (.invokevirtual 172, 3) := by decide +kernel
theorem dX11_completions_4 : decode cX11_completions 4 = .ok (.aload_n 0, 1) := by decide +kernel
theorem dX11_completions_5 : decode cX11_completions 5 = .ok (.getfield 19, 3) := by decide +kernel
theorem dX11_completions_8 : decode cX11_completions 8 = .ok (.aload_n 0, 1) := by decide +kernel
theorem dX11_completions_9 : decode cX11_completions 9 = .ok (.getfield 12, 3) := by decide +kernel
theorem dX11_completions_12 : decode cX11_completions 12 = .ok (.getstatic 152, 3) := by decide +kernel
theorem dX11_completions_15 : decode cX11_completions 15 = .ok (.invokevirtual 125, 3) := by decide +kernel
theorem dX11_completions_18 : decode cX11_completions 18 = .ok (.ireturn, 1) := by decide +kernel
theorem dX11_weightedCompletions_0 : decode cX11_weightedCompletions 0 = .ok (.aload_n 0, 1) := by decide +kernel
theorem dX11_weightedCompletions_1 : decode cX11_weightedCompletions 1 = .ok (.invokevirtual 172, 3) := by decide +kernel
theorem dX11_weightedCompletions_4 : decode cX11_weightedCompletions 4 = .ok (.aload_n 0, 1) := by decide +kernel
theorem dX11_weightedCompletions_5 : decode cX11_weightedCompletions 5 = .ok (.getfield 19, 3) := by decide +kernel
theorem dX11_weightedCompletions_8 : decode cX11_weightedCompletions 8 = .ok (.aload_n 0, 1) := by decide +kernel
theorem dX11_weightedCompletions_9 : decode cX11_weightedCompletions 9 = .ok (.getfield 12, 3) := by decide +kernel
theorem dX11_weightedCompletions_12 : decode cX11_weightedCompletions 12 = .ok (.getstatic 136, 3) := by decide +kernel
theorem dX11_weightedCompletions_15 : decode cX11_weightedCompletions 15 = .ok (.invokevirtual 125, 3) := by decide +kernel
theorem dX11_weightedCompletions_18 : decode cX11_weightedCompletions 18 = .ok (.ireturn, 1) := by decide +kernel
theorem dX11_weightedTardiness_0 : decode cX11_weightedTardiness 0 = .ok (.aload_n 0, 1) := by decide +kernel
theorem dX11_weightedTardiness_1 : decode cX11_weightedTardiness 1 = .ok (.invokevirtual 172, 3) := by decide +kernel
theorem dX11_weightedTardiness_4 : decode cX11_weightedTardiness 4 = .ok (.aload_n 0, 1) := by decide +kernel
theorem dX11_weightedTardiness_5 : decode cX11_weightedTardiness 5 = .ok (.getfield 19, 3) := by decide +kernel
theorem dX11_weightedTardiness_8 : decode cX11_weightedTardiness 8 = .ok (.aload_n 0, 1) := by decide +kernel
theorem dX11_weightedTardiness_9 : decode cX11_weightedTardiness 9 = .ok (.getfield 12, 3) := by decide +kernel
theorem dX11_weightedTardiness_12 : decode cX11_weightedTardiness 12 = .ok (.getstatic 142, 3) := by decide +kernel
theorem dX11_weightedTardiness_15 : decode cX11_weightedTardiness 15 = .ok (.invokevirtual 125, 3) := by decide +kernel
theorem dX11_weightedTardiness_18 : decode cX11_weightedTardiness 18 = .ok (.ireturn, 1) := by decide +kernel
theorem dX11_leastLateness_0 : decode cX11_leastLateness 0 = .ok (.aload_n 0, 1) := by decide +kernel
theorem dX11_leastLateness_1 : decode cX11_leastLateness 1 = .ok (.invokevirtual 184, 3) := by decide +kernel
theorem dX11_leastLateness_4 : decode cX11_leastLateness 4 = .ok (.aload_n 0, 1) := by decide +kernel
theorem dX11_leastLateness_5 : decode cX11_leastLateness 5 = .ok (.getfield 40, 3) := by decide +kernel
theorem dX11_leastLateness_8 : decode cX11_leastLateness 8 = .ok (.aload_n 0, 1) := by decide +kernel
theorem dX11_leastLateness_9 : decode cX11_leastLateness 9 = .ok (.getfield 12, 3) := by decide +kernel
theorem dX11_leastLateness_12 : decode cX11_leastLateness 12 = .ok (.getstatic 187, 3) := by decide +kernel
theorem dX11_leastLateness_15 : decode cX11_leastLateness 15 = .ok (.getstatic 119, 3) := by decide +kernel
theorem dX11_leastLateness_18 : decode cX11_leastLateness 18 = .ok (.invokevirtual 193, 3) := by decide +kernel
theorem dX11_leastLateness_21 : decode cX11_leastLateness 21 = .ok (.ireturn, 1) := by decide +kernel
theorem dX11_leastCompletions_0 : decode cX11_leastCompletions 0 = .ok (.aload_n 0, 1) := by decide +kernel
theorem dX11_leastCompletions_1 : decode cX11_leastCompletions 1 = .ok (.invokevirtual 184, 3) := by decide +kernel
theorem dX11_leastCompletions_4 : decode cX11_leastCompletions 4 = .ok (.aload_n 0, 1) := by decide +kernel
theorem dX11_leastCompletions_5 : decode cX11_leastCompletions 5 = .ok (.getfield 40, 3) := by decide +kernel
theorem dX11_leastCompletions_8 : decode cX11_leastCompletions 8 = .ok (.aload_n 0, 1) := by decide +kernel
theorem dX11_leastCompletions_9 : decode cX11_leastCompletions 9 = .ok (.getfield 12, 3) := by decide +kernel
theorem dX11_leastCompletions_12 : decode cX11_leastCompletions 12 = .ok (.getstatic 187, 3) := by decide +kernel
theorem dX11_leastCompletions_15 : decode cX11_leastCompletions 15 = .ok (.getstatic 136, 3) := by decide +kernel
theorem dX11_leastCompletions_18 : decode cX11_leastCompletions 18 = .ok (.invokevirtual 193, 3) := by decide +kernel
theorem dX11_leastCompletions_21 : decode cX11_leastCompletions 21 = .ok (.ireturn, 1) := by decide +kernel
theorem dX11_leastTardiness_0 : decode cX11_leastTardiness 0 = .ok (.aload_n 0, 1) := by decide +kernel
theorem dX11_leastTardiness_1 : decode cX11_leastTardiness 1 = .ok (.invokevirtual 184, 3) := by decide +kernel
theorem dX11_leastTardiness_4 : decode cX11_leastTardiness 4 = .ok (.aload_n 0, 1) := by decide +kernel
theorem dX11_leastTardiness_5 : decode cX11_leastTardiness 5 = .ok (.getfield 40, 3) := by decide +kernel
theorem dX11_leastTardiness_8 : decode cX11_leastTardiness 8 = .ok (.aload_n 0, 1) := by decide +kernel
theorem dX11_leastTardiness_9 : decode cX11_leastTardiness 9 = .ok (.getfield 12, 3) := by decide +kernel
theorem dX11_leastTardiness_12 : decode cX11_leastTardiness 12 = .ok (.getstatic 187, 3) := by decide +kernel
theorem dX11_leastTardiness_15 : decode cX11_leastTardiness 15 = .ok (.getstatic 142, 3) := by decide +kernel
theorem dX11_leastTardiness_18 : decode cX11_leastTardiness 18 = .ok (.invokevirtual 193, 3) := by decide +kernel
theorem dX11_leastTardiness_21 : decode cX11_leastTardiness 21 = .ok (.ireturn, 1) := by decide +kernel
theorem dX11_leastWithSetups_0 : decode cX11_leastWithSetups 0 = .ok (.aload_n 0, 1) := by decide +kernel
theorem dX11_leastWithSetups_1 : decode cX11_leastWithSetups 1 = .ok (.invokevirtual 184, 3) := by decide +kernel
theorem dX11_leastWithSetups_4 : decode cX11_leastWithSetups 4 = .ok (.aload_n 0, 1) := by decide +kernel
theorem dX11_leastWithSetups_5 : decode cX11_leastWithSetups 5 = .ok (.getfield 40, 3) := by decide +kernel
theorem dX11_leastWithSetups_8 : decode cX11_leastWithSetups 8 = .ok (.aload_n 0, 1) := by decide +kernel
theorem dX11_leastWithSetups_9 : decode cX11_leastWithSetups 9 = .ok (.getfield 12, 3) := by decide +kernel
theorem dX11_leastWithSetups_12 : decode cX11_leastWithSetups 12 = .ok (.getstatic 197, 3) := by decide +kernel
theorem dX11_leastWithSetups_15 : decode cX11_leastWithSetups 15 = .ok (.getstatic 119, 3) := by decide +kernel
theorem dX11_leastWithSetups_18 : decode cX11_leastWithSetups 18 = .ok (.invokevirtual 193, 3) := by decide +kernel
theorem dX11_leastWithSetups_21 : decode cX11_leastWithSetups 21 = .ok (.ireturn, 1) := by decide +kernel
theorem dX11_leastPreemptiveLateness_0 : decode cX11_leastPreemptiveLateness 0 = .ok (.aload_n 0, 1) := by decide +kernel
theorem dX11_leastPreemptiveLateness_1 : decode cX11_leastPreemptiveLateness 1 = .ok (.invokevirtual 184, 3) := by decide +kernel
theorem dX11_leastPreemptiveLateness_4 : decode cX11_leastPreemptiveLateness 4 = .ok (.aload_n 0, 1) := by decide +kernel
theorem dX11_leastPreemptiveLateness_5 : decode cX11_leastPreemptiveLateness 5 = .ok (.getfield 40, 3) := by decide +kernel
theorem dX11_leastPreemptiveLateness_8 : decode cX11_leastPreemptiveLateness 8 = .ok (.aload_n 0, 1) := by decide +kernel
theorem dX11_leastPreemptiveLateness_9 : decode cX11_leastPreemptiveLateness 9 = .ok (.getfield 12, 3) := by decide +kernel
theorem dX11_leastPreemptiveLateness_12 : decode cX11_leastPreemptiveLateness 12 = .ok (.getstatic 200, 3) := by decide +kernel
theorem dX11_leastPreemptiveLateness_15 : decode cX11_leastPreemptiveLateness 15 = .ok (.getstatic 119, 3) := by decide +kernel
theorem dX11_leastPreemptiveLateness_18 : decode cX11_leastPreemptiveLateness 18 = .ok (.invokevirtual 193, 3) := by decide +kernel
theorem dX11_leastPreemptiveLateness_21 : decode cX11_leastPreemptiveLateness 21 = .ok (.ireturn, 1) := by decide +kernel
theorem dX11_leastPreemptiveCompletions_0 : decode cX11_leastPreemptiveCompletions 0 = .ok (.aload_n 0, 1) := by decide +kernel
theorem dX11_leastPreemptiveCompletions_1 : decode cX11_leastPreemptiveCompletions 1 = .ok (.invokevirtual 184, 3) := by decide +kernel
theorem dX11_leastPreemptiveCompletions_4 : decode cX11_leastPreemptiveCompletions 4 = .ok (.aload_n 0, 1) := by decide +kernel
theorem dX11_leastPreemptiveCompletions_5 : decode cX11_leastPreemptiveCompletions 5 = .ok (.getfield 40, 3) := by decide +kernel
theorem dX11_leastPreemptiveCompletions_8 : decode cX11_leastPreemptiveCompletions 8 = .ok (.aload_n 0, 1) := by decide +kernel
theorem dX11_leastPreemptiveCompletions_9 : decode cX11_leastPreemptiveCompletions 9 = .ok (.getfield 12, 3) := by decide +kernel
theorem dX11_leastPreemptiveCompletions_12 : decode cX11_leastPreemptiveCompletions 12 = .ok (.getstatic 200, 3) := by decide +kernel
theorem dX11_leastPreemptiveCompletions_15 : decode cX11_leastPreemptiveCompletions 15 = .ok (.getstatic 152, 3) := by decide +kernel
theorem dX11_leastPreemptiveCompletions_18 : decode cX11_leastPreemptiveCompletions 18 = .ok (.invokevirtual 193, 3) := by decide +kernel
theorem dX11_leastPreemptiveCompletions_21 : decode cX11_leastPreemptiveCompletions 21 = .ok (.ireturn, 1) := by decide +kernel
theorem dX11_canBeOnTime_0 : decode cX11_canBeOnTime 0 = .ok (.iload_n 1, 1) := by decide +kernel
theorem dX11_canBeOnTime_1 : decode cX11_canBeOnTime 1 = .ok (.iconst 0, 1) := by decide +kernel
theorem dX11_canBeOnTime_2 : decode cX11_canBeOnTime 2 = .ok (.aload_n 0, 1) := by decide +kernel
theorem dX11_canBeOnTime_3 : decode cX11_canBeOnTime 3 = .ok (.getfield 12, 3) := by decide +kernel
theorem dX11_canBeOnTime_6 : decode cX11_canBeOnTime 6 = .ok (.invokevirtual 203, 3) := by decide +kernel
theorem dX11_canBeOnTime_9 : decode cX11_canBeOnTime 9 = .ok (.invokestatic 87, 3) := by decide +kernel
theorem dX11_canBeOnTime_12 : decode cX11_canBeOnTime 12 = .ok (.ifCond .ne 13, 3) := by decide +kernel
theorem dX11_canBeOnTime_15 : decode cX11_canBeOnTime 15 = .ok (.new 96, 3) := by decide +kernel
theorem dX11_canBeOnTime_18 : decode cX11_canBeOnTime 18 = .ok (.dup, 1) := by decide +kernel
theorem dX11_canBeOnTime_19 : decode cX11_canBeOnTime 19 = .ok (.ldc 207, 2) := by decide +kernel
theorem dX11_canBeOnTime_21 : decode cX11_canBeOnTime 21 = .ok (.invokespecial 100, 3) := by decide +kernel
theorem dX11_canBeOnTime_24 : decode cX11_canBeOnTime 24 = .ok (.athrow, 1) := by decide +kernel
theorem dX11_canBeOnTime_25 : decode cX11_canBeOnTime 25 = .ok (.aload_n 0, 1) := by decide +kernel
theorem dX11_canBeOnTime_26 : decode cX11_canBeOnTime 26 = .ok (.getfield 47, 3) := by decide +kernel
theorem dX11_canBeOnTime_29 : decode cX11_canBeOnTime 29 = .ok (.aload_n 0, 1) := by decide +kernel
theorem dX11_canBeOnTime_30 : decode cX11_canBeOnTime 30 = .ok (.getfield 12, 3) := by decide +kernel
theorem dX11_canBeOnTime_33 : decode cX11_canBeOnTime 33 = .ok (.iload_n 1, 1) := by decide +kernel
theorem dX11_canBeOnTime_34 : decode cX11_canBeOnTime 34 = .ok (.invokevirtual 209, 3) := by decide +kernel
theorem dX11_canBeOnTime_37 : decode cX11_canBeOnTime 37 = .ok (.ireturn, 1) := by decide +kernel
theorem dX11_fewestLateBySets_0 : decode cX11_fewestLateBySets 0 = .ok (.aload_n 0, 1) := by decide +kernel
theorem dX11_fewestLateBySets_1 : decode cX11_fewestLateBySets 1 = .ok (.getfield 12, 3) := by decide +kernel
theorem dX11_fewestLateBySets_4 : decode cX11_fewestLateBySets 4 = .ok (.getfield 62, 3) := by decide +kernel
theorem dX11_fewestLateBySets_7 : decode cX11_fewestLateBySets 7 = .ok (.aload_n 0, 1) := by decide +kernel
theorem dX11_fewestLateBySets_8 : decode cX11_fewestLateBySets 8 = .ok (.getfield 47, 3) := by decide +kernel
theorem dX11_fewestLateBySets_11 : decode cX11_fewestLateBySets 11 = .ok (.aload_n 0, 1) := by decide +kernel
theorem dX11_fewestLateBySets_12 : decode cX11_fewestLateBySets 12 = .ok (.getfield 12, 3) := by decide +kernel
theorem dX11_fewestLateBySets_15 : decode cX11_fewestLateBySets 15 = .ok (.invokevirtual 213, 3) := by decide +kernel
theorem dX11_fewestLateBySets_18 : decode cX11_fewestLateBySets 18 = .ok (.isub, 1) := by decide +kernel
theorem dX11_fewestLateBySets_19 : decode cX11_fewestLateBySets 19 = .ok (.ireturn, 1) := by decide +kernel
theorem dX11_windowBound_0 : decode cX11_windowBound 0 = .ok (.aload_n 0, 1) := by decide +kernel
theorem dX11_windowBound_1 : decode cX11_windowBound 1 = .ok (.invokevirtual 105, 3) := by decide +kernel
theorem dX11_windowBound_4 : decode cX11_windowBound 4 = .ok (.aload_n 0, 1) := by decide +kernel
theorem dX11_windowBound_5 : decode cX11_windowBound 5 = .ok (.getfield 54, 3) := by decide +kernel
theorem dX11_windowBound_8 : decode cX11_windowBound 8 = .ok (.aload_n 0, 1) := by decide +kernel
theorem dX11_windowBound_9 : decode cX11_windowBound 9 = .ok (.getfield 12, 3) := by decide +kernel
theorem dX11_windowBound_12 : decode cX11_windowBound 12 = .ok (.iload_n 1, 1) := by decide +kernel
theorem dX11_windowBound_13 : decode cX11_windowBound 13 = .ok (.invokevirtual 216, 3) := by decide +kernel
theorem dX11_windowBound_16 : decode cX11_windowBound 16 = .ok (.aload_n 0, 1) := by decide +kernel
theorem dX11_windowBound_17 : decode cX11_windowBound 17 = .ok (.getfield 54, 3) := by decide +kernel
theorem dX11_windowBound_20 : decode cX11_windowBound 20 = .ok (.getfield 220, 3) := by decide +kernel
theorem dX11_windowBound_23 : decode cX11_windowBound 23 = .ok (.ireturn, 1) := by decide +kernel
theorem dX11_windowDue_0 : decode cX11_windowDue 0 = .ok (.aload_n 0, 1) := by decide +kernel
theorem dX11_windowDue_1 : decode cX11_windowDue 1 = .ok (.invokevirtual 105, 3) := by decide +kernel
theorem dX11_windowDue_4 : decode cX11_windowDue 4 = .ok (.aload_n 0, 1) := by decide +kernel
theorem dX11_windowDue_5 : decode cX11_windowDue 5 = .ok (.getfield 54, 3) := by decide +kernel
theorem dX11_windowDue_8 : decode cX11_windowDue 8 = .ok (.aload_n 0, 1) := by decide +kernel
theorem dX11_windowDue_9 : decode cX11_windowDue 9 = .ok (.getfield 12, 3) := by decide +kernel
theorem dX11_windowDue_12 : decode cX11_windowDue 12 = .ok (.iconst 1, 1) := by decide +kernel
theorem dX11_windowDue_13 : decode cX11_windowDue 13 = .ok (.invokevirtual 216, 3) := by decide +kernel
theorem dX11_windowDue_16 : decode cX11_windowDue 16 = .ok (.aload_n 0, 1) := by decide +kernel
theorem dX11_windowDue_17 : decode cX11_windowDue 17 = .ok (.getfield 54, 3) := by decide +kernel
theorem dX11_windowDue_20 : decode cX11_windowDue 20 = .ok (.getfield 223, 3) := by decide +kernel
theorem dX11_windowDue_23 : decode cX11_windowDue 23 = .ok (.ireturn, 1) := by decide +kernel
theorem dX11_windowRelease_0 : decode cX11_windowRelease 0 = .ok (.aload_n 0, 1) := by decide +kernel
theorem dX11_windowRelease_1 : decode cX11_windowRelease 1 = .ok (.invokevirtual 105, 3) := by decide +kernel
theorem dX11_windowRelease_4 : decode cX11_windowRelease 4 = .ok (.aload_n 0, 1) := by decide +kernel
theorem dX11_windowRelease_5 : decode cX11_windowRelease 5 = .ok (.getfield 54, 3) := by decide +kernel
theorem dX11_windowRelease_8 : decode cX11_windowRelease 8 = .ok (.aload_n 0, 1) := by decide +kernel
theorem dX11_windowRelease_9 : decode cX11_windowRelease 9 = .ok (.getfield 12, 3) := by decide +kernel
theorem dX11_windowRelease_12 : decode cX11_windowRelease 12 = .ok (.iconst 1, 1) := by decide +kernel
theorem dX11_windowRelease_13 : decode cX11_windowRelease 13 = .ok (.invokevirtual 216, 3) := by decide +kernel
theorem dX11_windowRelease_16 : decode cX11_windowRelease 16 = .ok (.aload_n 0, 1) := by decide +kernel
theorem dX11_windowRelease_17 : decode cX11_windowRelease 17 = .ok (.getfield 54, 3) := by decide +kernel
theorem dX11_windowRelease_20 : decode cX11_windowRelease 20 = .ok (.getfield 225, 3) := by decide +kernel
theorem dX11_windowRelease_23 : decode cX11_windowRelease 23 = .ok (.ireturn, 1) := by decide +kernel
theorem dX11_isWithin_0 : decode cX11_isWithin 0 = .ok (.iload_n 0, 1) := by decide +kernel
theorem dX11_isWithin_1 : decode cX11_isWithin 1 = .ok (.iload_n 1, 1) := by decide +kernel
theorem dX11_isWithin_2 : decode cX11_isWithin 2 = .ok (.if_icmp .lt 12, 3) := by decide +kernel
theorem dX11_isWithin_5 : decode cX11_isWithin 5 = .ok (.iload_n 0, 1) := by decide +kernel
theorem dX11_isWithin_6 : decode cX11_isWithin 6 = .ok (.iload_n 2, 1) := by decide +kernel
theorem dX11_isWithin_7 : decode cX11_isWithin 7 = .ok (.if_icmp .gt 7, 3) := by decide +kernel
theorem dX11_isWithin_10 : decode cX11_isWithin 10 = .ok (.iconst 1, 1) := by decide +kernel
theorem dX11_isWithin_11 : decode cX11_isWithin 11 = .ok (.goto 4, 3) := by decide +kernel
theorem dX11_isWithin_14 : decode cX11_isWithin 14 = .ok (.iconst 0, 1) := by decide +kernel
theorem dX11_isWithin_15 : decode cX11_isWithin 15 = .ok (.ireturn, 1) := by decide +kernel
theorem dX11_needJobInRange_0 : decode cX11_needJobInRange 0 = .ok (.iload_n 0, 1) := by decide +kernel
theorem dX11_needJobInRange_1 : decode cX11_needJobInRange 1 = .ok (.iconst 1, 1) := by decide +kernel
theorem dX11_needJobInRange_2 : decode cX11_needJobInRange 2 = .ok (.bipush 30, 2) := by decide +kernel
theorem dX11_needJobInRange_4 : decode cX11_needJobInRange 4 = .ok (.invokestatic 87, 3) := by decide +kernel
theorem dX11_needJobInRange_7 : decode cX11_needJobInRange 7 = .ok (.ifCond .eq 44, 3) := by decide +kernel
theorem dX11_needJobInRange_10 : decode cX11_needJobInRange 10 = .ok (.iload_n 1, 1) := by decide +kernel
theorem dX11_needJobInRange_11 : decode cX11_needJobInRange 11 = .ok (.iconst 0, 1) := by decide +kernel
theorem dX11_needJobInRange_12 : decode cX11_needJobInRange 12 = .ok (.sipush 300, 3) := by decide +kernel
theorem dX11_needJobInRange_15 : decode cX11_needJobInRange 15 = .ok (.invokestatic 87, 3) := by decide +kernel
theorem dX11_needJobInRange_18 : decode cX11_needJobInRange 18 = .ok (.ifCond .eq 33, 3) := by decide +kernel
theorem dX11_needJobInRange_21 : decode cX11_needJobInRange 21 = .ok (.iload_n 2, 1) := by decide +kernel
theorem dX11_needJobInRange_22 : decode cX11_needJobInRange 22 = .ok (.iconst 1, 1) := by decide +kernel
theorem dX11_needJobInRange_23 : decode cX11_needJobInRange 23 = .ok (.bipush 20, 2) := by decide +kernel
theorem dX11_needJobInRange_25 : decode cX11_needJobInRange 25 = .ok (.invokestatic 87, 3) := by decide +kernel
theorem dX11_needJobInRange_28 : decode cX11_needJobInRange 28 = .ok (.ifCond .eq 23, 3) := by decide +kernel
theorem dX11_needJobInRange_31 : decode cX11_needJobInRange 31 = .ok (.iload_n 3, 1) := by decide +kernel
theorem dX11_needJobInRange_32 : decode cX11_needJobInRange 32 = .ok (.iconst 0, 1) := by decide +kernel
theorem dX11_needJobInRange_33 : decode cX11_needJobInRange 33 = .ok (.bipush 100, 2) := by decide +kernel
theorem dX11_needJobInRange_35 : decode cX11_needJobInRange 35 = .ok (.invokestatic 87, 3) := by decide +kernel
theorem dX11_needJobInRange_38 : decode cX11_needJobInRange 38 = .ok (.ifCond .eq 13, 3) := by decide +kernel
theorem dX11_needJobInRange_41 : decode cX11_needJobInRange 41 = .ok (.iload 4, 2) := by decide +kernel
theorem dX11_needJobInRange_43 : decode cX11_needJobInRange 43 = .ok (.iconst 0, 1) := by decide +kernel
theorem dX11_needJobInRange_44 : decode cX11_needJobInRange 44 = .ok (.iconst 3, 1) := by decide +kernel
theorem dX11_needJobInRange_45 : decode cX11_needJobInRange 45 = .ok (.invokestatic 87, 3) := by decide +kernel
theorem dX11_needJobInRange_48 : decode cX11_needJobInRange 48 = .ok (.ifCond .ne 13, 3) := by decide +kernel
theorem dX11_needJobInRange_51 : decode cX11_needJobInRange 51 = .ok (.new 96, 3) := by decide +kernel
theorem dX11_needJobInRange_54 : decode cX11_needJobInRange 54 = .ok (.dup, 1) := by decide +kernel
theorem dX11_needJobInRange_55 : decode cX11_needJobInRange 55 = .ok (.ldc 228, 2) := by decide +kernel
theorem dX11_needJobInRange_57 : decode cX11_needJobInRange 57 = .ok (.invokespecial 100, 3) := by decide +kernel
theorem dX11_needJobInRange_60 : decode cX11_needJobInRange 60 = .ok (.athrow, 1) := by decide +kernel
theorem dX11_needJobInRange_61 : decode cX11_needJobInRange 61 = .ok (.return_, 1) := by decide +kernel
theorem dX11_needJob_0 : decode cX11_needJob 0 = .ok (.iload_n 1, 1) := by decide +kernel
theorem dX11_needJob_1 : decode cX11_needJob 1 = .ok (.iconst 0, 1) := by decide +kernel
theorem dX11_needJob_2 : decode cX11_needJob 2 = .ok (.aload_n 0, 1) := by decide +kernel
theorem dX11_needJob_3 : decode cX11_needJob 3 = .ok (.getfield 12, 3) := by decide +kernel
theorem dX11_needJob_6 : decode cX11_needJob 6 = .ok (.getfield 62, 3) := by decide +kernel
theorem dX11_needJob_9 : decode cX11_needJob 9 = .ok (.iconst 1, 1) := by decide +kernel
theorem dX11_needJob_10 : decode cX11_needJob 10 = .ok (.isub, 1) := by decide +kernel
theorem dX11_needJob_11 : decode cX11_needJob 11 = .ok (.invokestatic 87, 3) := by decide +kernel
theorem dX11_needJob_14 : decode cX11_needJob 14 = .ok (.ifCond .ne 13, 3) := by decide +kernel
theorem dX11_needJob_17 : decode cX11_needJob 17 = .ok (.new 91, 3) := by decide +kernel
theorem dX11_needJob_20 : decode cX11_needJob 20 = .ok (.dup, 1) := by decide +kernel
theorem dX11_needJob_21 : decode cX11_needJob 21 = .ok (.ldc 230, 2) := by decide +kernel
theorem dX11_needJob_23 : decode cX11_needJob 23 = .ok (.invokespecial 95, 3) := by decide +kernel
theorem dX11_needJob_26 : decode cX11_needJob 26 = .ok (.athrow, 1) := by decide +kernel
theorem dX11_needJob_27 : decode cX11_needJob 27 = .ok (.return_, 1) := by decide +kernel
theorem dX11_needPiece_0 : decode cX11_needPiece 0 = .ok (.iload_n 1, 1) := by decide +kernel
theorem dX11_needPiece_1 : decode cX11_needPiece 1 = .ok (.iconst 0, 1) := by decide +kernel
theorem dX11_needPiece_2 : decode cX11_needPiece 2 = .ok (.aload_n 0, 1) := by decide +kernel
theorem dX11_needPiece_3 : decode cX11_needPiece 3 = .ok (.getfield 19, 3) := by decide +kernel
theorem dX11_needPiece_6 : decode cX11_needPiece 6 = .ok (.getfield 159, 3) := by decide +kernel
theorem dX11_needPiece_9 : decode cX11_needPiece 9 = .ok (.iconst 1, 1) := by decide +kernel
theorem dX11_needPiece_10 : decode cX11_needPiece 10 = .ok (.isub, 1) := by decide +kernel
theorem dX11_needPiece_11 : decode cX11_needPiece 11 = .ok (.invokestatic 87, 3) := by decide +kernel
theorem dX11_needPiece_14 : decode cX11_needPiece 14 = .ok (.ifCond .ne 13, 3) := by decide +kernel
theorem dX11_needPiece_17 : decode cX11_needPiece 17 = .ok (.new 91, 3) := by decide +kernel
theorem dX11_needPiece_20 : decode cX11_needPiece 20 = .ok (.dup, 1) := by decide +kernel
theorem dX11_needPiece_21 : decode cX11_needPiece 21 = .ok (.ldc 232, 2) := by decide +kernel
theorem dX11_needPiece_23 : decode cX11_needPiece 23 = .ok (.invokespecial 95, 3) := by decide +kernel
theorem dX11_needPiece_26 : decode cX11_needPiece 26 = .ok (.athrow, 1) := by decide +kernel
theorem dX11_needPiece_27 : decode cX11_needPiece 27 = .ok (.return_, 1) := by decide +kernel
theorem dX11_needPlan_0 : decode cX11_needPlan 0 = .ok (.aload_n 0, 1) := by decide +kernel
theorem dX11_needPlan_1 : decode cX11_needPlan 1 = .ok (.getfield 19, 3) := by decide +kernel
theorem dX11_needPlan_4 : decode cX11_needPlan 4 = .ok (.getfield 155, 3) := by decide +kernel
theorem dX11_needPlan_7 : decode cX11_needPlan 7 = .ok (.ifCond .ne 13, 3) := by decide +kernel
theorem dX11_needPlan_10 : decode cX11_needPlan 10 = .ok (.new 66, 3) := by decide +kernel
theorem dX11_needPlan_13 : decode cX11_needPlan 13 = .ok (.dup, 1) := by decide +kernel
theorem dX11_needPlan_14 : decode cX11_needPlan 14 = .ok (.ldc 234, 2) := by decide +kernel
theorem dX11_needPlan_16 : decode cX11_needPlan 16 = .ok (.invokespecial 70, 3) := by decide +kernel
theorem dX11_needPlan_19 : decode cX11_needPlan 19 = .ok (.athrow, 1) := by decide +kernel
theorem dX11_needPlan_20 : decode cX11_needPlan 20 = .ok (.return_, 1) := by decide +kernel
theorem dX11_needSomeJob_0 : decode cX11_needSomeJob 0 = .ok (.aload_n 0, 1) := by decide +kernel
theorem dX11_needSomeJob_1 : decode cX11_needSomeJob 1 = .ok (.getfield 12, 3) := by decide +kernel
theorem dX11_needSomeJob_4 : decode cX11_needSomeJob 4 = .ok (.getfield 62, 3) := by decide +kernel
theorem dX11_needSomeJob_7 : decode cX11_needSomeJob 7 = .ok (.ifCond .ne 13, 3) := by decide +kernel
theorem dX11_needSomeJob_10 : decode cX11_needSomeJob 10 = .ok (.new 66, 3) := by decide +kernel
theorem dX11_needSomeJob_13 : decode cX11_needSomeJob 13 = .ok (.dup, 1) := by decide +kernel
theorem dX11_needSomeJob_14 : decode cX11_needSomeJob 14 = .ok (.ldc 236, 2) := by decide +kernel
theorem dX11_needSomeJob_16 : decode cX11_needSomeJob 16 = .ok (.invokespecial 70, 3) := by decide +kernel
theorem dX11_needSomeJob_19 : decode cX11_needSomeJob 19 = .ok (.athrow, 1) := by decide +kernel
theorem dX11_needSomeJob_20 : decode cX11_needSomeJob 20 = .ok (.return_, 1) := by decide +kernel
theorem dX11_needFewJobs_0 : decode cX11_needFewJobs 0 = .ok (.aload_n 0, 1) := by decide +kernel
theorem dX11_needFewJobs_1 : decode cX11_needFewJobs 1 = .ok (.getfield 12, 3) := by decide +kernel
theorem dX11_needFewJobs_4 : decode cX11_needFewJobs 4 = .ok (.getfield 62, 3) := by decide +kernel
theorem dX11_needFewJobs_7 : decode cX11_needFewJobs 7 = .ok (.iconst 1, 1) := by decide +kernel
theorem dX11_needFewJobs_8 : decode cX11_needFewJobs 8 = .ok (.bipush 7, 2) := by decide +kernel
theorem dX11_needFewJobs_10 : decode cX11_needFewJobs 10 = .ok (.invokestatic 87, 3) := by decide +kernel
theorem dX11_needFewJobs_13 : decode cX11_needFewJobs 13 = .ok (.ifCond .ne 13, 3) := by decide +kernel
theorem dX11_needFewJobs_16 : decode cX11_needFewJobs 16 = .ok (.new 66, 3) := by decide +kernel
theorem dX11_needFewJobs_19 : decode cX11_needFewJobs 19 = .ok (.dup, 1) := by decide +kernel
theorem dX11_needFewJobs_20 : decode cX11_needFewJobs 20 = .ok (.ldc 238, 2) := by decide +kernel
theorem dX11_needFewJobs_22 : decode cX11_needFewJobs 22 = .ok (.invokespecial 70, 3) := by decide +kernel
theorem dX11_needFewJobs_25 : decode cX11_needFewJobs 25 = .ok (.athrow, 1) := by decide +kernel
theorem dX11_needFewJobs_26 : decode cX11_needFewJobs 26 = .ok (.return_, 1) := by decide +kernel
theorem dJx29ce0_ordinal_8abf5_0 : decode cJx29ce0_ordinal_8abf5 0 = .ok (.aload_n 0, 1) := by decide +kernel
theorem dJx29ce0_ordinal_8abf5_1 : decode cJx29ce0_ordinal_8abf5 1 = .ok (.getfield 7, 3) := by decide +kernel
theorem dJx29ce0_ordinal_8abf5_4 : decode cJx29ce0_ordinal_8abf5 4 = .ok (.ireturn, 1) := by decide +kernel
theorem dJ6_bitCount_0f7a4_0 : decode cJ6_bitCount_0f7a4 0 = .ok (.iload_n 0, 1) := by decide +kernel
theorem dJ6_bitCount_0f7a4_1 : decode cJ6_bitCount_0f7a4 1 = .ok (.iload_n 0, 1) := by decide +kernel
theorem dJ6_bitCount_0f7a4_2 : decode cJ6_bitCount_0f7a4 2 = .ok (.iconst 1, 1) := by decide +kernel
theorem dJ6_bitCount_0f7a4_3 : decode cJ6_bitCount_0f7a4 3 = .ok (.iushr, 1) := by decide +kernel
theorem dJ6_bitCount_0f7a4_4 : decode cJ6_bitCount_0f7a4 4 = .ok (.ldc_w 265, 3) := by decide +kernel
theorem dJ6_bitCount_0f7a4_7 : decode cJ6_bitCount_0f7a4 7 = .ok (.iand, 1) := by decide +kernel
theorem dJ6_bitCount_0f7a4_8 : decode cJ6_bitCount_0f7a4 8 = .ok (.isub, 1) := by decide +kernel
theorem dJ6_bitCount_0f7a4_9 : decode cJ6_bitCount_0f7a4 9 = .ok (.istore_n 0, 1) := by decide +kernel
theorem dJ6_bitCount_0f7a4_10 : decode cJ6_bitCount_0f7a4 10 = .ok (.iload_n 0, 1) := by decide +kernel
theorem dJ6_bitCount_0f7a4_11 : decode cJ6_bitCount_0f7a4 11 = .ok (.ldc_w 266, 3) := by decide +kernel
theorem dJ6_bitCount_0f7a4_14 : decode cJ6_bitCount_0f7a4 14 = .ok (.iand, 1) := by decide +kernel
theorem dJ6_bitCount_0f7a4_15 : decode cJ6_bitCount_0f7a4 15 = .ok (.iload_n 0, 1) := by decide +kernel
theorem dJ6_bitCount_0f7a4_16 : decode cJ6_bitCount_0f7a4 16 = .ok (.iconst 2, 1) := by decide +kernel
theorem dJ6_bitCount_0f7a4_17 : decode cJ6_bitCount_0f7a4 17 = .ok (.iushr, 1) := by decide +kernel
theorem dJ6_bitCount_0f7a4_18 : decode cJ6_bitCount_0f7a4 18 = .ok (.ldc_w 266, 3) := by decide +kernel
theorem dJ6_bitCount_0f7a4_21 : decode cJ6_bitCount_0f7a4 21 = .ok (.iand, 1) := by decide +kernel
theorem dJ6_bitCount_0f7a4_22 : decode cJ6_bitCount_0f7a4 22 = .ok (.iadd, 1) := by decide +kernel
theorem dJ6_bitCount_0f7a4_23 : decode cJ6_bitCount_0f7a4 23 = .ok (.istore_n 0, 1) := by decide +kernel
theorem dJ6_bitCount_0f7a4_24 : decode cJ6_bitCount_0f7a4 24 = .ok (.iload_n 0, 1) := by decide +kernel
theorem dJ6_bitCount_0f7a4_25 : decode cJ6_bitCount_0f7a4 25 = .ok (.iload_n 0, 1) := by decide +kernel
theorem dJ6_bitCount_0f7a4_26 : decode cJ6_bitCount_0f7a4 26 = .ok (.iconst 4, 1) := by decide +kernel
theorem dJ6_bitCount_0f7a4_27 : decode cJ6_bitCount_0f7a4 27 = .ok (.iushr, 1) := by decide +kernel
theorem dJ6_bitCount_0f7a4_28 : decode cJ6_bitCount_0f7a4 28 = .ok (.iadd, 1) := by decide +kernel
theorem dJ6_bitCount_0f7a4_29 : decode cJ6_bitCount_0f7a4 29 = .ok (.ldc_w 267, 3) := by decide +kernel
theorem dJ6_bitCount_0f7a4_32 : decode cJ6_bitCount_0f7a4 32 = .ok (.iand, 1) := by decide +kernel
theorem dJ6_bitCount_0f7a4_33 : decode cJ6_bitCount_0f7a4 33 = .ok (.istore_n 0, 1) := by decide +kernel
theorem dJ6_bitCount_0f7a4_34 : decode cJ6_bitCount_0f7a4 34 = .ok (.iload_n 0, 1) := by decide +kernel
theorem dJ6_bitCount_0f7a4_35 : decode cJ6_bitCount_0f7a4 35 = .ok (.iload_n 0, 1) := by decide +kernel
theorem dJ6_bitCount_0f7a4_36 : decode cJ6_bitCount_0f7a4 36 = .ok (.bipush 8, 2) := by decide +kernel
theorem dJ6_bitCount_0f7a4_38 : decode cJ6_bitCount_0f7a4 38 = .ok (.iushr, 1) := by decide +kernel
theorem dJ6_bitCount_0f7a4_39 : decode cJ6_bitCount_0f7a4 39 = .ok (.iadd, 1) := by decide +kernel
theorem dJ6_bitCount_0f7a4_40 : decode cJ6_bitCount_0f7a4 40 = .ok (.istore_n 0, 1) := by decide +kernel
theorem dJ6_bitCount_0f7a4_41 : decode cJ6_bitCount_0f7a4 41 = .ok (.iload_n 0, 1) := by decide +kernel
theorem dJ6_bitCount_0f7a4_42 : decode cJ6_bitCount_0f7a4 42 = .ok (.iload_n 0, 1) := by decide +kernel
theorem dJ6_bitCount_0f7a4_43 : decode cJ6_bitCount_0f7a4 43 = .ok (.bipush 16, 2) := by decide +kernel
theorem dJ6_bitCount_0f7a4_45 : decode cJ6_bitCount_0f7a4 45 = .ok (.iushr, 1) := by decide +kernel
theorem dJ6_bitCount_0f7a4_46 : decode cJ6_bitCount_0f7a4 46 = .ok (.iadd, 1) := by decide +kernel
theorem dJ6_bitCount_0f7a4_47 : decode cJ6_bitCount_0f7a4 47 = .ok (.istore_n 0, 1) := by decide +kernel
theorem dJ6_bitCount_0f7a4_48 : decode cJ6_bitCount_0f7a4 48 = .ok (.iload_n 0, 1) := by decide +kernel
theorem dJ6_bitCount_0f7a4_49 : decode cJ6_bitCount_0f7a4 49 = .ok (.bipush 63, 2) := by decide +kernel
theorem dJ6_bitCount_0f7a4_51 : decode cJ6_bitCount_0f7a4 51 = .ok (.iand, 1) := by decide +kernel
theorem dJ6_bitCount_0f7a4_52 : decode cJ6_bitCount_0f7a4 52 = .ok (.ireturn, 1) := by decide +kernel
theorem dJ9_max_7cf53_0 : decode cJ9_max_7cf53 0 = .ok (.iload_n 0, 1) := by decide +kernel
theorem dJ9_max_7cf53_1 : decode cJ9_max_7cf53 1 = .ok (.iload_n 1, 1) := by decide +kernel
theorem dJ9_max_7cf53_2 : decode cJ9_max_7cf53 2 = .ok (.if_icmp .lt 7, 3) := by decide +kernel
theorem dJ9_max_7cf53_5 : decode cJ9_max_7cf53 5 = .ok (.iload_n 0, 1) := by decide +kernel
theorem dJ9_max_7cf53_6 : decode cJ9_max_7cf53 6 = .ok (.goto 4, 3) := by decide +kernel
theorem dJ9_max_7cf53_9 : decode cJ9_max_7cf53 9 = .ok (.iload_n 1, 1) := by decide +kernel
theorem dJ9_max_7cf53_10 : decode cJ9_max_7cf53 10 = .ok (.ireturn, 1) := by decide +kernel
theorem dJ9_min_7cf53_0 : decode cJ9_min_7cf53 0 = .ok (.iload_n 0, 1) := by decide +kernel
theorem dJ9_min_7cf53_1 : decode cJ9_min_7cf53 1 = .ok (.iload_n 1, 1) := by decide +kernel
theorem dJ9_min_7cf53_2 : decode cJ9_min_7cf53 2 = .ok (.if_icmp .gt 7, 3) := by decide +kernel
theorem dJ9_min_7cf53_5 : decode cJ9_min_7cf53 5 = .ok (.iload_n 0, 1) := by decide +kernel
theorem dJ9_min_7cf53_6 : decode cJ9_min_7cf53 6 = .ok (.goto 4, 3) := by decide +kernel
theorem dJ9_min_7cf53_9 : decode cJ9_min_7cf53 9 = .ok (.iload_n 1, 1) := by decide +kernel
theorem dJ9_min_7cf53_10 : decode cJ9_min_7cf53 10 = .ok (.ireturn, 1) := by decide +kernel
theorem dL_draw_0 : decode cL_draw 0 = .ok (.iload_n 1, 1) := by decide +kernel
theorem dL_draw_1 : decode cL_draw 1 = .ok (.aload_n 0, 1) := by decide +kernel
theorem dL_draw_2 : decode cL_draw 2 = .ok (.arraylength, 1) := by decide +kernel
theorem dL_draw_3 : decode cL_draw 3 = .ok (.if_icmp .ge 12, 3) := by decide +kernel
theorem dL_draw_6 : decode cL_draw 6 = .ok (.aload_n 0, 1) := by decide +kernel
theorem dL_draw_7 : decode cL_draw 7 = .ok (.iload_n 1, 1) := by decide +kernel
theorem dL_draw_8 : decode cL_draw 8 = .ok (.iaload, 1) := by decide +kernel
theorem dL_draw_9 : decode cL_draw 9 = .ok (.ldc 7, 2) := by decide +kernel
theorem dL_draw_11 : decode cL_draw 11 = .ok (.iand, 1) := by decide +kernel
theorem dL_draw_12 : decode cL_draw 12 = .ok (.goto 12, 3) := by decide +kernel
theorem dL_draw_15 : decode cL_draw 15 = .ok (.ldc 8, 2) := by decide +kernel
theorem dL_draw_17 : decode cL_draw 17 = .ok (.iload_n 1, 1) := by decide +kernel
theorem dL_draw_18 : decode cL_draw 18 = .ok (.iconst 2, 1) := by decide +kernel
theorem dL_draw_19 : decode cL_draw 19 = .ok (.iadd, 1) := by decide +kernel
theorem dL_draw_20 : decode cL_draw 20 = .ok (.imul, 1) := by decide +kernel
theorem dL_draw_21 : decode cL_draw 21 = .ok (.ldc 9, 2) := by decide +kernel
theorem dL_draw_23 : decode cL_draw 23 = .ok (.irem, 1) := by decide +kernel
theorem dL_draw_24 : decode cL_draw 24 = .ok (.ireturn, 1) := by decide +kernel
theorem dL_step_0 : decode cL_step 0 = .ok (.aload_n 1, 1) := by decide +kernel
theorem dL_step_1 : decode cL_step 1 = .ok (.bipush 54, 2) := by decide +kernel
theorem dL_step_3 : decode cL_step 3 = .ok (.iaload, 1) := by decide +kernel
theorem dL_step_4 : decode cL_step 4 = .ok (.istore 5, 2) := by decide +kernel
theorem dL_step_6 : decode cL_step 6 = .ok (.iload_n 2, 1) := by decide +kernel
theorem dL_step_7 : decode cL_step 7 = .ok (.bipush 8, 2) := by decide +kernel
theorem dL_step_9 : decode cL_step 9 = .ok (.irem, 1) := by decide +kernel
theorem dL_step_10 : decode cL_step 10 = .ok (.iconst 5, 1) := by decide +kernel
theorem dL_step_11 : decode cL_step 11 = .ok (.if_icmp .ge 92, 3) := by decide +kernel
theorem dL_step_14 : decode cL_step 14 = .ok (.iload 5, 2) := by decide +kernel
theorem dL_step_16 : decode cL_step 16 = .ok (.bipush 10, 2) := by decide +kernel
theorem dL_step_18 : decode cL_step 18 = .ok (.if_icmp .ge 85, 3) := by decide +kernel
theorem dL_step_21 : decode cL_step 21 = .ok (.aload_n 1, 1) := by decide +kernel
theorem dL_step_22 : decode cL_step 22 = .ok (.iload 5, 2) := by decide +kernel
theorem dL_step_24 : decode cL_step 24 = .ok (.iload_n 3, 1) := by decide +kernel
theorem dL_step_25 : decode cL_step 25 = .ok (.iload 4, 2) := by decide +kernel
theorem dL_step_27 : decode cL_step 27 = .ok (.invokestatic 10, 3) := by decide +kernel
theorem dL_step_30 : decode cL_step 30 = .ok (.aload_n 1, 1) := by decide +kernel
theorem dL_step_31 : decode cL_step 31 = .ok (.bipush 54, 2) := by decide +kernel
theorem dL_step_33 : decode cL_step 33 = .ok (.dup2, 1) := by decide +kernel
theorem dL_step_34 : decode cL_step 34 = .ok (.iaload, 1) := by decide +kernel
theorem dL_step_35 : decode cL_step 35 = .ok (.iconst 1, 1) := by decide +kernel
theorem dL_step_36 : decode cL_step 36 = .ok (.iadd, 1) := by decide +kernel
theorem dL_step_37 : decode cL_step 37 = .ok (.iastore, 1) := by decide +kernel
theorem dL_step_38 : decode cL_step 38 = .ok (.aload_n 0, 1) := by decide +kernel
theorem dL_step_39 : decode cL_step 39 = .ok (.aload_n 1, 1) := by decide +kernel
theorem dL_step_40 : decode cL_step 40 = .ok (.iload 5, 2) := by decide +kernel
theorem dL_step_42 : decode cL_step 42 = .ok (.iaload, 1) := by decide +kernel
theorem dL_step_43 : decode cL_step 43 = .ok (.aload_n 1, 1) := by decide +kernel
theorem dL_step_44 : decode cL_step 44 = .ok (.bipush 10, 2) := by decide +kernel
theorem dL_step_46 : decode cL_step 46 = .ok (.iload 5, 2) := by decide +kernel
theorem dL_step_48 : decode cL_step 48 = .ok (.iadd, 1) := by decide +kernel
theorem dL_step_49 : decode cL_step 49 = .ok (.iaload, 1) := by decide +kernel
theorem dL_step_50 : decode cL_step 50 = .ok (.aload_n 1, 1) := by decide +kernel
theorem dL_step_51 : decode cL_step 51 = .ok (.bipush 20, 2) := by decide +kernel
theorem dL_step_53 : decode cL_step 53 = .ok (.iload 5, 2) := by decide +kernel
theorem dL_step_55 : decode cL_step 55 = .ok (.iadd, 1) := by decide +kernel
theorem dL_step_56 : decode cL_step 56 = .ok (.iaload, 1) := by decide +kernel
theorem dL_step_57 : decode cL_step 57 = .ok (.aload_n 1, 1) := by decide +kernel
theorem dL_step_58 : decode cL_step 58 = .ok (.bipush 30, 2) := by decide +kernel
theorem dL_step_60 : decode cL_step 60 = .ok (.iload 5, 2) := by decide +kernel
theorem dL_step_62 : decode cL_step 62 = .ok (.iadd, 1) := by decide +kernel
theorem dL_step_63 : decode cL_step 63 = .ok (.iaload, 1) := by decide +kernel
theorem dL_step_64 : decode cL_step 64 = .ok (.aload_n 1, 1) := by decide +kernel
theorem dL_step_65 : decode cL_step 65 = .ok (.bipush 40, 2) := by decide +kernel
theorem dL_step_67 : decode cL_step 67 = .ok (.iload 5, 2) := by decide +kernel
theorem dL_step_69 : decode cL_step 69 = .ok (.iadd, 1) := by decide +kernel
theorem dL_step_70 : decode cL_step 70 = .ok (.iaload, 1) := by decide +kernel
theorem dL_step_71 : decode cL_step 71 = .ok (.invokevirtual 16, 3) := by decide +kernel
theorem dL_step_74 : decode cL_step 74 = .ok (.iload 5, 2) := by decide +kernel
theorem dL_step_76 : decode cL_step 76 = .ok (.if_icmp .ne 25, 3) := by decide +kernel
theorem dL_step_79 : decode cL_step 79 = .ok (.aload_n 0, 1) := by decide +kernel
theorem dL_step_80 : decode cL_step 80 = .ok (.invokevirtual 22, 3) := by decide +kernel
theorem dL_step_83 : decode cL_step 83 = .ok (.iload 5, 2) := by decide +kernel
theorem dL_step_85 : decode cL_step 85 = .ok (.iconst 1, 1) := by decide +kernel
theorem dL_step_86 : decode cL_step 86 = .ok (.iadd, 1) := by decide +kernel
theorem dL_step_87 : decode cL_step 87 = .ok (.if_icmp .ne 14, 3) := by decide +kernel
theorem dL_step_90 : decode cL_step 90 = .ok (.aload_n 0, 1) := by decide +kernel
theorem dL_step_91 : decode cL_step 91 = .ok (.invokevirtual 26, 3) := by decide +kernel
theorem dL_step_94 : decode cL_step 94 = .ok (.ifCond .ne 7, 3) := by decide +kernel
theorem dL_step_97 : decode cL_step 97 = .ok (.iconst 1, 1) := by decide +kernel
theorem dL_step_98 : decode cL_step 98 = .ok (.goto 4, 3) := by decide +kernel
theorem dL_step_101 : decode cL_step 101 = .ok (.iconst 0, 1) := by decide +kernel
theorem dL_step_102 : decode cL_step 102 = .ok (.ireturn, 1) := by decide +kernel
theorem dL_step_103 : decode cL_step 103 = .ok (.iload_n 2, 1) := by decide +kernel
theorem dL_step_104 : decode cL_step 104 = .ok (.bipush 8, 2) := by decide +kernel
theorem dL_step_106 : decode cL_step 106 = .ok (.irem, 1) := by decide +kernel
theorem dL_step_107 : decode cL_step 107 = .ok (.bipush 7, 2) := by decide +kernel
theorem dL_step_109 : decode cL_step 109 = .ok (.if_icmp .ne 56, 3) := by decide +kernel
theorem dL_step_112 : decode cL_step 112 = .ok (.aload_n 1, 1) := by decide +kernel
theorem dL_step_113 : decode cL_step 113 = .ok (.bipush 50, 2) := by decide +kernel
theorem dL_step_115 : decode cL_step 115 = .ok (.iload_n 3, 1) := by decide +kernel
theorem dL_step_116 : decode cL_step 116 = .ok (.iconst 4, 1) := by decide +kernel
theorem dL_step_117 : decode cL_step 117 = .ok (.irem, 1) := by decide +kernel
theorem dL_step_118 : decode cL_step 118 = .ok (.iadd, 1) := by decide +kernel
theorem dL_step_119 : decode cL_step 119 = .ok (.iaload, 1) := by decide +kernel
theorem dL_step_120 : decode cL_step 120 = .ok (.istore 6, 2) := by decide +kernel
theorem dL_step_122 : decode cL_step 122 = .ok (.aload_n 1, 1) := by decide +kernel
theorem dL_step_123 : decode cL_step 123 = .ok (.bipush 50, 2) := by decide +kernel
theorem dL_step_125 : decode cL_step 125 = .ok (.iload_n 3, 1) := by decide +kernel
theorem dL_step_126 : decode cL_step 126 = .ok (.iconst 4, 1) := by decide +kernel
theorem dL_step_127 : decode cL_step 127 = .ok (.irem, 1) := by decide +kernel
theorem dL_step_128 : decode cL_step 128 = .ok (.iadd, 1) := by decide +kernel
theorem dL_step_129 : decode cL_step 129 = .ok (.iload 4, 2) := by decide +kernel
theorem dL_step_131 : decode cL_step 131 = .ok (.bipush 21, 2) := by decide +kernel
theorem dL_step_133 : decode cL_step 133 = .ok (.irem, 1) := by decide +kernel
theorem dL_step_134 : decode cL_step 134 = .ok (.iastore, 1) := by decide +kernel
theorem dL_step_135 : decode cL_step 135 = .ok (.aload_n 0, 1) := by decide +kernel
theorem dL_step_136 : decode cL_step 136 = .ok (.iload_n 3, 1) := by decide +kernel
theorem dL_step_137 : decode cL_step 137 = .ok (.iconst 4, 1) := by decide +kernel
theorem dL_step_138 : decode cL_step 138 = .ok (.irem, 1) := by decide +kernel
theorem dL_step_139 : decode cL_step 139 = .ok (.iload 4, 2) := by decide +kernel
theorem dL_step_141 : decode cL_step 141 = .ok (.bipush 21, 2) := by decide +kernel
theorem dL_step_143 : decode cL_step 143 = .ok (.irem, 1) := by decide +kernel
theorem dL_step_144 : decode cL_step 144 = .ok (.invokevirtual 30, 3) := by decide +kernel
theorem dL_step_147 : decode cL_step 147 = .ok (.iload 6, 2) := by decide +kernel
theorem dL_step_149 : decode cL_step 149 = .ok (.if_icmp .ne 14, 3) := by decide +kernel
theorem dL_step_152 : decode cL_step 152 = .ok (.aload_n 0, 1) := by decide +kernel
theorem dL_step_153 : decode cL_step 153 = .ok (.invokevirtual 26, 3) := by decide +kernel
theorem dL_step_156 : decode cL_step 156 = .ok (.ifCond .ne 7, 3) := by decide +kernel
theorem dL_step_159 : decode cL_step 159 = .ok (.iconst 1, 1) := by decide +kernel
theorem dL_step_160 : decode cL_step 160 = .ok (.goto 4, 3) := by decide +kernel
theorem dL_step_163 : decode cL_step 163 = .ok (.iconst 0, 1) := by decide +kernel
theorem dL_step_164 : decode cL_step 164 = .ok (.ireturn, 1) := by decide +kernel
theorem dL_step_165 : decode cL_step 165 = .ok (.iload 5, 2) := by decide +kernel
theorem dL_step_167 : decode cL_step 167 = .ok (.ifCond .ne 38, 3) := by decide +kernel
theorem dL_step_170 : decode cL_step 170 = .ok (.aload_n 0, 1) := by decide +kernel
theorem dL_step_171 : decode cL_step 171 = .ok (.invokevirtual 26, 3) := by decide +kernel
theorem dL_step_174 : decode cL_step 174 = .ok (.ifCond .ne 29, 3) := by decide +kernel
theorem dL_step_177 : decode cL_step 177 = .ok (.aload_n 0, 1) := by decide +kernel
theorem dL_step_178 : decode cL_step 178 = .ok (.invokevirtual 34, 3) := by decide +kernel
theorem dL_step_181 : decode cL_step 181 = .ok (.ifCond .ne 22, 3) := by decide +kernel
theorem dL_step_184 : decode cL_step 184 = .ok (.aload_n 0, 1) := by decide +kernel
theorem dL_step_185 : decode cL_step 185 = .ok (.invokevirtual 37, 3) := by decide +kernel
theorem dL_step_188 : decode cL_step 188 = .ok (.ifCond .ne 15, 3) := by decide +kernel
theorem dL_step_191 : decode cL_step 191 = .ok (.aload_n 0, 1) := by decide +kernel
theorem dL_step_192 : decode cL_step 192 = .ok (.iconst 0, 1) := by decide +kernel
theorem dL_step_193 : decode cL_step 193 = .ok (.invokevirtual 40, 3) := by decide +kernel
theorem dL_step_196 : decode cL_step 196 = .ok (.ifCond .eq 7, 3) := by decide +kernel
theorem dL_step_199 : decode cL_step 199 = .ok (.iconst 1, 1) := by decide +kernel
theorem dL_step_200 : decode cL_step 200 = .ok (.goto 4, 3) := by decide +kernel
theorem dL_step_203 : decode cL_step 203 = .ok (.iconst 0, 1) := by decide +kernel
theorem dL_step_204 : decode cL_step 204 = .ok (.ireturn, 1) := by decide +kernel
theorem dL_step_205 : decode cL_step 205 = .ok (.iload_n 3, 1) := by decide +kernel
theorem dL_step_206 : decode cL_step 206 = .ok (.iload 5, 2) := by decide +kernel
theorem dL_step_208 : decode cL_step 208 = .ok (.irem, 1) := by decide +kernel
theorem dL_step_209 : decode cL_step 209 = .ok (.istore 6, 2) := by decide +kernel
theorem dL_step_211 : decode cL_step 211 = .ok (.iload_n 2, 1) := by decide +kernel
theorem dL_step_212 : decode cL_step 212 = .ok (.bipush 8, 2) := by decide +kernel
theorem dL_step_214 : decode cL_step 214 = .ok (.irem, 1) := by decide +kernel
theorem dL_step_215 : decode cL_step 215 = .ok (.bipush 6, 2) := by decide +kernel
theorem dL_step_217 : decode cL_step 217 = .ok (.if_icmp .ne 72, 3) := by decide +kernel
theorem dL_step_220 : decode cL_step 220 = .ok (.aload_n 1, 1) := by decide +kernel
theorem dL_step_221 : decode cL_step 221 = .ok (.iload 6, 2) := by decide +kernel
theorem dL_step_223 : decode cL_step 223 = .ok (.iload 4, 2) := by decide +kernel
theorem dL_step_225 : decode cL_step 225 = .ok (.iload_n 3, 1) := by decide +kernel
theorem dL_step_226 : decode cL_step 226 = .ok (.invokestatic 10, 3) := by decide +kernel
theorem dL_step_229 : decode cL_step 229 = .ok (.aload_n 0, 1) := by decide +kernel
theorem dL_step_230 : decode cL_step 230 = .ok (.iload 6, 2) := by decide +kernel
theorem dL_step_232 : decode cL_step 232 = .ok (.aload_n 1, 1) := by decide +kernel
theorem dL_step_233 : decode cL_step 233 = .ok (.iload 6, 2) := by decide +kernel
theorem dL_step_235 : decode cL_step 235 = .ok (.iaload, 1) := by decide +kernel
theorem dL_step_236 : decode cL_step 236 = .ok (.aload_n 1, 1) := by decide +kernel
theorem dL_step_237 : decode cL_step 237 = .ok (.bipush 10, 2) := by decide +kernel
theorem dL_step_239 : decode cL_step 239 = .ok (.iload 6, 2) := by decide +kernel
theorem dL_step_241 : decode cL_step 241 = .ok (.iadd, 1) := by decide +kernel
theorem dL_step_242 : decode cL_step 242 = .ok (.iaload, 1) := by decide +kernel
theorem dL_step_243 : decode cL_step 243 = .ok (.aload_n 1, 1) := by decide +kernel
theorem dL_step_244 : decode cL_step 244 = .ok (.bipush 20, 2) := by decide +kernel
theorem dL_step_246 : decode cL_step 246 = .ok (.iload 6, 2) := by decide +kernel
theorem dL_step_248 : decode cL_step 248 = .ok (.iadd, 1) := by decide +kernel
theorem dL_step_249 : decode cL_step 249 = .ok (.iaload, 1) := by decide +kernel
theorem dL_step_250 : decode cL_step 250 = .ok (.aload_n 1, 1) := by decide +kernel
theorem dL_step_251 : decode cL_step 251 = .ok (.bipush 30, 2) := by decide +kernel
theorem dL_step_253 : decode cL_step 253 = .ok (.iload 6, 2) := by decide +kernel
theorem dL_step_255 : decode cL_step 255 = .ok (.iadd, 1) := by decide +kernel
theorem dL_step_256 : decode cL_step 256 = .ok (.iaload, 1) := by decide +kernel
theorem dL_step_257 : decode cL_step 257 = .ok (.aload_n 1, 1) := by decide +kernel
theorem dL_step_258 : decode cL_step 258 = .ok (.bipush 40, 2) := by decide +kernel
theorem dL_step_260 : decode cL_step 260 = .ok (.iload 6, 2) := by decide +kernel
theorem dL_step_262 : decode cL_step 262 = .ok (.iadd, 1) := by decide +kernel
theorem dL_step_263 : decode cL_step 263 = .ok (.iaload, 1) := by decide +kernel
theorem dL_step_264 : decode cL_step 264 = .ok (.invokevirtual 44, 3) := by decide +kernel
theorem dL_step_267 : decode cL_step 267 = .ok (.aload_n 0, 1) := by decide +kernel
theorem dL_step_268 : decode cL_step 268 = .ok (.invokevirtual 26, 3) := by decide +kernel
theorem dL_step_271 : decode cL_step 271 = .ok (.ifCond .ne 16, 3) := by decide +kernel
theorem dL_step_274 : decode cL_step 274 = .ok (.aload_n 0, 1) := by decide +kernel
theorem dL_step_275 : decode cL_step 275 = .ok (.invokevirtual 22, 3) := by decide +kernel
theorem dL_step_278 : decode cL_step 278 = .ok (.iload 5, 2) := by decide +kernel
theorem dL_step_280 : decode cL_step 280 = .ok (.if_icmp .ne 7, 3) := by decide +kernel
theorem dL_step_283 : decode cL_step 283 = .ok (.iconst 1, 1) := by decide +kernel
theorem dL_step_284 : decode cL_step 284 = .ok (.goto 4, 3) := by decide +kernel
theorem dL_step_287 : decode cL_step 287 = .ok (.iconst 0, 1) := by decide +kernel
theorem dL_step_288 : decode cL_step 288 = .ok (.ireturn, 1) := by decide +kernel
theorem dL_step_289 : decode cL_step 289 = .ok (.aload_n 1, 1) := by decide +kernel
theorem dL_step_290 : decode cL_step 290 = .ok (.bipush 54, 2) := by decide +kernel
theorem dL_step_292 : decode cL_step 292 = .ok (.dup2, 1) := by decide +kernel
theorem dL_step_293 : decode cL_step 293 = .ok (.iaload, 1) := by decide +kernel
theorem dL_step_294 : decode cL_step 294 = .ok (.iconst 1, 1) := by decide +kernel
theorem dL_step_295 : decode cL_step 295 = .ok (.isub, 1) := by decide +kernel
theorem dL_step_296 : decode cL_step 296 = .ok (.iastore, 1) := by decide +kernel
theorem dL_step_297 : decode cL_step 297 = .ok (.iload 6, 2) := by decide +kernel
theorem dL_step_299 : decode cL_step 299 = .ok (.istore 7, 2) := by decide +kernel
theorem dL_step_301 : decode cL_step 301 = .ok (.iload 7, 2) := by decide +kernel
theorem dL_step_303 : decode cL_step 303 = .ok (.aload_n 1, 1) := by decide +kernel
theorem dL_step_304 : decode cL_step 304 = .ok (.bipush 54, 2) := by decide +kernel
theorem dL_step_306 : decode cL_step 306 = .ok (.iaload, 1) := by decide +kernel
theorem dL_step_307 : decode cL_step 307 = .ok (.if_icmp .ge 41, 3) := by decide +kernel
theorem dL_step_310 : decode cL_step 310 = .ok (.iconst 0, 1) := by decide +kernel
theorem dL_step_311 : decode cL_step 311 = .ok (.istore 8, 2) := by decide +kernel
theorem dL_step_313 : decode cL_step 313 = .ok (.iload 8, 2) := by decide +kernel
theorem dL_step_315 : decode cL_step 315 = .ok (.bipush 50, 2) := by decide +kernel
theorem dL_step_317 : decode cL_step 317 = .ok (.if_icmp .ge 25, 3) := by decide +kernel
theorem dL_step_320 : decode cL_step 320 = .ok (.aload_n 1, 1) := by decide +kernel
theorem dL_step_321 : decode cL_step 321 = .ok (.iload 8, 2) := by decide +kernel
theorem dL_step_323 : decode cL_step 323 = .ok (.iload 7, 2) := by decide +kernel
theorem dL_step_325 : decode cL_step 325 = .ok (.iadd, 1) := by decide +kernel
theorem dL_step_326 : decode cL_step 326 = .ok (.aload_n 1, 1) := by decide +kernel
theorem dL_step_327 : decode cL_step 327 = .ok (.iload 8, 2) := by decide +kernel
theorem dL_step_329 : decode cL_step 329 = .ok (.iload 7, 2) := by decide +kernel
theorem dL_step_331 : decode cL_step 331 = .ok (.iadd, 1) := by decide +kernel
theorem dL_step_332 : decode cL_step 332 = .ok (.iconst 1, 1) := by decide +kernel
theorem dL_step_333 : decode cL_step 333 = .ok (.iadd, 1) := by decide +kernel
theorem dL_step_334 : decode cL_step 334 = .ok (.iaload, 1) := by decide +kernel
theorem dL_step_335 : decode cL_step 335 = .ok (.iastore, 1) := by decide +kernel
theorem dL_step_336 : decode cL_step 336 = .ok (.iinc 8 10, 3) := by decide +kernel
theorem dL_step_339 : decode cL_step 339 = .ok (.goto (-26), 3) := by decide +kernel
theorem dL_step_342 : decode cL_step 342 = .ok (.iinc 7 1, 3) := by decide +kernel
theorem dL_step_345 : decode cL_step 345 = .ok (.goto (-44), 3) := by decide +kernel
theorem dL_step_348 : decode cL_step 348 = .ok (.aload_n 0, 1) := by decide +kernel
theorem dL_step_349 : decode cL_step 349 = .ok (.iload 6, 2) := by decide +kernel
theorem dL_step_351 : decode cL_step 351 = .ok (.invokevirtual 48, 3) := by decide +kernel
theorem dL_step_354 : decode cL_step 354 = .ok (.iload 5, 2) := by decide +kernel
theorem dL_step_356 : decode cL_step 356 = .ok (.iconst 1, 1) := by decide +kernel
theorem dL_step_357 : decode cL_step 357 = .ok (.isub, 1) := by decide +kernel
theorem dL_step_358 : decode cL_step 358 = .ok (.if_icmp .ne 14, 3) := by decide +kernel
theorem dL_step_361 : decode cL_step 361 = .ok (.aload_n 0, 1) := by decide +kernel
theorem dL_step_362 : decode cL_step 362 = .ok (.invokevirtual 26, 3) := by decide +kernel
theorem dL_step_365 : decode cL_step 365 = .ok (.ifCond .ne 7, 3) := by decide +kernel
theorem dL_step_368 : decode cL_step 368 = .ok (.iconst 1, 1) := by decide +kernel
theorem dL_step_369 : decode cL_step 369 = .ok (.goto 4, 3) := by decide +kernel
theorem dL_step_372 : decode cL_step 372 = .ok (.iconst 0, 1) := by decide +kernel
theorem dL_step_373 : decode cL_step 373 = .ok (.ireturn, 1) := by decide +kernel
theorem dL_tells_0 : decode cL_tells 0 = .ok (.aload_n 0, 1) := by decide +kernel
theorem dL_tells_1 : decode cL_tells 1 = .ok (.iload_n 1, 1) := by decide +kernel
theorem dL_tells_2 : decode cL_tells 2 = .ok (.iconst 1, 1) := by decide +kernel
theorem dL_tells_3 : decode cL_tells 3 = .ok (.iload_n 2, 1) := by decide +kernel
theorem dL_tells_4 : decode cL_tells 4 = .ok (.bipush 30, 2) := by decide +kernel
theorem dL_tells_6 : decode cL_tells 6 = .ok (.irem, 1) := by decide +kernel
theorem dL_tells_7 : decode cL_tells 7 = .ok (.iadd, 1) := by decide +kernel
theorem dL_tells_8 : decode cL_tells 8 = .ok (.iastore, 1) := by decide +kernel
theorem dL_tells_9 : decode cL_tells 9 = .ok (.aload_n 0, 1) := by decide +kernel
theorem dL_tells_10 : decode cL_tells 10 = .ok (.bipush 10, 2) := by decide +kernel
theorem dL_tells_12 : decode cL_tells 12 = .ok (.iload_n 1, 1) := by decide +kernel
theorem dL_tells_13 : decode cL_tells 13 = .ok (.iadd, 1) := by decide +kernel
theorem dL_tells_14 : decode cL_tells 14 = .ok (.iload_n 2, 1) := by decide +kernel
theorem dL_tells_15 : decode cL_tells 15 = .ok (.bipush 30, 2) := by decide +kernel
theorem dL_tells_17 : decode cL_tells 17 = .ok (.idiv, 1) := by decide +kernel
theorem dL_tells_18 : decode cL_tells 18 = .ok (.iload_n 3, 1) := by decide +kernel
theorem dL_tells_19 : decode cL_tells 19 = .ok (.iconst 3, 1) := by decide +kernel
theorem dL_tells_20 : decode cL_tells 20 = .ok (.irem, 1) := by decide +kernel
theorem dL_tells_21 : decode cL_tells 21 = .ok (.ifCond .ne 9, 3) := by decide +kernel
theorem dL_tells_24 : decode cL_tells 24 = .ok (.sipush 301, 3) := by decide +kernel
theorem dL_tells_27 : decode cL_tells 27 = .ok (.goto 5, 3) := by decide +kernel
theorem dL_tells_30 : decode cL_tells 30 = .ok (.bipush 90, 2) := by decide +kernel
theorem dL_tells_32 : decode cL_tells 32 = .ok (.irem, 1) := by decide +kernel
theorem dL_tells_33 : decode cL_tells 33 = .ok (.iastore, 1) := by decide +kernel
theorem dL_tells_34 : decode cL_tells 34 = .ok (.aload_n 0, 1) := by decide +kernel
theorem dL_tells_35 : decode cL_tells 35 = .ok (.bipush 20, 2) := by decide +kernel
theorem dL_tells_37 : decode cL_tells 37 = .ok (.iload_n 1, 1) := by decide +kernel
theorem dL_tells_38 : decode cL_tells 38 = .ok (.iadd, 1) := by decide +kernel
theorem dL_tells_39 : decode cL_tells 39 = .ok (.iconst 1, 1) := by decide +kernel
theorem dL_tells_40 : decode cL_tells 40 = .ok (.iload_n 2, 1) := by decide +kernel
theorem dL_tells_41 : decode cL_tells 41 = .ok (.sipush 9030, 3) := by decide +kernel
theorem dL_tells_44 : decode cL_tells 44 = .ok (.idiv, 1) := by decide +kernel
theorem dL_tells_45 : decode cL_tells 45 = .ok (.bipush 20, 2) := by decide +kernel
theorem dL_tells_47 : decode cL_tells 47 = .ok (.irem, 1) := by decide +kernel
theorem dL_tells_48 : decode cL_tells 48 = .ok (.iadd, 1) := by decide +kernel
theorem dL_tells_49 : decode cL_tells 49 = .ok (.iastore, 1) := by decide +kernel
theorem dL_tells_50 : decode cL_tells 50 = .ok (.aload_n 0, 1) := by decide +kernel
theorem dL_tells_51 : decode cL_tells 51 = .ok (.bipush 30, 2) := by decide +kernel
theorem dL_tells_53 : decode cL_tells 53 = .ok (.iload_n 1, 1) := by decide +kernel
theorem dL_tells_54 : decode cL_tells 54 = .ok (.iadd, 1) := by decide +kernel
theorem dL_tells_55 : decode cL_tells 55 = .ok (.iload_n 3, 1) := by decide +kernel
theorem dL_tells_56 : decode cL_tells 56 = .ok (.iload_n 2, 1) := by decide +kernel
theorem dL_tells_57 : decode cL_tells 57 = .ok (.iconst 2, 1) := by decide +kernel
theorem dL_tells_58 : decode cL_tells 58 = .ok (.irem, 1) := by decide +kernel
theorem dL_tells_59 : decode cL_tells 59 = .ok (.ifCond .ne 8, 3) := by decide +kernel
theorem dL_tells_62 : decode cL_tells 62 = .ok (.bipush 101, 2) := by decide +kernel
theorem dL_tells_64 : decode cL_tells 64 = .ok (.goto 5, 3) := by decide +kernel
theorem dL_tells_67 : decode cL_tells 67 = .ok (.bipush 40, 2) := by decide +kernel
theorem dL_tells_69 : decode cL_tells 69 = .ok (.irem, 1) := by decide +kernel
theorem dL_tells_70 : decode cL_tells 70 = .ok (.iastore, 1) := by decide +kernel
theorem dL_tells_71 : decode cL_tells 71 = .ok (.aload_n 0, 1) := by decide +kernel
theorem dL_tells_72 : decode cL_tells 72 = .ok (.bipush 40, 2) := by decide +kernel
theorem dL_tells_74 : decode cL_tells 74 = .ok (.iload_n 1, 1) := by decide +kernel
theorem dL_tells_75 : decode cL_tells 75 = .ok (.iadd, 1) := by decide +kernel
theorem dL_tells_76 : decode cL_tells 76 = .ok (.iload_n 3, 1) := by decide +kernel
theorem dL_tells_77 : decode cL_tells 77 = .ok (.bipush 101, 2) := by decide +kernel
theorem dL_tells_79 : decode cL_tells 79 = .ok (.idiv, 1) := by decide +kernel
theorem dL_tells_80 : decode cL_tells 80 = .ok (.iconst 4, 1) := by decide +kernel
theorem dL_tells_81 : decode cL_tells 81 = .ok (.irem, 1) := by decide +kernel
theorem dL_tells_82 : decode cL_tells 82 = .ok (.iastore, 1) := by decide +kernel
theorem dL_tells_83 : decode cL_tells 83 = .ok (.return_, 1) := by decide +kernel
theorem dL_plans_0 : decode cL_plans 0 = .ok (.iload_n 1, 1) := by decide +kernel
theorem dL_plans_1 : decode cL_plans 1 = .ok (.tableswitch 69 0 5 #[39, 44, 49, 54, 59, 64], 39) := by decide +kernel
theorem dL_plans_40 : decode cL_plans 40 = .ok (.aload_n 0, 1) := by decide +kernel
theorem dL_plans_41 : decode cL_plans 41 = .ok (.invokevirtual 52, 3) := by decide +kernel
theorem dL_plans_44 : decode cL_plans 44 = .ok (.ireturn, 1) := by decide +kernel
theorem dL_plans_45 : decode cL_plans 45 = .ok (.aload_n 0, 1) := by decide +kernel
theorem dL_plans_46 : decode cL_plans 46 = .ok (.invokevirtual 55, 3) := by decide +kernel
theorem dL_plans_49 : decode cL_plans 49 = .ok (.ireturn, 1) := by decide +kernel
theorem dL_plans_50 : decode cL_plans 50 = .ok (.aload_n 0, 1) := by decide +kernel
theorem dL_plans_51 : decode cL_plans 51 = .ok (.invokevirtual 58, 3) := by decide +kernel
theorem dL_plans_54 : decode cL_plans 54 = .ok (.ireturn, 1) := by decide +kernel
theorem dL_plans_55 : decode cL_plans 55 = .ok (.aload_n 0, 1) := by decide +kernel
theorem dL_plans_56 : decode cL_plans 56 = .ok (.invokevirtual 61, 3) := by decide +kernel
theorem dL_plans_59 : decode cL_plans 59 = .ok (.ireturn, 1) := by decide +kernel
theorem dL_plans_60 : decode cL_plans 60 = .ok (.aload_n 0, 1) := by decide +kernel
theorem dL_plans_61 : decode cL_plans 61 = .ok (.invokevirtual 64, 3) := by decide +kernel
theorem dL_plans_64 : decode cL_plans 64 = .ok (.ireturn, 1) := by decide +kernel
theorem dL_plans_65 : decode cL_plans 65 = .ok (.aload_n 0, 1) := by decide +kernel
theorem dL_plans_66 : decode cL_plans 66 = .ok (.invokevirtual 67, 3) := by decide +kernel
theorem dL_plans_69 : decode cL_plans 69 = .ok (.ireturn, 1) := by decide +kernel
theorem dL_plans_70 : decode cL_plans 70 = .ok (.aload_n 0, 1) := by decide +kernel
theorem dL_plans_71 : decode cL_plans 71 = .ok (.invokevirtual 70, 3) := by decide +kernel
theorem dL_plans_74 : decode cL_plans 74 = .ok (.ireturn, 1) := by decide +kernel
theorem dL_told_0 : decode cL_told 0 = .ok (.iload_n 1, 1) := by decide +kernel
theorem dL_told_1 : decode cL_told 1 = .ok (.iconst 1, 1) := by decide +kernel
theorem dL_told_2 : decode cL_told 2 = .ok (.if_icmp .ne 10, 3) := by decide +kernel
theorem dL_told_5 : decode cL_told 5 = .ok (.aload_n 0, 1) := by decide +kernel
theorem dL_told_6 : decode cL_told 6 = .ok (.invokevirtual 73, 3) := by decide +kernel
theorem dL_told_9 : decode cL_told 9 = .ok (.goto 44, 3) := by decide +kernel
theorem dL_told_12 : decode cL_told 12 = .ok (.iload_n 1, 1) := by decide +kernel
theorem dL_told_13 : decode cL_told 13 = .ok (.iconst 2, 1) := by decide +kernel
theorem dL_told_14 : decode cL_told 14 = .ok (.if_icmp .ne 10, 3) := by decide +kernel
theorem dL_told_17 : decode cL_told 17 = .ok (.aload_n 0, 1) := by decide +kernel
theorem dL_told_18 : decode cL_told 18 = .ok (.invokevirtual 76, 3) := by decide +kernel
theorem dL_told_21 : decode cL_told 21 = .ok (.goto 32, 3) := by decide +kernel
theorem dL_told_24 : decode cL_told 24 = .ok (.iload_n 1, 1) := by decide +kernel
theorem dL_told_25 : decode cL_told 25 = .ok (.iconst 3, 1) := by decide +kernel
theorem dL_told_26 : decode cL_told 26 = .ok (.if_icmp .ne 10, 3) := by decide +kernel
theorem dL_told_29 : decode cL_told 29 = .ok (.aload_n 0, 1) := by decide +kernel
theorem dL_told_30 : decode cL_told 30 = .ok (.invokevirtual 79, 3) := by decide +kernel
theorem dL_told_33 : decode cL_told 33 = .ok (.goto 20, 3) := by decide +kernel
theorem dL_told_36 : decode cL_told 36 = .ok (.iload_n 1, 1) := by decide +kernel
theorem dL_told_37 : decode cL_told 37 = .ok (.bipush 6, 2) := by decide +kernel
theorem dL_told_39 : decode cL_told 39 = .ok (.if_icmp .ne 10, 3) := by decide +kernel
theorem dL_told_42 : decode cL_told 42 = .ok (.aload_n 0, 1) := by decide +kernel
theorem dL_told_43 : decode cL_told 43 = .ok (.invokevirtual 82, 3) := by decide +kernel
theorem dL_told_46 : decode cL_told 46 = .ok (.goto 7, 3) := by decide +kernel
theorem dL_told_49 : decode cL_told 49 = .ok (.aload_n 0, 1) := by decide +kernel
theorem dL_told_50 : decode cL_told 50 = .ok (.invokevirtual 85, 3) := by decide +kernel
theorem dL_told_53 : decode cL_told 53 = .ok (.ireturn, 1) := by decide +kernel
theorem dL_isBest_0 : decode cL_isBest 0 = .ok (.aload_n 0, 1) := by decide +kernel
theorem dL_isBest_1 : decode cL_isBest 1 = .ok (.invokevirtual 22, 3) := by decide +kernel
theorem dL_isBest_4 : decode cL_isBest 4 = .ok (.bipush 7, 2) := by decide +kernel
theorem dL_isBest_6 : decode cL_isBest 6 = .ok (.if_icmp .gt 7, 3) := by decide +kernel
theorem dL_isBest_9 : decode cL_isBest 9 = .ok (.iconst 1, 1) := by decide +kernel
theorem dL_isBest_10 : decode cL_isBest 10 = .ok (.goto 4, 3) := by decide +kernel
theorem dL_isBest_13 : decode cL_isBest 13 = .ok (.iconst 0, 1) := by decide +kernel
theorem dL_isBest_14 : decode cL_isBest 14 = .ok (.istore_n 3, 1) := by decide +kernel
theorem dL_isBest_15 : decode cL_isBest 15 = .ok (.iload_n 1, 1) := by decide +kernel
theorem dL_isBest_16 : decode cL_isBest 16 = .ok (.tableswitch 162 0 5 #[40, 67, 81, 99, 117, 135], 40) := by decide +kernel
theorem dL_isBest_56 : decode cL_isBest 56 = .ok (.iload_n 2, 1) := by decide +kernel
theorem dL_isBest_57 : decode cL_isBest 57 = .ok (.aload_n 0, 1) := by decide +kernel
theorem dL_isBest_58 : decode cL_isBest 58 = .ok (.iconst 0, 1) := by decide +kernel
theorem dL_isBest_59 : decode cL_isBest 59 = .ok (.invokevirtual 88, 3) := by decide +kernel
theorem dL_isBest_62 : decode cL_isBest 62 = .ok (.if_icmp .ne 19, 3) := by decide +kernel
theorem dL_isBest_65 : decode cL_isBest 65 = .ok (.iload_n 3, 1) := by decide +kernel
theorem dL_isBest_66 : decode cL_isBest 66 = .ok (.ifCond .eq 11, 3) := by decide +kernel
theorem dL_isBest_69 : decode cL_isBest 69 = .ok (.iload_n 2, 1) := by decide +kernel
theorem dL_isBest_70 : decode cL_isBest 70 = .ok (.aload_n 0, 1) := by decide +kernel
theorem dL_isBest_71 : decode cL_isBest 71 = .ok (.invokevirtual 92, 3) := by decide +kernel
theorem dL_isBest_74 : decode cL_isBest 74 = .ok (.if_icmp .ne 7, 3) := by decide +kernel
theorem dL_isBest_77 : decode cL_isBest 77 = .ok (.iconst 1, 1) := by decide +kernel
theorem dL_isBest_78 : decode cL_isBest 78 = .ok (.goto 4, 3) := by decide +kernel
theorem dL_isBest_81 : decode cL_isBest 81 = .ok (.iconst 0, 1) := by decide +kernel
theorem dL_isBest_82 : decode cL_isBest 82 = .ok (.ireturn, 1) := by decide +kernel
theorem dL_isBest_83 : decode cL_isBest 83 = .ok (.iload_n 2, 1) := by decide +kernel
theorem dL_isBest_84 : decode cL_isBest 84 = .ok (.aload_n 0, 1) := by decide +kernel
theorem dL_isBest_85 : decode cL_isBest 85 = .ok (.invokevirtual 37, 3) := by decide +kernel
theorem dL_isBest_88 : decode cL_isBest 88 = .ok (.if_icmp .ne 7, 3) := by decide +kernel
theorem dL_isBest_91 : decode cL_isBest 91 = .ok (.iconst 1, 1) := by decide +kernel
theorem dL_isBest_92 : decode cL_isBest 92 = .ok (.goto 4, 3) := by decide +kernel
theorem dL_isBest_95 : decode cL_isBest 95 = .ok (.iconst 0, 1) := by decide +kernel
theorem dL_isBest_96 : decode cL_isBest 96 = .ok (.ireturn, 1) := by decide +kernel
theorem dL_isBest_97 : decode cL_isBest 97 = .ok (.iload_n 3, 1) := by decide +kernel
theorem dL_isBest_98 : decode cL_isBest 98 = .ok (.ifCond .eq 11, 3) := by decide +kernel
theorem dL_isBest_101 : decode cL_isBest 101 = .ok (.iload_n 2, 1) := by decide +kernel
theorem dL_isBest_102 : decode cL_isBest 102 = .ok (.aload_n 0, 1) := by decide +kernel
theorem dL_isBest_103 : decode cL_isBest 103 = .ok (.invokevirtual 95, 3) := by decide +kernel
theorem dL_isBest_106 : decode cL_isBest 106 = .ok (.if_icmp .ne 7, 3) := by decide +kernel
theorem dL_isBest_109 : decode cL_isBest 109 = .ok (.iconst 1, 1) := by decide +kernel
theorem dL_isBest_110 : decode cL_isBest 110 = .ok (.goto 4, 3) := by decide +kernel
theorem dL_isBest_113 : decode cL_isBest 113 = .ok (.iconst 0, 1) := by decide +kernel
theorem dL_isBest_114 : decode cL_isBest 114 = .ok (.ireturn, 1) := by decide +kernel
theorem dL_isBest_115 : decode cL_isBest 115 = .ok (.iload_n 3, 1) := by decide +kernel
theorem dL_isBest_116 : decode cL_isBest 116 = .ok (.ifCond .eq 11, 3) := by decide +kernel
theorem dL_isBest_119 : decode cL_isBest 119 = .ok (.iload_n 2, 1) := by decide +kernel
theorem dL_isBest_120 : decode cL_isBest 120 = .ok (.aload_n 0, 1) := by decide +kernel
theorem dL_isBest_121 : decode cL_isBest 121 = .ok (.invokevirtual 98, 3) := by decide +kernel
theorem dL_isBest_124 : decode cL_isBest 124 = .ok (.if_icmp .ne 7, 3) := by decide +kernel
theorem dL_isBest_127 : decode cL_isBest 127 = .ok (.iconst 1, 1) := by decide +kernel
theorem dL_isBest_128 : decode cL_isBest 128 = .ok (.goto 4, 3) := by decide +kernel
theorem dL_isBest_131 : decode cL_isBest 131 = .ok (.iconst 0, 1) := by decide +kernel
theorem dL_isBest_132 : decode cL_isBest 132 = .ok (.ireturn, 1) := by decide +kernel
theorem dL_isBest_133 : decode cL_isBest 133 = .ok (.iload_n 3, 1) := by decide +kernel
theorem dL_isBest_134 : decode cL_isBest 134 = .ok (.ifCond .eq 11, 3) := by decide +kernel
theorem dL_isBest_137 : decode cL_isBest 137 = .ok (.iload_n 2, 1) := by decide +kernel
theorem dL_isBest_138 : decode cL_isBest 138 = .ok (.aload_n 0, 1) := by decide +kernel
theorem dL_isBest_139 : decode cL_isBest 139 = .ok (.invokevirtual 101, 3) := by decide +kernel
theorem dL_isBest_142 : decode cL_isBest 142 = .ok (.if_icmp .ne 7, 3) := by decide +kernel
theorem dL_isBest_145 : decode cL_isBest 145 = .ok (.iconst 1, 1) := by decide +kernel
theorem dL_isBest_146 : decode cL_isBest 146 = .ok (.goto 4, 3) := by decide +kernel
theorem dL_isBest_149 : decode cL_isBest 149 = .ok (.iconst 0, 1) := by decide +kernel
theorem dL_isBest_150 : decode cL_isBest 150 = .ok (.ireturn, 1) := by decide +kernel
theorem dL_isBest_151 : decode cL_isBest 151 = .ok (.iload_n 2, 1) := by decide +kernel
theorem dL_isBest_152 : decode cL_isBest 152 = .ok (.aload_n 0, 1) := by decide +kernel
theorem dL_isBest_153 : decode cL_isBest 153 = .ok (.iconst 1, 1) := by decide +kernel
theorem dL_isBest_154 : decode cL_isBest 154 = .ok (.invokevirtual 88, 3) := by decide +kernel
theorem dL_isBest_157 : decode cL_isBest 157 = .ok (.if_icmp .ne 19, 3) := by decide +kernel
theorem dL_isBest_160 : decode cL_isBest 160 = .ok (.iload_n 3, 1) := by decide +kernel
theorem dL_isBest_161 : decode cL_isBest 161 = .ok (.ifCond .eq 11, 3) := by decide +kernel
theorem dL_isBest_164 : decode cL_isBest 164 = .ok (.iload_n 2, 1) := by decide +kernel
theorem dL_isBest_165 : decode cL_isBest 165 = .ok (.aload_n 0, 1) := by decide +kernel
theorem dL_isBest_166 : decode cL_isBest 166 = .ok (.invokevirtual 104, 3) := by decide +kernel
theorem dL_isBest_169 : decode cL_isBest 169 = .ok (.if_icmp .ne 7, 3) := by decide +kernel
theorem dL_isBest_172 : decode cL_isBest 172 = .ok (.iconst 1, 1) := by decide +kernel
theorem dL_isBest_173 : decode cL_isBest 173 = .ok (.goto 4, 3) := by decide +kernel
theorem dL_isBest_176 : decode cL_isBest 176 = .ok (.iconst 0, 1) := by decide +kernel
theorem dL_isBest_177 : decode cL_isBest 177 = .ok (.ireturn, 1) := by decide +kernel
theorem dL_isBest_178 : decode cL_isBest 178 = .ok (.iload_n 3, 1) := by decide +kernel
theorem dL_isBest_179 : decode cL_isBest 179 = .ok (.ifCond .eq 11, 3) := by decide +kernel
theorem dL_isBest_182 : decode cL_isBest 182 = .ok (.iload_n 2, 1) := by decide +kernel
theorem dL_isBest_183 : decode cL_isBest 183 = .ok (.aload_n 0, 1) := by decide +kernel
theorem dL_isBest_184 : decode cL_isBest 184 = .ok (.invokevirtual 107, 3) := by decide +kernel
theorem dL_isBest_187 : decode cL_isBest 187 = .ok (.if_icmp .ne 7, 3) := by decide +kernel
theorem dL_isBest_190 : decode cL_isBest 190 = .ok (.iconst 1, 1) := by decide +kernel
theorem dL_isBest_191 : decode cL_isBest 191 = .ok (.goto 4, 3) := by decide +kernel
theorem dL_isBest_194 : decode cL_isBest 194 = .ok (.iconst 0, 1) := by decide +kernel
theorem dL_isBest_195 : decode cL_isBest 195 = .ok (.ireturn, 1) := by decide +kernel
theorem dL_isPlan_0 : decode cL_isPlan 0 = .ok (.aload_n 0, 1) := by decide +kernel
theorem dL_isPlan_1 : decode cL_isPlan 1 = .ok (.invokevirtual 26, 3) := by decide +kernel
theorem dL_isPlan_4 : decode cL_isPlan 4 = .ok (.ifCond .eq 18, 3) := by decide +kernel
theorem dL_isPlan_7 : decode cL_isPlan 7 = .ok (.aload_n 0, 1) := by decide +kernel
theorem dL_isPlan_8 : decode cL_isPlan 8 = .ok (.invokevirtual 34, 3) := by decide +kernel
theorem dL_isPlan_11 : decode cL_isPlan 11 = .ok (.aload_n 1, 1) := by decide +kernel
theorem dL_isPlan_12 : decode cL_isPlan 12 = .ok (.bipush 54, 2) := by decide +kernel
theorem dL_isPlan_14 : decode cL_isPlan 14 = .ok (.iaload, 1) := by decide +kernel
theorem dL_isPlan_15 : decode cL_isPlan 15 = .ok (.if_icmp .lt 7, 3) := by decide +kernel
theorem dL_isPlan_18 : decode cL_isPlan 18 = .ok (.iconst 1, 1) := by decide +kernel
theorem dL_isPlan_19 : decode cL_isPlan 19 = .ok (.goto 4, 3) := by decide +kernel
theorem dL_isPlan_22 : decode cL_isPlan 22 = .ok (.iconst 0, 1) := by decide +kernel
theorem dL_isPlan_23 : decode cL_isPlan 23 = .ok (.istore_n 3, 1) := by decide +kernel
theorem dL_isPlan_24 : decode cL_isPlan 24 = .ok (.iconst (-1), 1) := by decide +kernel
theorem dL_isPlan_25 : decode cL_isPlan 25 = .ok (.istore 4, 2) := by decide +kernel
theorem dL_isPlan_27 : decode cL_isPlan 27 = .ok (.iconst 0, 1) := by decide +kernel
theorem dL_isPlan_28 : decode cL_isPlan 28 = .ok (.istore 5, 2) := by decide +kernel
theorem dL_isPlan_30 : decode cL_isPlan 30 = .ok (.iload 5, 2) := by decide +kernel
theorem dL_isPlan_32 : decode cL_isPlan 32 = .ok (.aload_n 0, 1) := by decide +kernel
theorem dL_isPlan_33 : decode cL_isPlan 33 = .ok (.invokevirtual 34, 3) := by decide +kernel
theorem dL_isPlan_36 : decode cL_isPlan 36 = .ok (.if_icmp .ge 303, 3) := by decide +kernel
theorem dL_isPlan_39 : decode cL_isPlan 39 = .ok (.iload_n 3, 1) := by decide +kernel
theorem dL_isPlan_40 : decode cL_isPlan 40 = .ok (.ifCond .eq 299, 3) := by decide +kernel
theorem dL_isPlan_43 : decode cL_isPlan 43 = .ok (.aload_n 0, 1) := by decide +kernel
theorem dL_isPlan_44 : decode cL_isPlan 44 = .ok (.iload 5, 2) := by decide +kernel
theorem dL_isPlan_46 : decode cL_isPlan 46 = .ok (.invokevirtual 110, 3) := by decide +kernel
theorem dL_isPlan_49 : decode cL_isPlan 49 = .ok (.istore 6, 2) := by decide +kernel
theorem dL_isPlan_51 : decode cL_isPlan 51 = .ok (.aload_n 0, 1) := by decide +kernel
theorem dL_isPlan_52 : decode cL_isPlan 52 = .ok (.iload 5, 2) := by decide +kernel
theorem dL_isPlan_54 : decode cL_isPlan 54 = .ok (.invokevirtual 113, 3) := by decide +kernel
theorem dL_isPlan_57 : decode cL_isPlan 57 = .ok (.istore 7, 2) := by decide +kernel
theorem dL_isPlan_59 : decode cL_isPlan 59 = .ok (.aload_n 0, 1) := by decide +kernel
theorem dL_isPlan_60 : decode cL_isPlan 60 = .ok (.iload 5, 2) := by decide +kernel
theorem dL_isPlan_62 : decode cL_isPlan 62 = .ok (.invokevirtual 116, 3) := by decide +kernel
theorem dL_isPlan_65 : decode cL_isPlan 65 = .ok (.iload 5, 2) := by decide +kernel
theorem dL_isPlan_67 : decode cL_isPlan 67 = .ok (.ifCond .ne 7, 3) := by decide +kernel
theorem dL_isPlan_70 : decode cL_isPlan 70 = .ok (.iconst 0, 1) := by decide +kernel
theorem dL_isPlan_71 : decode cL_isPlan 71 = .ok (.goto 11, 3) := by decide +kernel
theorem dL_isPlan_74 : decode cL_isPlan 74 = .ok (.aload_n 0, 1) := by decide +kernel
theorem dL_isPlan_75 : decode cL_isPlan 75 = .ok (.iload 5, 2) := by decide +kernel
theorem dL_isPlan_77 : decode cL_isPlan 77 = .ok (.iconst 1, 1) := by decide +kernel
theorem dL_isPlan_78 : decode cL_isPlan 78 = .ok (.isub, 1) := by decide +kernel
theorem dL_isPlan_79 : decode cL_isPlan 79 = .ok (.invokevirtual 119, 3) := by decide +kernel
theorem dL_isPlan_82 : decode cL_isPlan 82 = .ok (.if_icmp .ne 69, 3) := by decide +kernel
theorem dL_isPlan_85 : decode cL_isPlan 85 = .ok (.aload_n 0, 1) := by decide +kernel
theorem dL_isPlan_86 : decode cL_isPlan 86 = .ok (.iload 5, 2) := by decide +kernel
theorem dL_isPlan_88 : decode cL_isPlan 88 = .ok (.invokevirtual 119, 3) := by decide +kernel
theorem dL_isPlan_91 : decode cL_isPlan 91 = .ok (.aload_n 0, 1) := by decide +kernel
theorem dL_isPlan_92 : decode cL_isPlan 92 = .ok (.iload 5, 2) := by decide +kernel
theorem dL_isPlan_94 : decode cL_isPlan 94 = .ok (.invokevirtual 116, 3) := by decide +kernel
theorem dL_isPlan_97 : decode cL_isPlan 97 = .ok (.if_icmp .le 54, 3) := by decide +kernel
theorem dL_isPlan_100 : decode cL_isPlan 100 = .ok (.iload 6, 2) := by decide +kernel
theorem dL_isPlan_102 : decode cL_isPlan 102 = .ok (.ifCond .ne 20, 3) := by decide +kernel
theorem dL_isPlan_105 : decode cL_isPlan 105 = .ok (.iload 7, 2) := by decide +kernel
theorem dL_isPlan_107 : decode cL_isPlan 107 = .ok (.ifCond .lt 44, 3) := by decide +kernel
theorem dL_isPlan_110 : decode cL_isPlan 110 = .ok (.iload 7, 2) := by decide +kernel
theorem dL_isPlan_112 : decode cL_isPlan 112 = .ok (.aload_n 1, 1) := by decide +kernel
theorem dL_isPlan_113 : decode cL_isPlan 113 = .ok (.bipush 54, 2) := by decide +kernel
theorem dL_isPlan_115 : decode cL_isPlan 115 = .ok (.iaload, 1) := by decide +kernel
theorem dL_isPlan_116 : decode cL_isPlan 116 = .ok (.if_icmp .ge 35, 3) := by decide +kernel
theorem dL_isPlan_119 : decode cL_isPlan 119 = .ok (.goto 28, 3) := by decide +kernel
theorem dL_isPlan_122 : decode cL_isPlan 122 = .ok (.iload 6, 2) := by decide +kernel
theorem dL_isPlan_124 : decode cL_isPlan 124 = .ok (.iconst 1, 1) := by decide +kernel
theorem dL_isPlan_125 : decode cL_isPlan 125 = .ok (.if_icmp .ne 11, 3) := by decide +kernel
theorem dL_isPlan_128 : decode cL_isPlan 128 = .ok (.iload_n 2, 1) := by decide +kernel
theorem dL_isPlan_129 : decode cL_isPlan 129 = .ok (.iconst 4, 1) := by decide +kernel
theorem dL_isPlan_130 : decode cL_isPlan 130 = .ok (.if_icmp .ne 21, 3) := by decide +kernel
theorem dL_isPlan_133 : decode cL_isPlan 133 = .ok (.goto 14, 3) := by decide +kernel
theorem dL_isPlan_136 : decode cL_isPlan 136 = .ok (.iload_n 2, 1) := by decide +kernel
theorem dL_isPlan_137 : decode cL_isPlan 137 = .ok (.iconst 4, 1) := by decide +kernel
theorem dL_isPlan_138 : decode cL_isPlan 138 = .ok (.if_icmp .le 13, 3) := by decide +kernel
theorem dL_isPlan_141 : decode cL_isPlan 141 = .ok (.iload 7, 2) := by decide +kernel
theorem dL_isPlan_143 : decode cL_isPlan 143 = .ok (.iconst (-1), 1) := by decide +kernel
theorem dL_isPlan_144 : decode cL_isPlan 144 = .ok (.if_icmp .ne 7, 3) := by decide +kernel
theorem dL_isPlan_147 : decode cL_isPlan 147 = .ok (.iconst 1, 1) := by decide +kernel
theorem dL_isPlan_148 : decode cL_isPlan 148 = .ok (.goto 4, 3) := by decide +kernel
theorem dL_isPlan_151 : decode cL_isPlan 151 = .ok (.iconst 0, 1) := by decide +kernel
theorem dL_isPlan_152 : decode cL_isPlan 152 = .ok (.istore_n 3, 1) := by decide +kernel
theorem dL_isPlan_153 : decode cL_isPlan 153 = .ok (.iload_n 3, 1) := by decide +kernel
theorem dL_isPlan_154 : decode cL_isPlan 154 = .ok (.ifCond .eq 85, 3) := by decide +kernel
theorem dL_isPlan_157 : decode cL_isPlan 157 = .ok (.iload 6, 2) := by decide +kernel
theorem dL_isPlan_159 : decode cL_isPlan 159 = .ok (.iconst 1, 1) := by decide +kernel
theorem dL_isPlan_160 : decode cL_isPlan 160 = .ok (.if_icmp .ne 79, 3) := by decide +kernel
theorem dL_isPlan_163 : decode cL_isPlan 163 = .ok (.aload_n 0, 1) := by decide +kernel
theorem dL_isPlan_164 : decode cL_isPlan 164 = .ok (.iload 5, 2) := by decide +kernel
theorem dL_isPlan_166 : decode cL_isPlan 166 = .ok (.invokevirtual 119, 3) := by decide +kernel
theorem dL_isPlan_169 : decode cL_isPlan 169 = .ok (.aload_n 0, 1) := by decide +kernel
theorem dL_isPlan_170 : decode cL_isPlan 170 = .ok (.iload 5, 2) := by decide +kernel
theorem dL_isPlan_172 : decode cL_isPlan 172 = .ok (.invokevirtual 116, 3) := by decide +kernel
theorem dL_isPlan_175 : decode cL_isPlan 175 = .ok (.isub, 1) := by decide +kernel
theorem dL_isPlan_176 : decode cL_isPlan 176 = .ok (.aload_n 1, 1) := by decide +kernel
theorem dL_isPlan_177 : decode cL_isPlan 177 = .ok (.bipush 50, 2) := by decide +kernel
theorem dL_isPlan_179 : decode cL_isPlan 179 = .ok (.iload 7, 2) := by decide +kernel
theorem dL_isPlan_181 : decode cL_isPlan 181 = .ok (.iadd, 1) := by decide +kernel
theorem dL_isPlan_182 : decode cL_isPlan 182 = .ok (.iaload, 1) := by decide +kernel
theorem dL_isPlan_183 : decode cL_isPlan 183 = .ok (.if_icmp .ne 54, 3) := by decide +kernel
theorem dL_isPlan_186 : decode cL_isPlan 186 = .ok (.iload 7, 2) := by decide +kernel
theorem dL_isPlan_188 : decode cL_isPlan 188 = .ok (.iload 4, 2) := by decide +kernel
theorem dL_isPlan_190 : decode cL_isPlan 190 = .ok (.if_icmp .eq 47, 3) := by decide +kernel
theorem dL_isPlan_193 : decode cL_isPlan 193 = .ok (.iload 5, 2) := by decide +kernel
theorem dL_isPlan_195 : decode cL_isPlan 195 = .ok (.iconst 1, 1) := by decide +kernel
theorem dL_isPlan_196 : decode cL_isPlan 196 = .ok (.iadd, 1) := by decide +kernel
theorem dL_isPlan_197 : decode cL_isPlan 197 = .ok (.aload_n 0, 1) := by decide +kernel
theorem dL_isPlan_198 : decode cL_isPlan 198 = .ok (.invokevirtual 34, 3) := by decide +kernel
theorem dL_isPlan_201 : decode cL_isPlan 201 = .ok (.if_icmp .ge 36, 3) := by decide +kernel
theorem dL_isPlan_204 : decode cL_isPlan 204 = .ok (.aload_n 0, 1) := by decide +kernel
theorem dL_isPlan_205 : decode cL_isPlan 205 = .ok (.iload 5, 2) := by decide +kernel
theorem dL_isPlan_207 : decode cL_isPlan 207 = .ok (.iconst 1, 1) := by decide +kernel
theorem dL_isPlan_208 : decode cL_isPlan 208 = .ok (.iadd, 1) := by decide +kernel
theorem dL_isPlan_209 : decode cL_isPlan 209 = .ok (.invokevirtual 110, 3) := by decide +kernel
theorem dL_isPlan_212 : decode cL_isPlan 212 = .ok (.ifCond .ne 25, 3) := by decide +kernel
theorem dL_isPlan_215 : decode cL_isPlan 215 = .ok (.aload_n 1, 1) := by decide +kernel
theorem dL_isPlan_216 : decode cL_isPlan 216 = .ok (.bipush 40, 2) := by decide +kernel
theorem dL_isPlan_218 : decode cL_isPlan 218 = .ok (.aload_n 0, 1) := by decide +kernel
theorem dL_isPlan_219 : decode cL_isPlan 219 = .ok (.iload 5, 2) := by decide +kernel
theorem dL_isPlan_221 : decode cL_isPlan 221 = .ok (.iconst 1, 1) := by decide +kernel
theorem dL_isPlan_222 : decode cL_isPlan 222 = .ok (.iadd, 1) := by decide +kernel
theorem dL_isPlan_223 : decode cL_isPlan 223 = .ok (.invokevirtual 113, 3) := by decide +kernel
theorem dL_isPlan_226 : decode cL_isPlan 226 = .ok (.iadd, 1) := by decide +kernel
theorem dL_isPlan_227 : decode cL_isPlan 227 = .ok (.iaload, 1) := by decide +kernel
theorem dL_isPlan_228 : decode cL_isPlan 228 = .ok (.iload 7, 2) := by decide +kernel
theorem dL_isPlan_230 : decode cL_isPlan 230 = .ok (.if_icmp .ne 7, 3) := by decide +kernel
theorem dL_isPlan_233 : decode cL_isPlan 233 = .ok (.iconst 1, 1) := by decide +kernel
theorem dL_isPlan_234 : decode cL_isPlan 234 = .ok (.goto 4, 3) := by decide +kernel
theorem dL_isPlan_237 : decode cL_isPlan 237 = .ok (.iconst 0, 1) := by decide +kernel
theorem dL_isPlan_238 : decode cL_isPlan 238 = .ok (.istore_n 3, 1) := by decide +kernel
theorem dL_isPlan_239 : decode cL_isPlan 239 = .ok (.iload_n 3, 1) := by decide +kernel
theorem dL_isPlan_240 : decode cL_isPlan 240 = .ok (.ifCond .eq 93, 3) := by decide +kernel
theorem dL_isPlan_243 : decode cL_isPlan 243 = .ok (.iload 6, 2) := by decide +kernel
theorem dL_isPlan_245 : decode cL_isPlan 245 = .ok (.ifCond .ne 88, 3) := by decide +kernel
theorem dL_isPlan_248 : decode cL_isPlan 248 = .ok (.iload_n 2, 1) := by decide +kernel
theorem dL_isPlan_249 : decode cL_isPlan 249 = .ok (.iconst 5, 1) := by decide +kernel
theorem dL_isPlan_250 : decode cL_isPlan 250 = .ok (.if_icmp .lt 19, 3) := by decide +kernel
theorem dL_isPlan_253 : decode cL_isPlan 253 = .ok (.aload_n 0, 1) := by decide +kernel
theorem dL_isPlan_254 : decode cL_isPlan 254 = .ok (.iload 5, 2) := by decide +kernel
theorem dL_isPlan_256 : decode cL_isPlan 256 = .ok (.invokevirtual 116, 3) := by decide +kernel
theorem dL_isPlan_259 : decode cL_isPlan 259 = .ok (.aload_n 1, 1) := by decide +kernel
theorem dL_isPlan_260 : decode cL_isPlan 260 = .ok (.bipush 30, 2) := by decide +kernel
theorem dL_isPlan_262 : decode cL_isPlan 262 = .ok (.iload 7, 2) := by decide +kernel
theorem dL_isPlan_264 : decode cL_isPlan 264 = .ok (.iadd, 1) := by decide +kernel
theorem dL_isPlan_265 : decode cL_isPlan 265 = .ok (.iaload, 1) := by decide +kernel
theorem dL_isPlan_266 : decode cL_isPlan 266 = .ok (.if_icmp .lt 56, 3) := by decide +kernel
theorem dL_isPlan_269 : decode cL_isPlan 269 = .ok (.iload_n 2, 1) := by decide +kernel
theorem dL_isPlan_270 : decode cL_isPlan 270 = .ok (.iconst 4, 1) := by decide +kernel
theorem dL_isPlan_271 : decode cL_isPlan 271 = .ok (.if_icmp .ne 47, 3) := by decide +kernel
theorem dL_isPlan_274 : decode cL_isPlan 274 = .ok (.aload_n 1, 1) := by decide +kernel
theorem dL_isPlan_275 : decode cL_isPlan 275 = .ok (.bipush 40, 2) := by decide +kernel
theorem dL_isPlan_277 : decode cL_isPlan 277 = .ok (.iload 7, 2) := by decide +kernel
theorem dL_isPlan_279 : decode cL_isPlan 279 = .ok (.iadd, 1) := by decide +kernel
theorem dL_isPlan_280 : decode cL_isPlan 280 = .ok (.iaload, 1) := by decide +kernel
theorem dL_isPlan_281 : decode cL_isPlan 281 = .ok (.iload 4, 2) := by decide +kernel
theorem dL_isPlan_283 : decode cL_isPlan 283 = .ok (.if_icmp .eq 35, 3) := by decide +kernel
theorem dL_isPlan_286 : decode cL_isPlan 286 = .ok (.aload_n 1, 1) := by decide +kernel
theorem dL_isPlan_287 : decode cL_isPlan 287 = .ok (.bipush 50, 2) := by decide +kernel
theorem dL_isPlan_289 : decode cL_isPlan 289 = .ok (.aload_n 1, 1) := by decide +kernel
theorem dL_isPlan_290 : decode cL_isPlan 290 = .ok (.bipush 40, 2) := by decide +kernel
theorem dL_isPlan_292 : decode cL_isPlan 292 = .ok (.iload 7, 2) := by decide +kernel
theorem dL_isPlan_294 : decode cL_isPlan 294 = .ok (.iadd, 1) := by decide +kernel
theorem dL_isPlan_295 : decode cL_isPlan 295 = .ok (.iaload, 1) := by decide +kernel
theorem dL_isPlan_296 : decode cL_isPlan 296 = .ok (.iadd, 1) := by decide +kernel
theorem dL_isPlan_297 : decode cL_isPlan 297 = .ok (.iaload, 1) := by decide +kernel
theorem dL_isPlan_298 : decode cL_isPlan 298 = .ok (.ifCond .eq 20, 3) := by decide +kernel
theorem dL_isPlan_301 : decode cL_isPlan 301 = .ok (.iload 5, 2) := by decide +kernel
theorem dL_isPlan_303 : decode cL_isPlan 303 = .ok (.ifCond .le 19, 3) := by decide +kernel
theorem dL_isPlan_306 : decode cL_isPlan 306 = .ok (.aload_n 0, 1) := by decide +kernel
theorem dL_isPlan_307 : decode cL_isPlan 307 = .ok (.iload 5, 2) := by decide +kernel
theorem dL_isPlan_309 : decode cL_isPlan 309 = .ok (.iconst 1, 1) := by decide +kernel
theorem dL_isPlan_310 : decode cL_isPlan 310 = .ok (.isub, 1) := by decide +kernel
theorem dL_isPlan_311 : decode cL_isPlan 311 = .ok (.invokevirtual 110, 3) := by decide +kernel
theorem dL_isPlan_314 : decode cL_isPlan 314 = .ok (.iconst 1, 1) := by decide +kernel
theorem dL_isPlan_315 : decode cL_isPlan 315 = .ok (.if_icmp .ne 7, 3) := by decide +kernel
theorem dL_isPlan_318 : decode cL_isPlan 318 = .ok (.iconst 1, 1) := by decide +kernel
theorem dL_isPlan_319 : decode cL_isPlan 319 = .ok (.goto 4, 3) := by decide +kernel
theorem dL_isPlan_322 : decode cL_isPlan 322 = .ok (.iconst 0, 1) := by decide +kernel
theorem dL_isPlan_323 : decode cL_isPlan 323 = .ok (.istore_n 3, 1) := by decide +kernel
theorem dL_isPlan_324 : decode cL_isPlan 324 = .ok (.aload_n 1, 1) := by decide +kernel
theorem dL_isPlan_325 : decode cL_isPlan 325 = .ok (.bipush 40, 2) := by decide +kernel
theorem dL_isPlan_327 : decode cL_isPlan 327 = .ok (.iload 7, 2) := by decide +kernel
theorem dL_isPlan_329 : decode cL_isPlan 329 = .ok (.iadd, 1) := by decide +kernel
theorem dL_isPlan_330 : decode cL_isPlan 330 = .ok (.iaload, 1) := by decide +kernel
theorem dL_isPlan_331 : decode cL_isPlan 331 = .ok (.istore 4, 2) := by decide +kernel
theorem dL_isPlan_333 : decode cL_isPlan 333 = .ok (.iinc 5 1, 3) := by decide +kernel
theorem dL_isPlan_336 : decode cL_isPlan 336 = .ok (.goto (-306), 3) := by decide +kernel
theorem dL_isPlan_339 : decode cL_isPlan 339 = .ok (.iload_n 3, 1) := by decide +kernel
theorem dL_isPlan_340 : decode cL_isPlan 340 = .ok (.ireturn, 1) := by decide +kernel
theorem dL_areJobs_0 : decode cL_areJobs 0 = .ok (.sipush (-1000), 3) := by decide +kernel
theorem dL_areJobs_3 : decode cL_areJobs 3 = .ok (.istore_n 2, 1) := by decide +kernel
theorem dL_areJobs_4 : decode cL_areJobs 4 = .ok (.iconst 0, 1) := by decide +kernel
theorem dL_areJobs_5 : decode cL_areJobs 5 = .ok (.istore_n 3, 1) := by decide +kernel
theorem dL_areJobs_6 : decode cL_areJobs 6 = .ok (.iconst 0, 1) := by decide +kernel
theorem dL_areJobs_7 : decode cL_areJobs 7 = .ok (.istore 4, 2) := by decide +kernel
theorem dL_areJobs_9 : decode cL_areJobs 9 = .ok (.iconst 0, 1) := by decide +kernel
theorem dL_areJobs_10 : decode cL_areJobs 10 = .ok (.istore 5, 2) := by decide +kernel
theorem dL_areJobs_12 : decode cL_areJobs 12 = .ok (.iconst 0, 1) := by decide +kernel
theorem dL_areJobs_13 : decode cL_areJobs 13 = .ok (.istore 6, 2) := by decide +kernel
theorem dL_areJobs_15 : decode cL_areJobs 15 = .ok (.iconst 1, 1) := by decide +kernel
theorem dL_areJobs_16 : decode cL_areJobs 16 = .ok (.istore 7, 2) := by decide +kernel
theorem dL_areJobs_18 : decode cL_areJobs 18 = .ok (.iconst 0, 1) := by decide +kernel
theorem dL_areJobs_19 : decode cL_areJobs 19 = .ok (.istore 8, 2) := by decide +kernel
theorem dL_areJobs_21 : decode cL_areJobs 21 = .ok (.iload 8, 2) := by decide +kernel
theorem dL_areJobs_23 : decode cL_areJobs 23 = .ok (.aload_n 1, 1) := by decide +kernel
theorem dL_areJobs_24 : decode cL_areJobs 24 = .ok (.bipush 54, 2) := by decide +kernel
theorem dL_areJobs_26 : decode cL_areJobs 26 = .ok (.iaload, 1) := by decide +kernel
theorem dL_areJobs_27 : decode cL_areJobs 27 = .ok (.if_icmp .ge 232, 3) := by decide +kernel
theorem dL_areJobs_30 : decode cL_areJobs 30 = .ok (.iconst 0, 1) := by decide +kernel
theorem dL_areJobs_31 : decode cL_areJobs 31 = .ok (.istore 9, 2) := by decide +kernel
theorem dL_areJobs_33 : decode cL_areJobs 33 = .ok (.iconst 0, 1) := by decide +kernel
theorem dL_areJobs_34 : decode cL_areJobs 34 = .ok (.istore 10, 2) := by decide +kernel
theorem dL_areJobs_36 : decode cL_areJobs 36 = .ok (.iconst 0, 1) := by decide +kernel
theorem dL_areJobs_37 : decode cL_areJobs 37 = .ok (.istore 11, 2) := by decide +kernel
theorem dL_areJobs_39 : decode cL_areJobs 39 = .ok (.iload 11, 2) := by decide +kernel
theorem dL_areJobs_41 : decode cL_areJobs 41 = .ok (.aload_n 0, 1) := by decide +kernel
theorem dL_areJobs_42 : decode cL_areJobs 42 = .ok (.invokevirtual 34, 3) := by decide +kernel
theorem dL_areJobs_45 : decode cL_areJobs 45 = .ok (.if_icmp .ge 81, 3) := by decide +kernel
theorem dL_areJobs_48 : decode cL_areJobs 48 = .ok (.aload_n 0, 1) := by decide +kernel
theorem dL_areJobs_49 : decode cL_areJobs 49 = .ok (.iload 11, 2) := by decide +kernel
theorem dL_areJobs_51 : decode cL_areJobs 51 = .ok (.invokevirtual 110, 3) := by decide +kernel
theorem dL_areJobs_54 : decode cL_areJobs 54 = .ok (.ifCond .ne 18, 3) := by decide +kernel
theorem dL_areJobs_57 : decode cL_areJobs 57 = .ok (.aload_n 0, 1) := by decide +kernel
theorem dL_areJobs_58 : decode cL_areJobs 58 = .ok (.iload 11, 2) := by decide +kernel
theorem dL_areJobs_60 : decode cL_areJobs 60 = .ok (.invokevirtual 113, 3) := by decide +kernel
theorem dL_areJobs_63 : decode cL_areJobs 63 = .ok (.iload 8, 2) := by decide +kernel
theorem dL_areJobs_65 : decode cL_areJobs 65 = .ok (.if_icmp .ne 7, 3) := by decide +kernel
theorem dL_areJobs_68 : decode cL_areJobs 68 = .ok (.iconst 1, 1) := by decide +kernel
theorem dL_areJobs_69 : decode cL_areJobs 69 = .ok (.goto 4, 3) := by decide +kernel
theorem dL_areJobs_72 : decode cL_areJobs 72 = .ok (.iconst 0, 1) := by decide +kernel
theorem dL_areJobs_73 : decode cL_areJobs 73 = .ok (.istore 12, 2) := by decide +kernel
theorem dL_areJobs_75 : decode cL_areJobs 75 = .ok (.iload 9, 2) := by decide +kernel
theorem dL_areJobs_77 : decode cL_areJobs 77 = .ok (.iload 12, 2) := by decide +kernel
theorem dL_areJobs_79 : decode cL_areJobs 79 = .ok (.ifCond .eq 19, 3) := by decide +kernel
theorem dL_areJobs_82 : decode cL_areJobs 82 = .ok (.aload_n 0, 1) := by decide +kernel
theorem dL_areJobs_83 : decode cL_areJobs 83 = .ok (.iload 11, 2) := by decide +kernel
theorem dL_areJobs_85 : decode cL_areJobs 85 = .ok (.invokevirtual 119, 3) := by decide +kernel
theorem dL_areJobs_88 : decode cL_areJobs 88 = .ok (.aload_n 0, 1) := by decide +kernel
theorem dL_areJobs_89 : decode cL_areJobs 89 = .ok (.iload 11, 2) := by decide +kernel
theorem dL_areJobs_91 : decode cL_areJobs 91 = .ok (.invokevirtual 116, 3) := by decide +kernel
theorem dL_areJobs_94 : decode cL_areJobs 94 = .ok (.isub, 1) := by decide +kernel
theorem dL_areJobs_95 : decode cL_areJobs 95 = .ok (.goto 4, 3) := by decide +kernel
theorem dL_areJobs_98 : decode cL_areJobs 98 = .ok (.iconst 0, 1) := by decide +kernel
theorem dL_areJobs_99 : decode cL_areJobs 99 = .ok (.iadd, 1) := by decide +kernel
theorem dL_areJobs_100 : decode cL_areJobs 100 = .ok (.istore 9, 2) := by decide +kernel
theorem dL_areJobs_102 : decode cL_areJobs 102 = .ok (.iload 12, 2) := by decide +kernel
theorem dL_areJobs_104 : decode cL_areJobs 104 = .ok (.ifCond .eq 12, 3) := by decide +kernel
theorem dL_areJobs_107 : decode cL_areJobs 107 = .ok (.aload_n 0, 1) := by decide +kernel
theorem dL_areJobs_108 : decode cL_areJobs 108 = .ok (.iload 11, 2) := by decide +kernel
theorem dL_areJobs_110 : decode cL_areJobs 110 = .ok (.invokevirtual 119, 3) := by decide +kernel
theorem dL_areJobs_113 : decode cL_areJobs 113 = .ok (.goto 5, 3) := by decide +kernel
theorem dL_areJobs_116 : decode cL_areJobs 116 = .ok (.iload 10, 2) := by decide +kernel
theorem dL_areJobs_118 : decode cL_areJobs 118 = .ok (.istore 10, 2) := by decide +kernel
theorem dL_areJobs_120 : decode cL_areJobs 120 = .ok (.iinc 11 1, 3) := by decide +kernel
theorem dL_areJobs_123 : decode cL_areJobs 123 = .ok (.goto (-84), 3) := by decide +kernel
theorem dL_areJobs_126 : decode cL_areJobs 126 = .ok (.iload 10, 2) := by decide +kernel
theorem dL_areJobs_128 : decode cL_areJobs 128 = .ok (.aload_n 1, 1) := by decide +kernel
theorem dL_areJobs_129 : decode cL_areJobs 129 = .ok (.bipush 10, 2) := by decide +kernel
theorem dL_areJobs_131 : decode cL_areJobs 131 = .ok (.iload 8, 2) := by decide +kernel
theorem dL_areJobs_133 : decode cL_areJobs 133 = .ok (.iadd, 1) := by decide +kernel
theorem dL_areJobs_134 : decode cL_areJobs 134 = .ok (.iaload, 1) := by decide +kernel
theorem dL_areJobs_135 : decode cL_areJobs 135 = .ok (.isub, 1) := by decide +kernel
theorem dL_areJobs_136 : decode cL_areJobs 136 = .ok (.istore 11, 2) := by decide +kernel
theorem dL_areJobs_138 : decode cL_areJobs 138 = .ok (.iload 7, 2) := by decide +kernel
theorem dL_areJobs_140 : decode cL_areJobs 140 = .ok (.ifCond .eq 38, 3) := by decide +kernel
theorem dL_areJobs_143 : decode cL_areJobs 143 = .ok (.iload 9, 2) := by decide +kernel
theorem dL_areJobs_145 : decode cL_areJobs 145 = .ok (.aload_n 1, 1) := by decide +kernel
theorem dL_areJobs_146 : decode cL_areJobs 146 = .ok (.iload 8, 2) := by decide +kernel
theorem dL_areJobs_148 : decode cL_areJobs 148 = .ok (.iaload, 1) := by decide +kernel
theorem dL_areJobs_149 : decode cL_areJobs 149 = .ok (.if_icmp .ne 29, 3) := by decide +kernel
theorem dL_areJobs_152 : decode cL_areJobs 152 = .ok (.aload_n 0, 1) := by decide +kernel
theorem dL_areJobs_153 : decode cL_areJobs 153 = .ok (.iload 8, 2) := by decide +kernel
theorem dL_areJobs_155 : decode cL_areJobs 155 = .ok (.invokevirtual 122, 3) := by decide +kernel
theorem dL_areJobs_158 : decode cL_areJobs 158 = .ok (.iload 10, 2) := by decide +kernel
theorem dL_areJobs_160 : decode cL_areJobs 160 = .ok (.if_icmp .ne 18, 3) := by decide +kernel
theorem dL_areJobs_163 : decode cL_areJobs 163 = .ok (.aload_n 0, 1) := by decide +kernel
theorem dL_areJobs_164 : decode cL_areJobs 164 = .ok (.iload 8, 2) := by decide +kernel
theorem dL_areJobs_166 : decode cL_areJobs 166 = .ok (.invokevirtual 125, 3) := by decide +kernel
theorem dL_areJobs_169 : decode cL_areJobs 169 = .ok (.iload 11, 2) := by decide +kernel
theorem dL_areJobs_171 : decode cL_areJobs 171 = .ok (.if_icmp .ne 7, 3) := by decide +kernel
theorem dL_areJobs_174 : decode cL_areJobs 174 = .ok (.iconst 1, 1) := by decide +kernel
theorem dL_areJobs_175 : decode cL_areJobs 175 = .ok (.goto 4, 3) := by decide +kernel
theorem dL_areJobs_178 : decode cL_areJobs 178 = .ok (.iconst 0, 1) := by decide +kernel
theorem dL_areJobs_179 : decode cL_areJobs 179 = .ok (.istore 7, 2) := by decide +kernel
theorem dL_areJobs_181 : decode cL_areJobs 181 = .ok (.iload 11, 2) := by decide +kernel
theorem dL_areJobs_183 : decode cL_areJobs 183 = .ok (.iload_n 2, 1) := by decide +kernel
theorem dL_areJobs_184 : decode cL_areJobs 184 = .ok (.if_icmp .le 8, 3) := by decide +kernel
theorem dL_areJobs_187 : decode cL_areJobs 187 = .ok (.iload 11, 2) := by decide +kernel
theorem dL_areJobs_189 : decode cL_areJobs 189 = .ok (.goto 4, 3) := by decide +kernel
theorem dL_areJobs_192 : decode cL_areJobs 192 = .ok (.iload_n 2, 1) := by decide +kernel
theorem dL_areJobs_193 : decode cL_areJobs 193 = .ok (.istore_n 2, 1) := by decide +kernel
theorem dL_areJobs_194 : decode cL_areJobs 194 = .ok (.iload_n 3, 1) := by decide +kernel
theorem dL_areJobs_195 : decode cL_areJobs 195 = .ok (.iload 11, 2) := by decide +kernel
theorem dL_areJobs_197 : decode cL_areJobs 197 = .ok (.ifCond .le 7, 3) := by decide +kernel
theorem dL_areJobs_200 : decode cL_areJobs 200 = .ok (.iconst 1, 1) := by decide +kernel
theorem dL_areJobs_201 : decode cL_areJobs 201 = .ok (.goto 4, 3) := by decide +kernel
theorem dL_areJobs_204 : decode cL_areJobs 204 = .ok (.iconst 0, 1) := by decide +kernel
theorem dL_areJobs_205 : decode cL_areJobs 205 = .ok (.iadd, 1) := by decide +kernel
theorem dL_areJobs_206 : decode cL_areJobs 206 = .ok (.istore_n 3, 1) := by decide +kernel
theorem dL_areJobs_207 : decode cL_areJobs 207 = .ok (.iload 4, 2) := by decide +kernel
theorem dL_areJobs_209 : decode cL_areJobs 209 = .ok (.iload 10, 2) := by decide +kernel
theorem dL_areJobs_211 : decode cL_areJobs 211 = .ok (.iadd, 1) := by decide +kernel
theorem dL_areJobs_212 : decode cL_areJobs 212 = .ok (.istore 4, 2) := by decide +kernel
theorem dL_areJobs_214 : decode cL_areJobs 214 = .ok (.iload 5, 2) := by decide +kernel
theorem dL_areJobs_216 : decode cL_areJobs 216 = .ok (.aload_n 1, 1) := by decide +kernel
theorem dL_areJobs_217 : decode cL_areJobs 217 = .ok (.bipush 20, 2) := by decide +kernel
theorem dL_areJobs_219 : decode cL_areJobs 219 = .ok (.iload 8, 2) := by decide +kernel
theorem dL_areJobs_221 : decode cL_areJobs 221 = .ok (.iadd, 1) := by decide +kernel
theorem dL_areJobs_222 : decode cL_areJobs 222 = .ok (.iaload, 1) := by decide +kernel
theorem dL_areJobs_223 : decode cL_areJobs 223 = .ok (.iload 10, 2) := by decide +kernel
theorem dL_areJobs_225 : decode cL_areJobs 225 = .ok (.imul, 1) := by decide +kernel
theorem dL_areJobs_226 : decode cL_areJobs 226 = .ok (.iadd, 1) := by decide +kernel
theorem dL_areJobs_227 : decode cL_areJobs 227 = .ok (.istore 5, 2) := by decide +kernel
theorem dL_areJobs_229 : decode cL_areJobs 229 = .ok (.iload 6, 2) := by decide +kernel
theorem dL_areJobs_231 : decode cL_areJobs 231 = .ok (.iload 11, 2) := by decide +kernel
theorem dL_areJobs_233 : decode cL_areJobs 233 = .ok (.ifCond .le 16, 3) := by decide +kernel
theorem dL_areJobs_236 : decode cL_areJobs 236 = .ok (.aload_n 1, 1) := by decide +kernel
theorem dL_areJobs_237 : decode cL_areJobs 237 = .ok (.bipush 20, 2) := by decide +kernel
theorem dL_areJobs_239 : decode cL_areJobs 239 = .ok (.iload 8, 2) := by decide +kernel
theorem dL_areJobs_241 : decode cL_areJobs 241 = .ok (.iadd, 1) := by decide +kernel
theorem dL_areJobs_242 : decode cL_areJobs 242 = .ok (.iaload, 1) := by decide +kernel
theorem dL_areJobs_243 : decode cL_areJobs 243 = .ok (.iload 11, 2) := by decide +kernel
theorem dL_areJobs_245 : decode cL_areJobs 245 = .ok (.imul, 1) := by decide +kernel
theorem dL_areJobs_246 : decode cL_areJobs 246 = .ok (.goto 4, 3) := by decide +kernel
theorem dL_areJobs_249 : decode cL_areJobs 249 = .ok (.iconst 0, 1) := by decide +kernel
theorem dL_areJobs_250 : decode cL_areJobs 250 = .ok (.iadd, 1) := by decide +kernel
theorem dL_areJobs_251 : decode cL_areJobs 251 = .ok (.istore 6, 2) := by decide +kernel
theorem dL_areJobs_253 : decode cL_areJobs 253 = .ok (.iinc 8 1, 3) := by decide +kernel
theorem dL_areJobs_256 : decode cL_areJobs 256 = .ok (.goto (-235), 3) := by decide +kernel
theorem dL_areJobs_259 : decode cL_areJobs 259 = .ok (.iload 7, 2) := by decide +kernel
theorem dL_areJobs_261 : decode cL_areJobs 261 = .ok (.ifCond .eq 50, 3) := by decide +kernel
theorem dL_areJobs_264 : decode cL_areJobs 264 = .ok (.aload_n 0, 1) := by decide +kernel
theorem dL_areJobs_265 : decode cL_areJobs 265 = .ok (.invokevirtual 85, 3) := by decide +kernel
theorem dL_areJobs_268 : decode cL_areJobs 268 = .ok (.iload_n 2, 1) := by decide +kernel
theorem dL_areJobs_269 : decode cL_areJobs 269 = .ok (.if_icmp .ne 42, 3) := by decide +kernel
theorem dL_areJobs_272 : decode cL_areJobs 272 = .ok (.aload_n 0, 1) := by decide +kernel
theorem dL_areJobs_273 : decode cL_areJobs 273 = .ok (.invokevirtual 73, 3) := by decide +kernel
theorem dL_areJobs_276 : decode cL_areJobs 276 = .ok (.iload_n 3, 1) := by decide +kernel
theorem dL_areJobs_277 : decode cL_areJobs 277 = .ok (.if_icmp .ne 34, 3) := by decide +kernel
theorem dL_areJobs_280 : decode cL_areJobs 280 = .ok (.aload_n 0, 1) := by decide +kernel
theorem dL_areJobs_281 : decode cL_areJobs 281 = .ok (.invokevirtual 82, 3) := by decide +kernel
theorem dL_areJobs_284 : decode cL_areJobs 284 = .ok (.iload 4, 2) := by decide +kernel
theorem dL_areJobs_286 : decode cL_areJobs 286 = .ok (.if_icmp .ne 25, 3) := by decide +kernel
theorem dL_areJobs_289 : decode cL_areJobs 289 = .ok (.aload_n 0, 1) := by decide +kernel
theorem dL_areJobs_290 : decode cL_areJobs 290 = .ok (.invokevirtual 76, 3) := by decide +kernel
theorem dL_areJobs_293 : decode cL_areJobs 293 = .ok (.iload 5, 2) := by decide +kernel
theorem dL_areJobs_295 : decode cL_areJobs 295 = .ok (.if_icmp .ne 16, 3) := by decide +kernel
theorem dL_areJobs_298 : decode cL_areJobs 298 = .ok (.aload_n 0, 1) := by decide +kernel
theorem dL_areJobs_299 : decode cL_areJobs 299 = .ok (.invokevirtual 79, 3) := by decide +kernel
theorem dL_areJobs_302 : decode cL_areJobs 302 = .ok (.iload 6, 2) := by decide +kernel
theorem dL_areJobs_304 : decode cL_areJobs 304 = .ok (.if_icmp .ne 7, 3) := by decide +kernel
theorem dL_areJobs_307 : decode cL_areJobs 307 = .ok (.iconst 1, 1) := by decide +kernel
theorem dL_areJobs_308 : decode cL_areJobs 308 = .ok (.goto 4, 3) := by decide +kernel
theorem dL_areJobs_311 : decode cL_areJobs 311 = .ok (.iconst 0, 1) := by decide +kernel
theorem dL_areJobs_312 : decode cL_areJobs 312 = .ok (.ireturn, 1) := by decide +kernel
theorem dL_isWindow_0 : decode cL_isWindow 0 = .ok (.iconst 0, 1) := by decide +kernel
theorem dL_isWindow_1 : decode cL_isWindow 1 = .ok (.istore_n 2, 1) := by decide +kernel
theorem dL_isWindow_2 : decode cL_isWindow 2 = .ok (.iconst 0, 1) := by decide +kernel
theorem dL_isWindow_3 : decode cL_isWindow 3 = .ok (.istore_n 3, 1) := by decide +kernel
theorem dL_isWindow_4 : decode cL_isWindow 4 = .ok (.iload_n 3, 1) := by decide +kernel
theorem dL_isWindow_5 : decode cL_isWindow 5 = .ok (.aload_n 1, 1) := by decide +kernel
theorem dL_isWindow_6 : decode cL_isWindow 6 = .ok (.bipush 54, 2) := by decide +kernel
theorem dL_isWindow_8 : decode cL_isWindow 8 = .ok (.iaload, 1) := by decide +kernel
theorem dL_isWindow_9 : decode cL_isWindow 9 = .ok (.if_icmp .ge 45, 3) := by decide +kernel
theorem dL_isWindow_12 : decode cL_isWindow 12 = .ok (.iload_n 2, 1) := by decide +kernel
theorem dL_isWindow_13 : decode cL_isWindow 13 = .ok (.aload_n 1, 1) := by decide +kernel
theorem dL_isWindow_14 : decode cL_isWindow 14 = .ok (.bipush 30, 2) := by decide +kernel
theorem dL_isWindow_16 : decode cL_isWindow 16 = .ok (.iload_n 3, 1) := by decide +kernel
theorem dL_isWindow_17 : decode cL_isWindow 17 = .ok (.iadd, 1) := by decide +kernel
theorem dL_isWindow_18 : decode cL_isWindow 18 = .ok (.iaload, 1) := by decide +kernel
theorem dL_isWindow_19 : decode cL_isWindow 19 = .ok (.aload_n 0, 1) := by decide +kernel
theorem dL_isWindow_20 : decode cL_isWindow 20 = .ok (.invokevirtual 128, 3) := by decide +kernel
theorem dL_isWindow_23 : decode cL_isWindow 23 = .ok (.if_icmp .lt 22, 3) := by decide +kernel
theorem dL_isWindow_26 : decode cL_isWindow 26 = .ok (.aload_n 1, 1) := by decide +kernel
theorem dL_isWindow_27 : decode cL_isWindow 27 = .ok (.bipush 10, 2) := by decide +kernel
theorem dL_isWindow_29 : decode cL_isWindow 29 = .ok (.iload_n 3, 1) := by decide +kernel
theorem dL_isWindow_30 : decode cL_isWindow 30 = .ok (.iadd, 1) := by decide +kernel
theorem dL_isWindow_31 : decode cL_isWindow 31 = .ok (.iaload, 1) := by decide +kernel
theorem dL_isWindow_32 : decode cL_isWindow 32 = .ok (.aload_n 0, 1) := by decide +kernel
theorem dL_isWindow_33 : decode cL_isWindow 33 = .ok (.invokevirtual 131, 3) := by decide +kernel
theorem dL_isWindow_36 : decode cL_isWindow 36 = .ok (.if_icmp .gt 9, 3) := by decide +kernel
theorem dL_isWindow_39 : decode cL_isWindow 39 = .ok (.aload_n 1, 1) := by decide +kernel
theorem dL_isWindow_40 : decode cL_isWindow 40 = .ok (.iload_n 3, 1) := by decide +kernel
theorem dL_isWindow_41 : decode cL_isWindow 41 = .ok (.iaload, 1) := by decide +kernel
theorem dL_isWindow_42 : decode cL_isWindow 42 = .ok (.goto 4, 3) := by decide +kernel
theorem dL_isWindow_45 : decode cL_isWindow 45 = .ok (.iconst 0, 1) := by decide +kernel
theorem dL_isWindow_46 : decode cL_isWindow 46 = .ok (.iadd, 1) := by decide +kernel
theorem dL_isWindow_47 : decode cL_isWindow 47 = .ok (.istore_n 2, 1) := by decide +kernel
theorem dL_isWindow_48 : decode cL_isWindow 48 = .ok (.iinc 3 1, 3) := by decide +kernel
theorem dL_isWindow_51 : decode cL_isWindow 51 = .ok (.goto (-47), 3) := by decide +kernel
theorem dL_isWindow_54 : decode cL_isWindow 54 = .ok (.iload_n 2, 1) := by decide +kernel
theorem dL_isWindow_55 : decode cL_isWindow 55 = .ok (.ifCond .le 26, 3) := by decide +kernel
theorem dL_isWindow_58 : decode cL_isWindow 58 = .ok (.aload_n 0, 1) := by decide +kernel
theorem dL_isWindow_59 : decode cL_isWindow 59 = .ok (.iconst 1, 1) := by decide +kernel
theorem dL_isWindow_60 : decode cL_isWindow 60 = .ok (.invokevirtual 88, 3) := by decide +kernel
theorem dL_isWindow_63 : decode cL_isWindow 63 = .ok (.aload_n 0, 1) := by decide +kernel
theorem dL_isWindow_64 : decode cL_isWindow 64 = .ok (.invokevirtual 128, 3) := by decide +kernel
theorem dL_isWindow_67 : decode cL_isWindow 67 = .ok (.iload_n 2, 1) := by decide +kernel
theorem dL_isWindow_68 : decode cL_isWindow 68 = .ok (.iadd, 1) := by decide +kernel
theorem dL_isWindow_69 : decode cL_isWindow 69 = .ok (.aload_n 0, 1) := by decide +kernel
theorem dL_isWindow_70 : decode cL_isWindow 70 = .ok (.invokevirtual 131, 3) := by decide +kernel
theorem dL_isWindow_73 : decode cL_isWindow 73 = .ok (.isub, 1) := by decide +kernel
theorem dL_isWindow_74 : decode cL_isWindow 74 = .ok (.if_icmp .ne 7, 3) := by decide +kernel
theorem dL_isWindow_77 : decode cL_isWindow 77 = .ok (.iconst 1, 1) := by decide +kernel
theorem dL_isWindow_78 : decode cL_isWindow 78 = .ok (.goto 4, 3) := by decide +kernel
theorem dL_isWindow_81 : decode cL_isWindow 81 = .ok (.iconst 0, 1) := by decide +kernel
theorem dL_isWindow_82 : decode cL_isWindow 82 = .ok (.ireturn, 1) := by decide +kernel
theorem dL_law_0 : decode cL_law 0 = .ok (.new 17, 3) := by decide +kernel
theorem dL_law_3 : decode cL_law 3 = .ok (.dup, 1) := by decide +kernel
theorem dL_law_4 : decode cL_law 4 = .ok (.invokespecial 134, 3) := by decide +kernel
theorem dL_law_7 : decode cL_law 7 = .ok (.astore_n 1, 1) := by decide +kernel
theorem dL_law_8 : decode cL_law 8 = .ok (.bipush 55, 2) := by decide +kernel
theorem dL_law_10 : decode cL_law 10 = .ok (.newarray .int, 2) := by decide +kernel
theorem dL_law_12 : decode cL_law 12 = .ok (.astore_n 2, 1) := by decide +kernel
theorem dL_law_13 : decode cL_law 13 = .ok (.aload_n 1, 1) := by decide +kernel
theorem dL_law_14 : decode cL_law 14 = .ok (.invokevirtual 22, 3) := by decide +kernel
theorem dL_law_17 : decode cL_law 17 = .ok (.ifCond .ne 21, 3) := by decide +kernel
theorem dL_law_20 : decode cL_law 20 = .ok (.aload_n 1, 1) := by decide +kernel
theorem dL_law_21 : decode cL_law 21 = .ok (.invokevirtual 26, 3) := by decide +kernel
theorem dL_law_24 : decode cL_law 24 = .ok (.ifCond .ne 14, 3) := by decide +kernel
theorem dL_law_27 : decode cL_law 27 = .ok (.aload_n 1, 1) := by decide +kernel
theorem dL_law_28 : decode cL_law 28 = .ok (.invokevirtual 37, 3) := by decide +kernel
theorem dL_law_31 : decode cL_law 31 = .ok (.ifCond .ne 7, 3) := by decide +kernel
theorem dL_law_34 : decode cL_law 34 = .ok (.iconst 1, 1) := by decide +kernel
theorem dL_law_35 : decode cL_law 35 = .ok (.goto 4, 3) := by decide +kernel
theorem dL_law_38 : decode cL_law 38 = .ok (.iconst 0, 1) := by decide +kernel
theorem dL_law_39 : decode cL_law 39 = .ok (.istore_n 3, 1) := by decide +kernel
theorem dL_law_40 : decode cL_law 40 = .ok (.aload_n 0, 1) := by decide +kernel
theorem dL_law_41 : decode cL_law 41 = .ok (.arraylength, 1) := by decide +kernel
theorem dL_law_42 : decode cL_law 42 = .ok (.iconst 3, 1) := by decide +kernel
theorem dL_law_43 : decode cL_law 43 = .ok (.idiv, 1) := by decide +kernel
theorem dL_law_44 : decode cL_law 44 = .ok (.bipush 16, 2) := by decide +kernel
theorem dL_law_46 : decode cL_law 46 = .ok (.if_icmp .le 8, 3) := by decide +kernel
theorem dL_law_49 : decode cL_law 49 = .ok (.bipush 16, 2) := by decide +kernel
theorem dL_law_51 : decode cL_law 51 = .ok (.goto 7, 3) := by decide +kernel
theorem dL_law_54 : decode cL_law 54 = .ok (.aload_n 0, 1) := by decide +kernel
theorem dL_law_55 : decode cL_law 55 = .ok (.arraylength, 1) := by decide +kernel
theorem dL_law_56 : decode cL_law 56 = .ok (.iconst 3, 1) := by decide +kernel
theorem dL_law_57 : decode cL_law 57 = .ok (.idiv, 1) := by decide +kernel
theorem dL_law_58 : decode cL_law 58 = .ok (.istore 4, 2) := by decide +kernel
theorem dL_law_60 : decode cL_law 60 = .ok (.iconst 0, 1) := by decide +kernel
theorem dL_law_61 : decode cL_law 61 = .ok (.istore 5, 2) := by decide +kernel
theorem dL_law_63 : decode cL_law 63 = .ok (.iload 5, 2) := by decide +kernel
theorem dL_law_65 : decode cL_law 65 = .ok (.iload 4, 2) := by decide +kernel
theorem dL_law_67 : decode cL_law 67 = .ok (.if_icmp .ge 159, 3) := by decide +kernel
theorem dL_law_70 : decode cL_law 70 = .ok (.iload_n 3, 1) := by decide +kernel
theorem dL_law_71 : decode cL_law 71 = .ok (.ifCond .eq 155, 3) := by decide +kernel
theorem dL_law_74 : decode cL_law 74 = .ok (.aload_n 1, 1) := by decide +kernel
theorem dL_law_75 : decode cL_law 75 = .ok (.aload_n 2, 1) := by decide +kernel
theorem dL_law_76 : decode cL_law 76 = .ok (.aload_n 0, 1) := by decide +kernel
theorem dL_law_77 : decode cL_law 77 = .ok (.iconst 3, 1) := by decide +kernel
theorem dL_law_78 : decode cL_law 78 = .ok (.iload 5, 2) := by decide +kernel
theorem dL_law_80 : decode cL_law 80 = .ok (.imul, 1) := by decide +kernel
theorem dL_law_81 : decode cL_law 81 = .ok (.invokestatic 135, 3) := by decide +kernel
theorem dL_law_84 : decode cL_law 84 = .ok (.aload_n 0, 1) := by decide +kernel
theorem dL_law_85 : decode cL_law 85 = .ok (.iconst 3, 1) := by decide +kernel
theorem dL_law_86 : decode cL_law 86 = .ok (.iload 5, 2) := by decide +kernel
theorem dL_law_88 : decode cL_law 88 = .ok (.imul, 1) := by decide +kernel
theorem dL_law_89 : decode cL_law 89 = .ok (.iconst 1, 1) := by decide +kernel
theorem dL_law_90 : decode cL_law 90 = .ok (.iadd, 1) := by decide +kernel
theorem dL_law_91 : decode cL_law 91 = .ok (.invokestatic 135, 3) := by decide +kernel
theorem dL_law_94 : decode cL_law 94 = .ok (.aload_n 0, 1) := by decide +kernel
theorem dL_law_95 : decode cL_law 95 = .ok (.iconst 3, 1) := by decide +kernel
theorem dL_law_96 : decode cL_law 96 = .ok (.iload 5, 2) := by decide +kernel
theorem dL_law_98 : decode cL_law 98 = .ok (.imul, 1) := by decide +kernel
theorem dL_law_99 : decode cL_law 99 = .ok (.iconst 2, 1) := by decide +kernel
theorem dL_law_100 : decode cL_law 100 = .ok (.iadd, 1) := by decide +kernel
theorem dL_law_101 : decode cL_law 101 = .ok (.invokestatic 135, 3) := by decide +kernel
theorem dL_law_104 : decode cL_law 104 = .ok (.invokestatic 139, 3) := by decide +kernel
theorem dL_law_107 : decode cL_law 107 = .ok (.istore_n 3, 1) := by decide +kernel
theorem dL_law_108 : decode cL_law 108 = .ok (.iconst 0, 1) := by decide +kernel
theorem dL_law_109 : decode cL_law 109 = .ok (.istore 6, 2) := by decide +kernel
theorem dL_law_111 : decode cL_law 111 = .ok (.iload 6, 2) := by decide +kernel
theorem dL_law_113 : decode cL_law 113 = .ok (.iconst 2, 1) := by decide +kernel
theorem dL_law_114 : decode cL_law 114 = .ok (.if_icmp .ge 106, 3) := by decide +kernel
theorem dL_law_117 : decode cL_law 117 = .ok (.iload_n 3, 1) := by decide +kernel
theorem dL_law_118 : decode cL_law 118 = .ok (.ifCond .eq 102, 3) := by decide +kernel
theorem dL_law_121 : decode cL_law 121 = .ok (.aload_n 2, 1) := by decide +kernel
theorem dL_law_122 : decode cL_law 122 = .ok (.bipush 54, 2) := by decide +kernel
theorem dL_law_124 : decode cL_law 124 = .ok (.iaload, 1) := by decide +kernel
theorem dL_law_125 : decode cL_law 125 = .ok (.ifCond .le 95, 3) := by decide +kernel
theorem dL_law_128 : decode cL_law 128 = .ok (.iconst 2, 1) := by decide +kernel
theorem dL_law_129 : decode cL_law 129 = .ok (.iload 5, 2) := by decide +kernel
theorem dL_law_131 : decode cL_law 131 = .ok (.imul, 1) := by decide +kernel
theorem dL_law_132 : decode cL_law 132 = .ok (.iload 6, 2) := by decide +kernel
theorem dL_law_134 : decode cL_law 134 = .ok (.iadd, 1) := by decide +kernel
theorem dL_law_135 : decode cL_law 135 = .ok (.aload_n 0, 1) := by decide +kernel
theorem dL_law_136 : decode cL_law 136 = .ok (.iconst 3, 1) := by decide +kernel
theorem dL_law_137 : decode cL_law 137 = .ok (.iload 5, 2) := by decide +kernel
theorem dL_law_139 : decode cL_law 139 = .ok (.imul, 1) := by decide +kernel
theorem dL_law_140 : decode cL_law 140 = .ok (.invokestatic 135, 3) := by decide +kernel
theorem dL_law_143 : decode cL_law 143 = .ok (.bipush 7, 2) := by decide +kernel
theorem dL_law_145 : decode cL_law 145 = .ok (.irem, 1) := by decide +kernel
theorem dL_law_146 : decode cL_law 146 = .ok (.iadd, 1) := by decide +kernel
theorem dL_law_147 : decode cL_law 147 = .ok (.bipush 7, 2) := by decide +kernel
theorem dL_law_149 : decode cL_law 149 = .ok (.irem, 1) := by decide +kernel
theorem dL_law_150 : decode cL_law 150 = .ok (.istore 7, 2) := by decide +kernel
theorem dL_law_152 : decode cL_law 152 = .ok (.aload_n 1, 1) := by decide +kernel
theorem dL_law_153 : decode cL_law 153 = .ok (.iload 7, 2) := by decide +kernel
theorem dL_law_155 : decode cL_law 155 = .ok (.invokestatic 143, 3) := by decide +kernel
theorem dL_law_158 : decode cL_law 158 = .ok (.istore 8, 2) := by decide +kernel
theorem dL_law_160 : decode cL_law 160 = .ok (.iload 8, 2) := by decide +kernel
theorem dL_law_162 : decode cL_law 162 = .ok (.aload_n 1, 1) := by decide +kernel
theorem dL_law_163 : decode cL_law 163 = .ok (.iload 7, 2) := by decide +kernel
theorem dL_law_165 : decode cL_law 165 = .ok (.invokestatic 147, 3) := by decide +kernel
theorem dL_law_168 : decode cL_law 168 = .ok (.if_icmp .ne 44, 3) := by decide +kernel
theorem dL_law_171 : decode cL_law 171 = .ok (.aload_n 1, 1) := by decide +kernel
theorem dL_law_172 : decode cL_law 172 = .ok (.iload 7, 2) := by decide +kernel
theorem dL_law_174 : decode cL_law 174 = .ok (.iload 8, 2) := by decide +kernel
theorem dL_law_176 : decode cL_law 176 = .ok (.invokestatic 150, 3) := by decide +kernel
theorem dL_law_179 : decode cL_law 179 = .ok (.ifCond .eq 33, 3) := by decide +kernel
theorem dL_law_182 : decode cL_law 182 = .ok (.aload_n 1, 1) := by decide +kernel
theorem dL_law_183 : decode cL_law 183 = .ok (.aload_n 2, 1) := by decide +kernel
theorem dL_law_184 : decode cL_law 184 = .ok (.iload 7, 2) := by decide +kernel
theorem dL_law_186 : decode cL_law 186 = .ok (.invokestatic 154, 3) := by decide +kernel
theorem dL_law_189 : decode cL_law 189 = .ok (.ifCond .eq 23, 3) := by decide +kernel
theorem dL_law_192 : decode cL_law 192 = .ok (.aload_n 1, 1) := by decide +kernel
theorem dL_law_193 : decode cL_law 193 = .ok (.aload_n 2, 1) := by decide +kernel
theorem dL_law_194 : decode cL_law 194 = .ok (.invokestatic 158, 3) := by decide +kernel
theorem dL_law_197 : decode cL_law 197 = .ok (.ifCond .eq 15, 3) := by decide +kernel
theorem dL_law_200 : decode cL_law 200 = .ok (.aload_n 1, 1) := by decide +kernel
theorem dL_law_201 : decode cL_law 201 = .ok (.aload_n 2, 1) := by decide +kernel
theorem dL_law_202 : decode cL_law 202 = .ok (.invokestatic 162, 3) := by decide +kernel
theorem dL_law_205 : decode cL_law 205 = .ok (.ifCond .eq 7, 3) := by decide +kernel
theorem dL_law_208 : decode cL_law 208 = .ok (.iconst 1, 1) := by decide +kernel
theorem dL_law_209 : decode cL_law 209 = .ok (.goto 4, 3) := by decide +kernel
theorem dL_law_212 : decode cL_law 212 = .ok (.iconst 0, 1) := by decide +kernel
theorem dL_law_213 : decode cL_law 213 = .ok (.istore_n 3, 1) := by decide +kernel
theorem dL_law_214 : decode cL_law 214 = .ok (.iinc 6 1, 3) := by decide +kernel
theorem dL_law_217 : decode cL_law 217 = .ok (.goto (-106), 3) := by decide +kernel
theorem dL_law_220 : decode cL_law 220 = .ok (.iinc 5 1, 3) := by decide +kernel
theorem dL_law_223 : decode cL_law 223 = .ok (.goto (-160), 3) := by decide +kernel
theorem dL_law_226 : decode cL_law 226 = .ok (.iload_n 3, 1) := by decide +kernel
theorem dL_law_227 : decode cL_law 227 = .ok (.ireturn, 1) := by decide +kernel
