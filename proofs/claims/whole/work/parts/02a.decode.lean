theorem dX0_init_0 : decode cX0_init 0 = .ok (.aload_n 0, 1) := by decide +kernel
theorem dX0_init_1 : decode cX0_init 1 = .ok (.invokespecial 3, 3) := by decide +kernel
theorem dX0_init_4 : decode cX0_init 4 = .ok (.aload_n 0, 1) := by decide +kernel
theorem dX0_init_5 : decode cX0_init 5 = .ok (.iconst 3, 1) := by decide +kernel
theorem dX0_init_6 : decode cX0_init 6 = .ok (.newarray .int, 2) := by decide +kernel
theorem dX0_init_8 : decode cX0_init 8 = .ok (.putfield 9, 3) := by decide +kernel
theorem dX0_init_11 : decode cX0_init 11 = .ok (.aload_n 0, 1) := by decide +kernel
theorem dX0_init_12 : decode cX0_init 12 = .ok (.aload_n 1, 1) := by decide +kernel
theorem dX0_init_13 : decode cX0_init 13 = .ok (.putfield 15, 3) := by decide +kernel
theorem dX0_init_16 : decode cX0_init 16 = .ok (.aload_n 0, 1) := by decide +kernel
theorem dX0_init_17 : decode cX0_init 17 = .ok (.aload_n 2, 1) := by decide +kernel
theorem dX0_init_18 : decode cX0_init 18 = .ok (.putfield 19, 3) := by decide +kernel
theorem dX0_init_21 : decode cX0_init 21 = .ok (.aload_n 0, 1) := by decide +kernel
theorem dX0_init_22 : decode cX0_init 22 = .ok (.aload_n 3, 1) := by decide +kernel
theorem dX0_init_23 : decode cX0_init 23 = .ok (.putfield 23, 3) := by decide +kernel
theorem dX0_init_26 : decode cX0_init 26 = .ok (.return_, 1) := by decide +kernel
theorem dX0_bestOf_0 : decode cX0_bestOf 0 = .ok (.iconst 0, 1) := by decide +kernel
theorem dX0_bestOf_1 : decode cX0_bestOf 1 = .ok (.istore_n 2, 1) := by decide +kernel
theorem dX0_bestOf_2 : decode cX0_bestOf 2 = .ok (.iconst 0, 1) := by decide +kernel
theorem dX0_bestOf_3 : decode cX0_bestOf 3 = .ok (.istore_n 3, 1) := by decide +kernel
theorem dX0_bestOf_4 : decode cX0_bestOf 4 = .ok (.iconst 1, 1) := by decide +kernel
theorem dX0_bestOf_5 : decode cX0_bestOf 5 = .ok (.istore 4, 2) := by decide +kernel
theorem dX0_bestOf_7 : decode cX0_bestOf 7 = .ok (.iload 4, 2) := by decide +kernel
theorem dX0_bestOf_9 : decode cX0_bestOf 9 = .ok (.sipush 1024, 3) := by decide +kernel
theorem dX0_bestOf_12 : decode cX0_bestOf 12 = .ok (.if_icmp .ge 56, 3) := by decide +kernel
theorem dX0_bestOf_15 : decode cX0_bestOf 15 = .ok (.iload 4, 2) := by decide +kernel
theorem dX0_bestOf_17 : decode cX0_bestOf 17 = .ok (.iload_n 1, 1) := by decide +kernel
theorem dX0_bestOf_18 : decode cX0_bestOf 18 = .ok (.invokestatic 27, 3) := by decide +kernel
theorem dX0_bestOf_21 : decode cX0_bestOf 21 = .ok (.ifCond .eq 41, 3) := by decide +kernel
theorem dX0_bestOf_24 : decode cX0_bestOf 24 = .ok (.aload_n 0, 1) := by decide +kernel
theorem dX0_bestOf_25 : decode cX0_bestOf 25 = .ok (.getfield 19, 3) := by decide +kernel
theorem dX0_bestOf_28 : decode cX0_bestOf 28 = .ok (.iload 4, 2) := by decide +kernel
theorem dX0_bestOf_30 : decode cX0_bestOf 30 = .ok (.invokevirtual 31, 3) := by decide +kernel
theorem dX0_bestOf_33 : decode cX0_bestOf 33 = .ok (.istore 5, 2) := by decide +kernel
theorem dX0_bestOf_35 : decode cX0_bestOf 35 = .ok (.iload 5, 2) := by decide +kernel
theorem dX0_bestOf_37 : decode cX0_bestOf 37 = .ok (.iload 4, 2) := by decide +kernel
theorem dX0_bestOf_39 : decode cX0_bestOf 39 = .ok (.iload_n 3, 1) := by decide +kernel
theorem dX0_bestOf_40 : decode cX0_bestOf 40 = .ok (.iload_n 2, 1) := by decide +kernel
theorem dX0_bestOf_41 : decode cX0_bestOf 41 = .ok (.invokestatic 37, 3) := by decide +kernel
theorem dX0_bestOf_44 : decode cX0_bestOf 44 = .ok (.ifCond .eq 18, 3) := by decide +kernel
theorem dX0_bestOf_47 : decode cX0_bestOf 47 = .ok (.aload_n 0, 1) := by decide +kernel
theorem dX0_bestOf_48 : decode cX0_bestOf 48 = .ok (.iload 4, 2) := by decide +kernel
theorem dX0_bestOf_50 : decode cX0_bestOf 50 = .ok (.invokevirtual 41, 3) := by decide +kernel
theorem dX0_bestOf_53 : decode cX0_bestOf 53 = .ok (.ifCond .eq 9, 3) := by decide +kernel
theorem dX0_bestOf_56 : decode cX0_bestOf 56 = .ok (.iload 4, 2) := by decide +kernel
theorem dX0_bestOf_58 : decode cX0_bestOf 58 = .ok (.istore_n 2, 1) := by decide +kernel
theorem dX0_bestOf_59 : decode cX0_bestOf 59 = .ok (.iload 5, 2) := by decide +kernel
theorem dX0_bestOf_61 : decode cX0_bestOf 61 = .ok (.istore_n 3, 1) := by decide +kernel
theorem dX0_bestOf_62 : decode cX0_bestOf 62 = .ok (.iinc 4 1, 3) := by decide +kernel
theorem dX0_bestOf_65 : decode cX0_bestOf 65 = .ok (.goto (-58), 3) := by decide +kernel
theorem dX0_bestOf_68 : decode cX0_bestOf 68 = .ok (.iload_n 2, 1) := by decide +kernel
theorem dX0_bestOf_69 : decode cX0_bestOf 69 = .ok (.ireturn, 1) := by decide +kernel
theorem dX0_isBetter_0 : decode cX0_isBetter 0 = .ok (.iload_n 0, 1) := by decide +kernel
theorem dX0_isBetter_1 : decode cX0_isBetter 1 = .ok (.iload_n 2, 1) := by decide +kernel
theorem dX0_isBetter_2 : decode cX0_isBetter 2 = .ok (.if_icmp .gt 19, 3) := by decide +kernel
theorem dX0_isBetter_5 : decode cX0_isBetter 5 = .ok (.iload_n 0, 1) := by decide +kernel
theorem dX0_isBetter_6 : decode cX0_isBetter 6 = .ok (.iload_n 2, 1) := by decide +kernel
theorem dX0_isBetter_7 : decode cX0_isBetter 7 = .ok (.if_icmp .ne 18, 3) := by decide +kernel
theorem dX0_isBetter_10 : decode cX0_isBetter 10 = .ok (.iload_n 1, 1) := by decide +kernel
theorem dX0_isBetter_11 : decode cX0_isBetter 11 = .ok (.invokestatic 45, 3) := by decide +kernel
theorem dX0_isBetter_14 : decode cX0_isBetter 14 = .ok (.iload_n 3, 1) := by decide +kernel
theorem dX0_isBetter_15 : decode cX0_isBetter 15 = .ok (.invokestatic 45, 3) := by decide +kernel
theorem dX0_isBetter_18 : decode cX0_isBetter 18 = .ok (.if_icmp .ge 7, 3) := by decide +kernel
theorem dX0_isBetter_21 : decode cX0_isBetter 21 = .ok (.iconst 1, 1) := by decide +kernel
theorem dX0_isBetter_22 : decode cX0_isBetter 22 = .ok (.goto 4, 3) := by decide +kernel
theorem dX0_isBetter_25 : decode cX0_isBetter 25 = .ok (.iconst 0, 1) := by decide +kernel
theorem dX0_isBetter_26 : decode cX0_isBetter 26 = .ok (.ireturn, 1) := by decide +kernel
theorem dX0_fits_0 : decode cX0_fits 0 = .ok (.aload_n 0, 1) := by decide +kernel
theorem dX0_fits_1 : decode cX0_fits 1 = .ok (.getfield 23, 3) := by decide +kernel
theorem dX0_fits_4 : decode cX0_fits 4 = .ok (.iload_n 1, 1) := by decide +kernel
theorem dX0_fits_5 : decode cX0_fits 5 = .ok (.invokevirtual 50, 3) := by decide +kernel
theorem dX0_fits_8 : decode cX0_fits 8 = .ok (.aload_n 0, 1) := by decide +kernel
theorem dX0_fits_9 : decode cX0_fits 9 = .ok (.getfield 23, 3) := by decide +kernel
theorem dX0_fits_12 : decode cX0_fits 12 = .ok (.invokevirtual 56, 3) := by decide +kernel
theorem dX0_fits_15 : decode cX0_fits 15 = .ok (.ireturn, 1) := by decide +kernel
theorem dX0_smallestMisfit_0 : decode cX0_smallestMisfit 0 = .ok (.aload_n 0, 1) := by decide +kernel
theorem dX0_smallestMisfit_1 : decode cX0_smallestMisfit 1 = .ok (.getfield 19, 3) := by decide +kernel
theorem dX0_smallestMisfit_4 : decode cX0_smallestMisfit 4 = .ok (.getfield 59, 3) := by decide +kernel
theorem dX0_smallestMisfit_7 : decode cX0_smallestMisfit 7 = .ok (.istore_n 1, 1) := by decide +kernel
theorem dX0_smallestMisfit_8 : decode cX0_smallestMisfit 8 = .ok (.aload_n 0, 1) := by decide +kernel
theorem dX0_smallestMisfit_9 : decode cX0_smallestMisfit 9 = .ok (.iload_n 1, 1) := by decide +kernel
theorem dX0_smallestMisfit_10 : decode cX0_smallestMisfit 10 = .ok (.invokevirtual 41, 3) := by decide +kernel
theorem dX0_smallestMisfit_13 : decode cX0_smallestMisfit 13 = .ok (.ifCond .eq 5, 3) := by decide +kernel
theorem dX0_smallestMisfit_16 : decode cX0_smallestMisfit 16 = .ok (.iconst 0, 1) := by decide +kernel
theorem dX0_smallestMisfit_17 : decode cX0_smallestMisfit 17 = .ok (.ireturn, 1) := by decide +kernel
theorem dX0_smallestMisfit_18 : decode cX0_smallestMisfit 18 = .ok (.iload_n 1, 1) := by decide +kernel
theorem dX0_smallestMisfit_19 : decode cX0_smallestMisfit 19 = .ok (.istore_n 2, 1) := by decide +kernel
theorem dX0_smallestMisfit_20 : decode cX0_smallestMisfit 20 = .ok (.iconst 1, 1) := by decide +kernel
theorem dX0_smallestMisfit_21 : decode cX0_smallestMisfit 21 = .ok (.istore_n 3, 1) := by decide +kernel
theorem dX0_smallestMisfit_22 : decode cX0_smallestMisfit 22 = .ok (.iload_n 3, 1) := by decide +kernel
theorem dX0_smallestMisfit_23 : decode cX0_smallestMisfit 23 = .ok (.sipush 1024, 3) := by decide +kernel
theorem dX0_smallestMisfit_26 : decode cX0_smallestMisfit 26 = .ok (.if_icmp .ge 38, 3) := by decide +kernel
theorem dX0_smallestMisfit_29 : decode cX0_smallestMisfit 29 = .ok (.iload_n 3, 1) := by decide +kernel
theorem dX0_smallestMisfit_30 : decode cX0_smallestMisfit 30 = .ok (.iload_n 1, 1) := by decide +kernel
theorem dX0_smallestMisfit_31 : decode cX0_smallestMisfit 31 = .ok (.invokestatic 27, 3) := by decide +kernel
theorem dX0_smallestMisfit_34 : decode cX0_smallestMisfit 34 = .ok (.ifCond .eq 24, 3) := by decide +kernel
theorem dX0_smallestMisfit_37 : decode cX0_smallestMisfit 37 = .ok (.iload_n 3, 1) := by decide +kernel
theorem dX0_smallestMisfit_38 : decode cX0_smallestMisfit 38 = .ok (.invokestatic 45, 3) := by decide +kernel
theorem dX0_smallestMisfit_41 : decode cX0_smallestMisfit 41 = .ok (.iload_n 2, 1) := by decide +kernel
theorem dX0_smallestMisfit_42 : decode cX0_smallestMisfit 42 = .ok (.invokestatic 45, 3) := by decide +kernel
theorem dX0_smallestMisfit_45 : decode cX0_smallestMisfit 45 = .ok (.if_icmp .ge 13, 3) := by decide +kernel
theorem dX0_smallestMisfit_48 : decode cX0_smallestMisfit 48 = .ok (.aload_n 0, 1) := by decide +kernel
theorem dX0_smallestMisfit_49 : decode cX0_smallestMisfit 49 = .ok (.iload_n 3, 1) := by decide +kernel
theorem dX0_smallestMisfit_50 : decode cX0_smallestMisfit 50 = .ok (.invokevirtual 41, 3) := by decide +kernel
theorem dX0_smallestMisfit_53 : decode cX0_smallestMisfit 53 = .ok (.ifCond .ne 5, 3) := by decide +kernel
theorem dX0_smallestMisfit_56 : decode cX0_smallestMisfit 56 = .ok (.iload_n 3, 1) := by decide +kernel
theorem dX0_smallestMisfit_57 : decode cX0_smallestMisfit 57 = .ok (.istore_n 2, 1) := by decide +kernel
theorem dX0_smallestMisfit_58 : decode cX0_smallestMisfit 58 = .ok (.iinc 3 1, 3) := by decide +kernel
theorem dX0_smallestMisfit_61 : decode cX0_smallestMisfit 61 = .ok (.goto (-39), 3) := by decide +kernel
theorem dX0_smallestMisfit_64 : decode cX0_smallestMisfit 64 = .ok (.iload_n 2, 1) := by decide +kernel
theorem dX0_smallestMisfit_65 : decode cX0_smallestMisfit 65 = .ok (.ireturn, 1) := by decide +kernel
theorem dX0_chooseLarger_0 : decode cX0_chooseLarger 0 = .ok (.aload_n 0, 1) := by decide +kernel
theorem dX0_chooseLarger_1 : decode cX0_chooseLarger 1 = .ok (.iconst 0, 1) := by decide +kernel
theorem dX0_chooseLarger_2 : decode cX0_chooseLarger 2 = .ok (.putfield 63, 3) := by decide +kernel
theorem dX0_chooseLarger_5 : decode cX0_chooseLarger 5 = .ok (.aload_n 0, 1) := by decide +kernel
theorem dX0_chooseLarger_6 : decode cX0_chooseLarger 6 = .ok (.iconst 0, 1) := by decide +kernel
theorem dX0_chooseLarger_7 : decode cX0_chooseLarger 7 = .ok (.putfield 66, 3) := by decide +kernel
theorem dX0_chooseLarger_10 : decode cX0_chooseLarger 10 = .ok (.iconst 1, 1) := by decide +kernel
theorem dX0_chooseLarger_11 : decode cX0_chooseLarger 11 = .ok (.istore_n 1, 1) := by decide +kernel
theorem dX0_chooseLarger_12 : decode cX0_chooseLarger 12 = .ok (.iload_n 1, 1) := by decide +kernel
theorem dX0_chooseLarger_13 : decode cX0_chooseLarger 13 = .ok (.sipush 1024, 3) := by decide +kernel
theorem dX0_chooseLarger_16 : decode cX0_chooseLarger 16 = .ok (.if_icmp .ge 54, 3) := by decide +kernel
theorem dX0_chooseLarger_19 : decode cX0_chooseLarger 19 = .ok (.iload_n 1, 1) := by decide +kernel
theorem dX0_chooseLarger_20 : decode cX0_chooseLarger 20 = .ok (.aload_n 0, 1) := by decide +kernel
theorem dX0_chooseLarger_21 : decode cX0_chooseLarger 21 = .ok (.getfield 19, 3) := by decide +kernel
theorem dX0_chooseLarger_24 : decode cX0_chooseLarger 24 = .ok (.getfield 59, 3) := by decide +kernel
theorem dX0_chooseLarger_27 : decode cX0_chooseLarger 27 = .ok (.invokestatic 27, 3) := by decide +kernel
theorem dX0_chooseLarger_30 : decode cX0_chooseLarger 30 = .ok (.ifCond .eq 34, 3) := by decide +kernel
theorem dX0_chooseLarger_33 : decode cX0_chooseLarger 33 = .ok (.aload_n 0, 1) := by decide +kernel
theorem dX0_chooseLarger_34 : decode cX0_chooseLarger 34 = .ok (.getfield 19, 3) := by decide +kernel
theorem dX0_chooseLarger_37 : decode cX0_chooseLarger 37 = .ok (.iload_n 1, 1) := by decide +kernel
theorem dX0_chooseLarger_38 : decode cX0_chooseLarger 38 = .ok (.invokevirtual 31, 3) := by decide +kernel
theorem dX0_chooseLarger_41 : decode cX0_chooseLarger 41 = .ok (.istore_n 2, 1) := by decide +kernel
theorem dX0_chooseLarger_42 : decode cX0_chooseLarger 42 = .ok (.iload_n 2, 1) := by decide +kernel
theorem dX0_chooseLarger_43 : decode cX0_chooseLarger 43 = .ok (.iload_n 1, 1) := by decide +kernel
theorem dX0_chooseLarger_44 : decode cX0_chooseLarger 44 = .ok (.aload_n 0, 1) := by decide +kernel
theorem dX0_chooseLarger_45 : decode cX0_chooseLarger 45 = .ok (.getfield 63, 3) := by decide +kernel
theorem dX0_chooseLarger_48 : decode cX0_chooseLarger 48 = .ok (.aload_n 0, 1) := by decide +kernel
theorem dX0_chooseLarger_49 : decode cX0_chooseLarger 49 = .ok (.getfield 66, 3) := by decide +kernel
theorem dX0_chooseLarger_52 : decode cX0_chooseLarger 52 = .ok (.invokestatic 37, 3) := by decide +kernel
theorem dX0_chooseLarger_55 : decode cX0_chooseLarger 55 = .ok (.ifCond .eq 9, 3) := by decide +kernel
theorem dX0_chooseLarger_58 : decode cX0_chooseLarger 58 = .ok (.aload_n 0, 1) := by decide +kernel
theorem dX0_chooseLarger_59 : decode cX0_chooseLarger 59 = .ok (.iload_n 1, 1) := by decide +kernel
theorem dX0_chooseLarger_60 : decode cX0_chooseLarger 60 = .ok (.iload_n 2, 1) := by decide +kernel
theorem dX0_chooseLarger_61 : decode cX0_chooseLarger 61 = .ok (.invokevirtual 69, 3) := by decide +kernel
theorem dX0_chooseLarger_64 : decode cX0_chooseLarger 64 = .ok (.iinc 1 1, 3) := by decide +kernel
theorem dX0_chooseLarger_67 : decode cX0_chooseLarger 67 = .ok (.goto (-55), 3) := by decide +kernel
theorem dX0_chooseLarger_70 : decode cX0_chooseLarger 70 = .ok (.aload_n 0, 1) := by decide +kernel
theorem dX0_chooseLarger_71 : decode cX0_chooseLarger 71 = .ok (.getfield 23, 3) := by decide +kernel
theorem dX0_chooseLarger_74 : decode cX0_chooseLarger 74 = .ok (.aload_n 0, 1) := by decide +kernel
theorem dX0_chooseLarger_75 : decode cX0_chooseLarger 75 = .ok (.getfield 66, 3) := by decide +kernel
theorem dX0_chooseLarger_78 : decode cX0_chooseLarger 78 = .ok (.invokevirtual 50, 3) := by decide +kernel
theorem dX0_chooseLarger_81 : decode cX0_chooseLarger 81 = .ok (.iconst 0, 1) := by decide +kernel
theorem dX0_chooseLarger_82 : decode cX0_chooseLarger 82 = .ok (.istore_n 1, 1) := by decide +kernel
theorem dX0_chooseLarger_83 : decode cX0_chooseLarger 83 = .ok (.iload_n 1, 1) := by decide +kernel
theorem dX0_chooseLarger_84 : decode cX0_chooseLarger 84 = .ok (.iconst 3, 1) := by decide +kernel
theorem dX0_chooseLarger_85 : decode cX0_chooseLarger 85 = .ok (.if_icmp .ge 20, 3) := by decide +kernel
theorem dX0_chooseLarger_88 : decode cX0_chooseLarger 88 = .ok (.aload_n 0, 1) := by decide +kernel
theorem dX0_chooseLarger_89 : decode cX0_chooseLarger 89 = .ok (.getfield 9, 3) := by decide +kernel
theorem dX0_chooseLarger_92 : decode cX0_chooseLarger 92 = .ok (.iload_n 1, 1) := by decide +kernel
theorem dX0_chooseLarger_93 : decode cX0_chooseLarger 93 = .ok (.aload_n 0, 1) := by decide +kernel
theorem dX0_chooseLarger_94 : decode cX0_chooseLarger 94 = .ok (.iload_n 1, 1) := by decide +kernel
theorem dX0_chooseLarger_95 : decode cX0_chooseLarger 95 = .ok (.invokevirtual 73, 3) := by decide +kernel
theorem dX0_chooseLarger_98 : decode cX0_chooseLarger 98 = .ok (.iastore, 1) := by decide +kernel
theorem dX0_chooseLarger_99 : decode cX0_chooseLarger 99 = .ok (.iinc 1 1, 3) := by decide +kernel
theorem dX0_chooseLarger_102 : decode cX0_chooseLarger 102 = .ok (.goto (-19), 3) := by decide +kernel
theorem dX0_chooseLarger_105 : decode cX0_chooseLarger 105 = .ok (.return_, 1) := by decide +kernel
theorem dX0_tryLarger_0 : decode cX0_tryLarger 0 = .ok (.aload_n 0, 1) := by decide +kernel
theorem dX0_tryLarger_1 : decode cX0_tryLarger 1 = .ok (.getfield 23, 3) := by decide +kernel
theorem dX0_tryLarger_4 : decode cX0_tryLarger 4 = .ok (.iload_n 1, 1) := by decide +kernel
theorem dX0_tryLarger_5 : decode cX0_tryLarger 5 = .ok (.invokevirtual 50, 3) := by decide +kernel
theorem dX0_tryLarger_8 : decode cX0_tryLarger 8 = .ok (.iload_n 2, 1) := by decide +kernel
theorem dX0_tryLarger_9 : decode cX0_tryLarger 9 = .ok (.istore_n 3, 1) := by decide +kernel
theorem dX0_tryLarger_10 : decode cX0_tryLarger 10 = .ok (.iconst 0, 1) := by decide +kernel
theorem dX0_tryLarger_11 : decode cX0_tryLarger 11 = .ok (.istore 4, 2) := by decide +kernel
theorem dX0_tryLarger_13 : decode cX0_tryLarger 13 = .ok (.iload 4, 2) := by decide +kernel
theorem dX0_tryLarger_15 : decode cX0_tryLarger 15 = .ok (.iconst 3, 1) := by decide +kernel
theorem dX0_tryLarger_16 : decode cX0_tryLarger 16 = .ok (.if_icmp .ge 29, 3) := by decide +kernel
theorem dX0_tryLarger_19 : decode cX0_tryLarger 19 = .ok (.iload_n 3, 1) := by decide +kernel
theorem dX0_tryLarger_20 : decode cX0_tryLarger 20 = .ok (.aload_n 0, 1) := by decide +kernel
theorem dX0_tryLarger_21 : decode cX0_tryLarger 21 = .ok (.iload 4, 2) := by decide +kernel
theorem dX0_tryLarger_23 : decode cX0_tryLarger 23 = .ok (.invokevirtual 73, 3) := by decide +kernel
theorem dX0_tryLarger_26 : decode cX0_tryLarger 26 = .ok (.aload_n 0, 1) := by decide +kernel
theorem dX0_tryLarger_27 : decode cX0_tryLarger 27 = .ok (.getfield 15, 3) := by decide +kernel
theorem dX0_tryLarger_30 : decode cX0_tryLarger 30 = .ok (.getfield 76, 3) := by decide +kernel
theorem dX0_tryLarger_33 : decode cX0_tryLarger 33 = .ok (.iload 4, 2) := by decide +kernel
theorem dX0_tryLarger_35 : decode cX0_tryLarger 35 = .ok (.iaload, 1) := by decide +kernel
theorem dX0_tryLarger_36 : decode cX0_tryLarger 36 = .ok (.imul, 1) := by decide +kernel
theorem dX0_tryLarger_37 : decode cX0_tryLarger 37 = .ok (.isub, 1) := by decide +kernel
theorem dX0_tryLarger_38 : decode cX0_tryLarger 38 = .ok (.istore_n 3, 1) := by decide +kernel
theorem dX0_tryLarger_39 : decode cX0_tryLarger 39 = .ok (.iinc 4 1, 3) := by decide +kernel
theorem dX0_tryLarger_42 : decode cX0_tryLarger 42 = .ok (.goto (-29), 3) := by decide +kernel
theorem dX0_tryLarger_45 : decode cX0_tryLarger 45 = .ok (.iload_n 3, 1) := by decide +kernel
theorem dX0_tryLarger_46 : decode cX0_tryLarger 46 = .ok (.iload_n 1, 1) := by decide +kernel
theorem dX0_tryLarger_47 : decode cX0_tryLarger 47 = .ok (.aload_n 0, 1) := by decide +kernel
theorem dX0_tryLarger_48 : decode cX0_tryLarger 48 = .ok (.getfield 63, 3) := by decide +kernel
theorem dX0_tryLarger_51 : decode cX0_tryLarger 51 = .ok (.aload_n 0, 1) := by decide +kernel
theorem dX0_tryLarger_52 : decode cX0_tryLarger 52 = .ok (.getfield 66, 3) := by decide +kernel
theorem dX0_tryLarger_55 : decode cX0_tryLarger 55 = .ok (.invokestatic 37, 3) := by decide +kernel
theorem dX0_tryLarger_58 : decode cX0_tryLarger 58 = .ok (.ifCond .eq 23, 3) := by decide +kernel
theorem dX0_tryLarger_61 : decode cX0_tryLarger 61 = .ok (.aload_n 0, 1) := by decide +kernel
theorem dX0_tryLarger_62 : decode cX0_tryLarger 62 = .ok (.getfield 23, 3) := by decide +kernel
theorem dX0_tryLarger_65 : decode cX0_tryLarger 65 = .ok (.invokevirtual 81, 3) := by decide +kernel
theorem dX0_tryLarger_68 : decode cX0_tryLarger 68 = .ok (.ifCond .eq 13, 3) := by decide +kernel
theorem dX0_tryLarger_71 : decode cX0_tryLarger 71 = .ok (.aload_n 0, 1) := by decide +kernel
theorem dX0_tryLarger_72 : decode cX0_tryLarger 72 = .ok (.iload_n 3, 1) := by decide +kernel
theorem dX0_tryLarger_73 : decode cX0_tryLarger 73 = .ok (.putfield 63, 3) := by decide +kernel
theorem dX0_tryLarger_76 : decode cX0_tryLarger 76 = .ok (.aload_n 0, 1) := by decide +kernel
theorem dX0_tryLarger_77 : decode cX0_tryLarger 77 = .ok (.iload_n 1, 1) := by decide +kernel
theorem dX0_tryLarger_78 : decode cX0_tryLarger 78 = .ok (.putfield 66, 3) := by decide +kernel
theorem dX0_tryLarger_81 : decode cX0_tryLarger 81 = .ok (.return_, 1) := by decide +kernel
theorem dX0_moreOf_0 : decode cX0_moreOf 0 = .ok (.iconst 0, 1) := by decide +kernel
theorem dX0_moreOf_1 : decode cX0_moreOf 1 = .ok (.aload_n 0, 1) := by decide +kernel
theorem dX0_moreOf_2 : decode cX0_moreOf 2 = .ok (.getfield 23, 3) := by decide +kernel
theorem dX0_moreOf_5 : decode cX0_moreOf 5 = .ok (.iload_n 1, 1) := by decide +kernel
theorem dX0_moreOf_6 : decode cX0_moreOf 6 = .ok (.invokevirtual 84, 3) := by decide +kernel
theorem dX0_moreOf_9 : decode cX0_moreOf 9 = .ok (.aload_n 0, 1) := by decide +kernel
theorem dX0_moreOf_10 : decode cX0_moreOf 10 = .ok (.getfield 15, 3) := by decide +kernel
theorem dX0_moreOf_13 : decode cX0_moreOf 13 = .ok (.getfield 87, 3) := by decide +kernel
theorem dX0_moreOf_16 : decode cX0_moreOf 16 = .ok (.iload_n 1, 1) := by decide +kernel
theorem dX0_moreOf_17 : decode cX0_moreOf 17 = .ok (.iaload, 1) := by decide +kernel
theorem dX0_moreOf_18 : decode cX0_moreOf 18 = .ok (.isub, 1) := by decide +kernel
theorem dX0_moreOf_19 : decode cX0_moreOf 19 = .ok (.invokestatic 90, 3) := by decide +kernel
theorem dX0_moreOf_22 : decode cX0_moreOf 22 = .ok (.ireturn, 1) := by decide +kernel
theorem dX0_shareOut_0 : decode cX0_shareOut 0 = .ok (.iload_n 1, 1) := by decide +kernel
theorem dX0_shareOut_1 : decode cX0_shareOut 1 = .ok (.invokestatic 45, 3) := by decide +kernel
theorem dX0_shareOut_4 : decode cX0_shareOut 4 = .ok (.istore_n 3, 1) := by decide +kernel
theorem dX0_shareOut_5 : decode cX0_shareOut 5 = .ok (.lconst 0, 1) := by decide +kernel
theorem dX0_shareOut_6 : decode cX0_shareOut 6 = .ok (.lstore 4, 2) := by decide +kernel
theorem dX0_shareOut_8 : decode cX0_shareOut 8 = .ok (.iconst 0, 1) := by decide +kernel
theorem dX0_shareOut_9 : decode cX0_shareOut 9 = .ok (.istore 6, 2) := by decide +kernel
theorem dX0_shareOut_11 : decode cX0_shareOut 11 = .ok (.iload 6, 2) := by decide +kernel
theorem dX0_shareOut_13 : decode cX0_shareOut 13 = .ok (.sipush 1024, 3) := by decide +kernel
theorem dX0_shareOut_16 : decode cX0_shareOut 16 = .ok (.if_icmp .ge 81, 3) := by decide +kernel
theorem dX0_shareOut_19 : decode cX0_shareOut 19 = .ok (.iload 6, 2) := by decide +kernel
theorem dX0_shareOut_21 : decode cX0_shareOut 21 = .ok (.iload_n 1, 1) := by decide +kernel
theorem dX0_shareOut_22 : decode cX0_shareOut 22 = .ok (.invokestatic 27, 3) := by decide +kernel
theorem dX0_shareOut_25 : decode cX0_shareOut 25 = .ok (.ifCond .eq 66, 3) := by decide +kernel
theorem dX0_shareOut_28 : decode cX0_shareOut 28 = .ok (.iload 6, 2) := by decide +kernel
theorem dX0_shareOut_30 : decode cX0_shareOut 30 = .ok (.iconst 1, 1) := by decide +kernel
theorem dX0_shareOut_31 : decode cX0_shareOut 31 = .ok (.iload_n 2, 1) := by decide +kernel
theorem dX0_shareOut_32 : decode cX0_shareOut 32 = .ok (.ishl, 1) := by decide +kernel
theorem dX0_shareOut_33 : decode cX0_shareOut 33 = .ok (.iconst (-1), 1) := by decide +kernel
theorem dX0_shareOut_34 : decode cX0_shareOut 34 = .ok (.ixor, 1) := by decide +kernel
theorem dX0_shareOut_35 : decode cX0_shareOut 35 = .ok (.iand, 1) := by decide +kernel
theorem dX0_shareOut_36 : decode cX0_shareOut 36 = .ok (.invokestatic 45, 3) := by decide +kernel
theorem dX0_shareOut_39 : decode cX0_shareOut 39 = .ok (.istore 7, 2) := by decide +kernel
theorem dX0_shareOut_41 : decode cX0_shareOut 41 = .ok (.iload 7, 2) := by decide +kernel
theorem dX0_shareOut_43 : decode cX0_shareOut 43 = .ok (.invokestatic 96, 3) := by decide +kernel
theorem dX0_shareOut_46 : decode cX0_shareOut 46 = .ok (.iload_n 3, 1) := by decide +kernel
theorem dX0_shareOut_47 : decode cX0_shareOut 47 = .ok (.iconst 1, 1) := by decide +kernel
theorem dX0_shareOut_48 : decode cX0_shareOut 48 = .ok (.isub, 1) := by decide +kernel
theorem dX0_shareOut_49 : decode cX0_shareOut 49 = .ok (.iload 7, 2) := by decide +kernel
theorem dX0_shareOut_51 : decode cX0_shareOut 51 = .ok (.isub, 1) := by decide +kernel
theorem dX0_shareOut_52 : decode cX0_shareOut 52 = .ok (.invokestatic 96, 3) := by decide +kernel
theorem dX0_shareOut_55 : decode cX0_shareOut 55 = .ok (.lmul, 1) := by decide +kernel
theorem dX0_shareOut_56 : decode cX0_shareOut 56 = .ok (.lstore 8, 2) := by decide +kernel
theorem dX0_shareOut_58 : decode cX0_shareOut 58 = .ok (.lload 8, 2) := by decide +kernel
theorem dX0_shareOut_60 : decode cX0_shareOut 60 = .ok (.aload_n 0, 1) := by decide +kernel
theorem dX0_shareOut_61 : decode cX0_shareOut 61 = .ok (.iload 6, 2) := by decide +kernel
theorem dX0_shareOut_63 : decode cX0_shareOut 63 = .ok (.invokevirtual 100, 3) := by decide +kernel
theorem dX0_shareOut_66 : decode cX0_shareOut 66 = .ok (.lmul, 1) := by decide +kernel
theorem dX0_shareOut_67 : decode cX0_shareOut 67 = .ok (.lstore 10, 2) := by decide +kernel
theorem dX0_shareOut_69 : decode cX0_shareOut 69 = .ok (.lload 4, 2) := by decide +kernel
theorem dX0_shareOut_71 : decode cX0_shareOut 71 = .ok (.iload 6, 2) := by decide +kernel
theorem dX0_shareOut_73 : decode cX0_shareOut 73 = .ok (.iload_n 2, 1) := by decide +kernel
theorem dX0_shareOut_74 : decode cX0_shareOut 74 = .ok (.invokestatic 103, 3) := by decide +kernel
theorem dX0_shareOut_77 : decode cX0_shareOut 77 = .ok (.ifCond .eq 8, 3) := by decide +kernel
theorem dX0_shareOut_80 : decode cX0_shareOut 80 = .ok (.lload 10, 2) := by decide +kernel
theorem dX0_shareOut_82 : decode cX0_shareOut 82 = .ok (.goto 6, 3) := by decide +kernel
theorem dX0_shareOut_85 : decode cX0_shareOut 85 = .ok (.lload 10, 2) := by decide +kernel
theorem dX0_shareOut_87 : decode cX0_shareOut 87 = .ok (.lneg, 1) := by decide +kernel
theorem dX0_shareOut_88 : decode cX0_shareOut 88 = .ok (.ladd, 1) := by decide +kernel
theorem dX0_shareOut_89 : decode cX0_shareOut 89 = .ok (.lstore 4, 2) := by decide +kernel
theorem dX0_shareOut_91 : decode cX0_shareOut 91 = .ok (.iinc 6 1, 3) := by decide +kernel
theorem dX0_shareOut_94 : decode cX0_shareOut 94 = .ok (.goto (-83), 3) := by decide +kernel
theorem dX0_shareOut_97 : decode cX0_shareOut 97 = .ok (.aload_n 0, 1) := by decide +kernel
theorem dX0_shareOut_98 : decode cX0_shareOut 98 = .ok (.lload 4, 2) := by decide +kernel
theorem dX0_shareOut_100 : decode cX0_shareOut 100 = .ok (.iload_n 3, 1) := by decide +kernel
theorem dX0_shareOut_101 : decode cX0_shareOut 101 = .ok (.invokestatic 96, 3) := by decide +kernel
theorem dX0_shareOut_104 : decode cX0_shareOut 104 = .ok (.invokevirtual 106, 3) := by decide +kernel
theorem dX0_shareOut_107 : decode cX0_shareOut 107 = .ok (.return_, 1) := by decide +kernel
theorem dX0_plantCostOf_0 : decode cX0_plantCostOf 0 = .ok (.aload_n 0, 1) := by decide +kernel
theorem dX0_plantCostOf_1 : decode cX0_plantCostOf 1 = .ok (.getfield 23, 3) := by decide +kernel
theorem dX0_plantCostOf_4 : decode cX0_plantCostOf 4 = .ok (.iload_n 1, 1) := by decide +kernel
theorem dX0_plantCostOf_5 : decode cX0_plantCostOf 5 = .ok (.invokevirtual 50, 3) := by decide +kernel
theorem dX0_plantCostOf_8 : decode cX0_plantCostOf 8 = .ok (.lconst 0, 1) := by decide +kernel
theorem dX0_plantCostOf_9 : decode cX0_plantCostOf 9 = .ok (.lstore_n 2, 1) := by decide +kernel
theorem dX0_plantCostOf_10 : decode cX0_plantCostOf 10 = .ok (.iconst 0, 1) := by decide +kernel
theorem dX0_plantCostOf_11 : decode cX0_plantCostOf 11 = .ok (.istore 4, 2) := by decide +kernel
theorem dX0_plantCostOf_13 : decode cX0_plantCostOf 13 = .ok (.iload 4, 2) := by decide +kernel
theorem dX0_plantCostOf_15 : decode cX0_plantCostOf 15 = .ok (.iconst 3, 1) := by decide +kernel
theorem dX0_plantCostOf_16 : decode cX0_plantCostOf 16 = .ok (.if_icmp .ge 34, 3) := by decide +kernel
theorem dX0_plantCostOf_19 : decode cX0_plantCostOf 19 = .ok (.lload_n 2, 1) := by decide +kernel
theorem dX0_plantCostOf_20 : decode cX0_plantCostOf 20 = .ok (.aload_n 0, 1) := by decide +kernel
theorem dX0_plantCostOf_21 : decode cX0_plantCostOf 21 = .ok (.getfield 23, 3) := by decide +kernel
theorem dX0_plantCostOf_24 : decode cX0_plantCostOf 24 = .ok (.iload 4, 2) := by decide +kernel
theorem dX0_plantCostOf_26 : decode cX0_plantCostOf 26 = .ok (.invokevirtual 84, 3) := by decide +kernel
theorem dX0_plantCostOf_29 : decode cX0_plantCostOf 29 = .ok (.i2l, 1) := by decide +kernel
theorem dX0_plantCostOf_30 : decode cX0_plantCostOf 30 = .ok (.aload_n 0, 1) := by decide +kernel
theorem dX0_plantCostOf_31 : decode cX0_plantCostOf 31 = .ok (.getfield 15, 3) := by decide +kernel
theorem dX0_plantCostOf_34 : decode cX0_plantCostOf 34 = .ok (.getfield 76, 3) := by decide +kernel
theorem dX0_plantCostOf_37 : decode cX0_plantCostOf 37 = .ok (.iload 4, 2) := by decide +kernel
theorem dX0_plantCostOf_39 : decode cX0_plantCostOf 39 = .ok (.iaload, 1) := by decide +kernel
theorem dX0_plantCostOf_40 : decode cX0_plantCostOf 40 = .ok (.i2l, 1) := by decide +kernel
theorem dX0_plantCostOf_41 : decode cX0_plantCostOf 41 = .ok (.lmul, 1) := by decide +kernel
theorem dX0_plantCostOf_42 : decode cX0_plantCostOf 42 = .ok (.ladd, 1) := by decide +kernel
theorem dX0_plantCostOf_43 : decode cX0_plantCostOf 43 = .ok (.lstore_n 2, 1) := by decide +kernel
theorem dX0_plantCostOf_44 : decode cX0_plantCostOf 44 = .ok (.iinc 4 1, 3) := by decide +kernel
theorem dX0_plantCostOf_47 : decode cX0_plantCostOf 47 = .ok (.goto (-34), 3) := by decide +kernel
theorem dX0_plantCostOf_50 : decode cX0_plantCostOf 50 = .ok (.lload_n 2, 1) := by decide +kernel
theorem dX0_plantCostOf_51 : decode cX0_plantCostOf 51 = .ok (.lreturn, 1) := by decide +kernel
theorem dX0_factorial_0 : decode cX0_factorial 0 = .ok (.lconst 1, 1) := by decide +kernel
theorem dX0_factorial_1 : decode cX0_factorial 1 = .ok (.lstore_n 1, 1) := by decide +kernel
theorem dX0_factorial_2 : decode cX0_factorial 2 = .ok (.iconst 2, 1) := by decide +kernel
theorem dX0_factorial_3 : decode cX0_factorial 3 = .ok (.istore_n 3, 1) := by decide +kernel
theorem dX0_factorial_4 : decode cX0_factorial 4 = .ok (.iload_n 3, 1) := by decide +kernel
theorem dX0_factorial_5 : decode cX0_factorial 5 = .ok (.iload_n 0, 1) := by decide +kernel
theorem dX0_factorial_6 : decode cX0_factorial 6 = .ok (.if_icmp .gt 14, 3) := by decide +kernel
theorem dX0_factorial_9 : decode cX0_factorial 9 = .ok (.lload_n 1, 1) := by decide +kernel
theorem dX0_factorial_10 : decode cX0_factorial 10 = .ok (.iload_n 3, 1) := by decide +kernel
theorem dX0_factorial_11 : decode cX0_factorial 11 = .ok (.i2l, 1) := by decide +kernel
theorem dX0_factorial_12 : decode cX0_factorial 12 = .ok (.lmul, 1) := by decide +kernel
theorem dX0_factorial_13 : decode cX0_factorial 13 = .ok (.lstore_n 1, 1) := by decide +kernel
theorem dX0_factorial_14 : decode cX0_factorial 14 = .ok (.iinc 3 1, 3) := by decide +kernel
theorem dX0_factorial_17 : decode cX0_factorial 17 = .ok (.goto (-13), 3) := by decide +kernel
theorem dX0_factorial_20 : decode cX0_factorial 20 = .ok (.lload_n 1, 1) := by decide +kernel
theorem dX0_factorial_21 : decode cX0_factorial 21 = .ok (.lreturn, 1) := by decide +kernel
theorem dX0_reduce_0 : decode cX0_reduce 0 = .ok (.lload_n 3, 1) := by decide +kernel
theorem dX0_reduce_1 : decode cX0_reduce 1 = .ok (.lstore 5, 2) := by decide +kernel
theorem dX0_reduce_3 : decode cX0_reduce 3 = .ok (.lload_n 1, 1) := by decide +kernel
theorem dX0_reduce_4 : decode cX0_reduce 4 = .ok (.lstore 7, 2) := by decide +kernel
theorem dX0_reduce_6 : decode cX0_reduce 6 = .ok (.iconst 0, 1) := by decide +kernel
theorem dX0_reduce_7 : decode cX0_reduce 7 = .ok (.istore 9, 2) := by decide +kernel
theorem dX0_reduce_9 : decode cX0_reduce 9 = .ok (.iload 9, 2) := by decide +kernel
theorem dX0_reduce_11 : decode cX0_reduce 11 = .ok (.bipush 100, 2) := by decide +kernel
theorem dX0_reduce_13 : decode cX0_reduce 13 = .ok (.if_icmp .ge 31, 3) := by decide +kernel
theorem dX0_reduce_16 : decode cX0_reduce 16 = .ok (.lload 7, 2) := by decide +kernel
theorem dX0_reduce_18 : decode cX0_reduce 18 = .ok (.lconst 0, 1) := by decide +kernel
theorem dX0_reduce_19 : decode cX0_reduce 19 = .ok (.lcmp, 1) := by decide +kernel
theorem dX0_reduce_20 : decode cX0_reduce 20 = .ok (.ifCond .eq 24, 3) := by decide +kernel
theorem dX0_reduce_23 : decode cX0_reduce 23 = .ok (.lload 5, 2) := by decide +kernel
theorem dX0_reduce_25 : decode cX0_reduce 25 = .ok (.lload 7, 2) := by decide +kernel
theorem dX0_reduce_27 : decode cX0_reduce 27 = .ok (.lrem, 1) := by decide +kernel
theorem dX0_reduce_28 : decode cX0_reduce 28 = .ok (.lstore 10, 2) := by decide +kernel
theorem dX0_reduce_30 : decode cX0_reduce 30 = .ok (.lload 7, 2) := by decide +kernel
theorem dX0_reduce_32 : decode cX0_reduce 32 = .ok (.lstore 5, 2) := by decide +kernel
theorem dX0_reduce_34 : decode cX0_reduce 34 = .ok (.lload 10, 2) := by decide +kernel
theorem dX0_reduce_36 : decode cX0_reduce 36 = .ok (.lstore 7, 2) := by decide +kernel
theorem dX0_reduce_38 : decode cX0_reduce 38 = .ok (.iinc 9 1, 3) := by decide +kernel
theorem dX0_reduce_41 : decode cX0_reduce 41 = .ok (.goto (-32), 3) := by decide +kernel
theorem dX0_reduce_44 : decode cX0_reduce 44 = .ok (.aload_n 0, 1) := by decide +kernel
theorem dX0_reduce_45 : decode cX0_reduce 45 = .ok (.lload_n 1, 1) := by decide +kernel
theorem dX0_reduce_46 : decode cX0_reduce 46 = .ok (.putfield 110, 3) := by decide +kernel
theorem dX0_reduce_49 : decode cX0_reduce 49 = .ok (.aload_n 0, 1) := by decide +kernel
theorem dX0_reduce_50 : decode cX0_reduce 50 = .ok (.lload_n 3, 1) := by decide +kernel
theorem dX0_reduce_51 : decode cX0_reduce 51 = .ok (.putfield 114, 3) := by decide +kernel
theorem dX0_reduce_54 : decode cX0_reduce 54 = .ok (.lload 5, 2) := by decide +kernel
theorem dX0_reduce_56 : decode cX0_reduce 56 = .ok (.lconst 1, 1) := by decide +kernel
theorem dX0_reduce_57 : decode cX0_reduce 57 = .ok (.lcmp, 1) := by decide +kernel
theorem dX0_reduce_58 : decode cX0_reduce 58 = .ok (.ifCond .le 19, 3) := by decide +kernel
theorem dX0_reduce_61 : decode cX0_reduce 61 = .ok (.aload_n 0, 1) := by decide +kernel
theorem dX0_reduce_62 : decode cX0_reduce 62 = .ok (.lload_n 1, 1) := by decide +kernel
theorem dX0_reduce_63 : decode cX0_reduce 63 = .ok (.lload 5, 2) := by decide +kernel
theorem dX0_reduce_65 : decode cX0_reduce 65 = .ok (.ldiv, 1) := by decide +kernel
theorem dX0_reduce_66 : decode cX0_reduce 66 = .ok (.putfield 110, 3) := by decide +kernel
theorem dX0_reduce_69 : decode cX0_reduce 69 = .ok (.aload_n 0, 1) := by decide +kernel
theorem dX0_reduce_70 : decode cX0_reduce 70 = .ok (.lload_n 3, 1) := by decide +kernel
theorem dX0_reduce_71 : decode cX0_reduce 71 = .ok (.lload 5, 2) := by decide +kernel
theorem dX0_reduce_73 : decode cX0_reduce 73 = .ok (.ldiv, 1) := by decide +kernel
theorem dX0_reduce_74 : decode cX0_reduce 74 = .ok (.putfield 114, 3) := by decide +kernel
theorem dX0_reduce_77 : decode cX0_reduce 77 = .ok (.return_, 1) := by decide +kernel
theorem dX1_init_0 : decode cX1_init 0 = .ok (.aload_n 0, 1) := by decide +kernel
theorem dX1_init_1 : decode cX1_init 1 = .ok (.invokespecial 3, 3) := by decide +kernel
theorem dX1_init_4 : decode cX1_init 4 = .ok (.aload_n 0, 1) := by decide +kernel
theorem dX1_init_5 : decode cX1_init 5 = .ok (.bipush 12, 2) := by decide +kernel
theorem dX1_init_7 : decode cX1_init 7 = .ok (.bipush 72, 2) := by decide +kernel
theorem dX1_init_9 : decode cX1_init 9 = .ok (.multianewarray 9 2, 4) := by decide +kernel
theorem dX1_init_13 : decode cX1_init 13 = .ok (.putfield 11, 3) := by decide +kernel
theorem dX1_init_16 : decode cX1_init 16 = .ok (.aload_n 0, 1) := by decide +kernel
theorem dX1_init_17 : decode cX1_init 17 = .ok (.bipush 72, 2) := by decide +kernel
theorem dX1_init_19 : decode cX1_init 19 = .ok (.newarray .int, 2) := by decide +kernel
theorem dX1_init_21 : decode cX1_init 21 = .ok (.putfield 16, 3) := by decide +kernel
theorem dX1_init_24 : decode cX1_init 24 = .ok (.aload_n 0, 1) := by decide +kernel
theorem dX1_init_25 : decode cX1_init 25 = .ok (.bipush 24, 2) := by decide +kernel
theorem dX1_init_27 : decode cX1_init 27 = .ok (.newarray .int, 2) := by decide +kernel
theorem dX1_init_29 : decode cX1_init 29 = .ok (.putfield 20, 3) := by decide +kernel
theorem dX1_init_32 : decode cX1_init 32 = .ok (.aload_n 0, 1) := by decide +kernel
theorem dX1_init_33 : decode cX1_init 33 = .ok (.iconst 3, 1) := by decide +kernel
theorem dX1_init_34 : decode cX1_init 34 = .ok (.newarray .int, 2) := by decide +kernel
theorem dX1_init_36 : decode cX1_init 36 = .ok (.putfield 23, 3) := by decide +kernel
theorem dX1_init_39 : decode cX1_init 39 = .ok (.aload_n 0, 1) := by decide +kernel
theorem dX1_init_40 : decode cX1_init 40 = .ok (.iconst 3, 1) := by decide +kernel
theorem dX1_init_41 : decode cX1_init 41 = .ok (.newarray .int, 2) := by decide +kernel
theorem dX1_init_43 : decode cX1_init 43 = .ok (.putfield 26, 3) := by decide +kernel
theorem dX1_init_46 : decode cX1_init 46 = .ok (.aload_n 0, 1) := by decide +kernel
theorem dX1_init_47 : decode cX1_init 47 = .ok (.aload_n 1, 1) := by decide +kernel
theorem dX1_init_48 : decode cX1_init 48 = .ok (.putfield 29, 3) := by decide +kernel
theorem dX1_init_51 : decode cX1_init 51 = .ok (.return_, 1) := by decide +kernel
theorem dX1_isTold_0 : decode cX1_isTold 0 = .ok (.aload_n 0, 1) := by decide +kernel
theorem dX1_isTold_1 : decode cX1_isTold 1 = .ok (.getfield 33, 3) := by decide +kernel
theorem dX1_isTold_4 : decode cX1_isTold 4 = .ok (.iload_n 1, 1) := by decide +kernel
theorem dX1_isTold_5 : decode cX1_isTold 5 = .ok (.invokestatic 37, 3) := by decide +kernel
theorem dX1_isTold_8 : decode cX1_isTold 8 = .ok (.ireturn, 1) := by decide +kernel
theorem dX1_rowOf_0 : decode cX1_rowOf 0 = .ok (.aload_n 0, 1) := by decide +kernel
theorem dX1_rowOf_1 : decode cX1_rowOf 1 = .ok (.getfield 11, 3) := by decide +kernel
theorem dX1_rowOf_4 : decode cX1_rowOf 4 = .ok (.iload_n 1, 1) := by decide +kernel
theorem dX1_rowOf_5 : decode cX1_rowOf 5 = .ok (.aaload, 1) := by decide +kernel
theorem dX1_rowOf_6 : decode cX1_rowOf 6 = .ok (.areturn, 1) := by decide +kernel
theorem dX1_tell_0 : decode cX1_tell 0 = .ok (.aload_n 0, 1) := by decide +kernel
theorem dX1_tell_1 : decode cX1_tell 1 = .ok (.iload_n 2, 1) := by decide +kernel
theorem dX1_tell_2 : decode cX1_tell 2 = .ok (.invokevirtual 41, 3) := by decide +kernel
theorem dX1_tell_5 : decode cX1_tell 5 = .ok (.istore_n 3, 1) := by decide +kernel
theorem dX1_tell_6 : decode cX1_tell 6 = .ok (.iload_n 3, 1) := by decide +kernel
theorem dX1_tell_7 : decode cX1_tell 7 = .ok (.ifCond .le 32, 3) := by decide +kernel
theorem dX1_tell_10 : decode cX1_tell 10 = .ok (.aload_n 0, 1) := by decide +kernel
theorem dX1_tell_11 : decode cX1_tell 11 = .ok (.getfield 16, 3) := by decide +kernel
theorem dX1_tell_14 : decode cX1_tell 14 = .ok (.iconst 0, 1) := by decide +kernel
theorem dX1_tell_15 : decode cX1_tell 15 = .ok (.aload_n 0, 1) := by decide +kernel
theorem dX1_tell_16 : decode cX1_tell 16 = .ok (.getfield 11, 3) := by decide +kernel
theorem dX1_tell_19 : decode cX1_tell 19 = .ok (.iload_n 1, 1) := by decide +kernel
theorem dX1_tell_20 : decode cX1_tell 20 = .ok (.aaload, 1) := by decide +kernel
theorem dX1_tell_21 : decode cX1_tell 21 = .ok (.iconst 0, 1) := by decide +kernel
theorem dX1_tell_22 : decode cX1_tell 22 = .ok (.bipush 72, 2) := by decide +kernel
theorem dX1_tell_24 : decode cX1_tell 24 = .ok (.invokestatic 45, 3) := by decide +kernel
theorem dX1_tell_27 : decode cX1_tell 27 = .ok (.aload_n 0, 1) := by decide +kernel
theorem dX1_tell_28 : decode cX1_tell 28 = .ok (.dup, 1) := by decide +kernel
theorem dX1_tell_29 : decode cX1_tell 29 = .ok (.getfield 33, 3) := by decide +kernel
theorem dX1_tell_32 : decode cX1_tell 32 = .ok (.iconst 1, 1) := by decide +kernel
theorem dX1_tell_33 : decode cX1_tell 33 = .ok (.iload_n 1, 1) := by decide +kernel
theorem dX1_tell_34 : decode cX1_tell 34 = .ok (.ishl, 1) := by decide +kernel
theorem dX1_tell_35 : decode cX1_tell 35 = .ok (.ior, 1) := by decide +kernel
theorem dX1_tell_36 : decode cX1_tell 36 = .ok (.putfield 33, 3) := by decide +kernel
theorem dX1_tell_39 : decode cX1_tell 39 = .ok (.iload_n 3, 1) := by decide +kernel
theorem dX1_tell_40 : decode cX1_tell 40 = .ok (.ireturn, 1) := by decide +kernel
theorem dX1_readParts_0 : decode cX1_readParts 0 = .ok (.aload_n 0, 1) := by decide +kernel
theorem dX1_readParts_1 : decode cX1_readParts 1 = .ok (.getfield 29, 3) := by decide +kernel
theorem dX1_readParts_4 : decode cX1_readParts 4 = .ok (.iload_n 1, 1) := by decide +kernel
theorem dX1_readParts_5 : decode cX1_readParts 5 = .ok (.invokevirtual 51, 3) := by decide +kernel
theorem dX1_readParts_8 : decode cX1_readParts 8 = .ok (.aload_n 0, 1) := by decide +kernel
theorem dX1_readParts_9 : decode cX1_readParts 9 = .ok (.getfield 16, 3) := by decide +kernel
theorem dX1_readParts_12 : decode cX1_readParts 12 = .ok (.iconst 0, 1) := by decide +kernel
theorem dX1_readParts_13 : decode cX1_readParts 13 = .ok (.invokestatic 57, 3) := by decide +kernel
theorem dX1_readParts_16 : decode cX1_readParts 16 = .ok (.iconst 0, 1) := by decide +kernel
theorem dX1_readParts_17 : decode cX1_readParts 17 = .ok (.istore_n 2, 1) := by decide +kernel
theorem dX1_readParts_18 : decode cX1_readParts 18 = .ok (.iload_n 2, 1) := by decide +kernel
theorem dX1_readParts_19 : decode cX1_readParts 19 = .ok (.bipush 14, 2) := by decide +kernel
theorem dX1_readParts_21 : decode cX1_readParts 21 = .ok (.if_icmp .gt 59, 3) := by decide +kernel
theorem dX1_readParts_24 : decode cX1_readParts 24 = .ok (.aload_n 0, 1) := by decide +kernel
theorem dX1_readParts_25 : decode cX1_readParts 25 = .ok (.iload_n 2, 1) := by decide +kernel
theorem dX1_readParts_26 : decode cX1_readParts 26 = .ok (.invokevirtual 63, 3) := by decide +kernel
theorem dX1_readParts_29 : decode cX1_readParts 29 = .ok (.ifCond .ne 11, 3) := by decide +kernel
theorem dX1_readParts_32 : decode cX1_readParts 32 = .ok (.aload_n 0, 1) := by decide +kernel
theorem dX1_readParts_33 : decode cX1_readParts 33 = .ok (.getfield 29, 3) := by decide +kernel
theorem dX1_readParts_36 : decode cX1_readParts 36 = .ok (.getfield 67, 3) := by decide +kernel
theorem dX1_readParts_39 : decode cX1_readParts 39 = .ok (.ireturn, 1) := by decide +kernel
theorem dX1_readParts_40 : decode cX1_readParts 40 = .ok (.aload_n 0, 1) := by decide +kernel
theorem dX1_readParts_41 : decode cX1_readParts 41 = .ok (.getfield 29, 3) := by decide +kernel
theorem dX1_readParts_44 : decode cX1_readParts 44 = .ok (.invokevirtual 70, 3) := by decide +kernel
theorem dX1_readParts_47 : decode cX1_readParts 47 = .ok (.ifCond .eq 7, 3) := by decide +kernel
theorem dX1_readParts_50 : decode cX1_readParts 50 = .ok (.iload_n 2, 1) := by decide +kernel
theorem dX1_readParts_51 : decode cX1_readParts 51 = .ok (.iconst 1, 1) := by decide +kernel
theorem dX1_readParts_52 : decode cX1_readParts 52 = .ok (.iadd, 1) := by decide +kernel
theorem dX1_readParts_53 : decode cX1_readParts 53 = .ok (.ireturn, 1) := by decide +kernel
theorem dX1_readParts_54 : decode cX1_readParts 54 = .ok (.aload_n 0, 1) := by decide +kernel
theorem dX1_readParts_55 : decode cX1_readParts 55 = .ok (.getfield 29, 3) := by decide +kernel
theorem dX1_readParts_58 : decode cX1_readParts 58 = .ok (.bipush 59, 2) := by decide +kernel
theorem dX1_readParts_60 : decode cX1_readParts 60 = .ok (.invokevirtual 74, 3) := by decide +kernel
theorem dX1_readParts_63 : decode cX1_readParts 63 = .ok (.ifCond .ne 11, 3) := by decide +kernel
theorem dX1_readParts_66 : decode cX1_readParts 66 = .ok (.aload_n 0, 1) := by decide +kernel
theorem dX1_readParts_67 : decode cX1_readParts 67 = .ok (.getfield 29, 3) := by decide +kernel
theorem dX1_readParts_70 : decode cX1_readParts 70 = .ok (.getfield 67, 3) := by decide +kernel
theorem dX1_readParts_73 : decode cX1_readParts 73 = .ok (.ireturn, 1) := by decide +kernel
theorem dX1_readParts_74 : decode cX1_readParts 74 = .ok (.iinc 2 1, 3) := by decide +kernel
theorem dX1_readParts_77 : decode cX1_readParts 77 = .ok (.goto (-59), 3) := by decide +kernel
theorem dX1_readParts_80 : decode cX1_readParts 80 = .ok (.aload_n 0, 1) := by decide +kernel
theorem dX1_readParts_81 : decode cX1_readParts 81 = .ok (.getfield 29, 3) := by decide +kernel
theorem dX1_readParts_84 : decode cX1_readParts 84 = .ok (.getfield 67, 3) := by decide +kernel
theorem dX1_readParts_87 : decode cX1_readParts 87 = .ok (.ireturn, 1) := by decide +kernel
theorem dX1_readPart_0 : decode cX1_readPart 0 = .ok (.aload_n 0, 1) := by decide +kernel
theorem dX1_readPart_1 : decode cX1_readPart 1 = .ok (.getfield 29, 3) := by decide +kernel
theorem dX1_readPart_4 : decode cX1_readPart 4 = .ok (.ldc 78, 2) := by decide +kernel
theorem dX1_readPart_6 : decode cX1_readPart 6 = .ok (.invokevirtual 80, 3) := by decide +kernel
theorem dX1_readPart_9 : decode cX1_readPart 9 = .ok (.istore_n 2, 1) := by decide +kernel
theorem dX1_readPart_10 : decode cX1_readPart 10 = .ok (.iload_n 2, 1) := by decide +kernel
theorem dX1_readPart_11 : decode cX1_readPart 11 = .ok (.iconst (-1), 1) := by decide +kernel
theorem dX1_readPart_12 : decode cX1_readPart 12 = .ok (.if_icmp .ne 12, 3) := by decide +kernel
theorem dX1_readPart_15 : decode cX1_readPart 15 = .ok (.aload_n 0, 1) := by decide +kernel
theorem dX1_readPart_16 : decode cX1_readPart 16 = .ok (.getfield 29, 3) := by decide +kernel
theorem dX1_readPart_19 : decode cX1_readPart 19 = .ok (.iconst 1, 1) := by decide +kernel
theorem dX1_readPart_20 : decode cX1_readPart 20 = .ok (.invokevirtual 84, 3) := by decide +kernel
theorem dX1_readPart_23 : decode cX1_readPart 23 = .ok (.ireturn, 1) := by decide +kernel
theorem dX1_readPart_24 : decode cX1_readPart 24 = .ok (.iload_n 1, 1) := by decide +kernel
theorem dX1_readPart_25 : decode cX1_readPart 25 = .ok (.bipush 14, 2) := by decide +kernel
theorem dX1_readPart_27 : decode cX1_readPart 27 = .ok (.if_icmp .lt 12, 3) := by decide +kernel
theorem dX1_readPart_30 : decode cX1_readPart 30 = .ok (.aload_n 0, 1) := by decide +kernel
theorem dX1_readPart_31 : decode cX1_readPart 31 = .ok (.getfield 29, 3) := by decide +kernel
theorem dX1_readPart_34 : decode cX1_readPart 34 = .ok (.iconst 4, 1) := by decide +kernel
theorem dX1_readPart_35 : decode cX1_readPart 35 = .ok (.invokevirtual 84, 3) := by decide +kernel
theorem dX1_readPart_38 : decode cX1_readPart 38 = .ok (.ireturn, 1) := by decide +kernel
theorem dX1_readPart_39 : decode cX1_readPart 39 = .ok (.aload_n 0, 1) := by decide +kernel
theorem dX1_readPart_40 : decode cX1_readPart 40 = .ok (.getfield 29, 3) := by decide +kernel
theorem dX1_readPart_43 : decode cX1_readPart 43 = .ok (.invokevirtual 87, 3) := by decide +kernel
theorem dX1_readPart_46 : decode cX1_readPart 46 = .ok (.aload_n 0, 1) := by decide +kernel
theorem dX1_readPart_47 : decode cX1_readPart 47 = .ok (.getfield 29, 3) := by decide +kernel
theorem dX1_readPart_50 : decode cX1_readPart 50 = .ok (.iconst 2, 1) := by decide +kernel
theorem dX1_readPart_51 : decode cX1_readPart 51 = .ok (.invokevirtual 90, 3) := by decide +kernel
theorem dX1_readPart_54 : decode cX1_readPart 54 = .ok (.istore_n 3, 1) := by decide +kernel
theorem dX1_readPart_55 : decode cX1_readPart 55 = .ok (.iload_n 3, 1) := by decide +kernel
theorem dX1_readPart_56 : decode cX1_readPart 56 = .ok (.iconst (-1), 1) := by decide +kernel
theorem dX1_readPart_57 : decode cX1_readPart 57 = .ok (.if_icmp .eq 15, 3) := by decide +kernel
theorem dX1_readPart_60 : decode cX1_readPart 60 = .ok (.aload_n 0, 1) := by decide +kernel
theorem dX1_readPart_61 : decode cX1_readPart 61 = .ok (.getfield 29, 3) := by decide +kernel
theorem dX1_readPart_64 : decode cX1_readPart 64 = .ok (.bipush 40, 2) := by decide +kernel
theorem dX1_readPart_66 : decode cX1_readPart 66 = .ok (.invokevirtual 74, 3) := by decide +kernel
theorem dX1_readPart_69 : decode cX1_readPart 69 = .ok (.ifCond .ne 5, 3) := by decide +kernel
theorem dX1_readPart_72 : decode cX1_readPart 72 = .ok (.iconst 0, 1) := by decide +kernel
theorem dX1_readPart_73 : decode cX1_readPart 73 = .ok (.ireturn, 1) := by decide +kernel
theorem dX1_readPart_74 : decode cX1_readPart 74 = .ok (.aload_n 0, 1) := by decide +kernel
theorem dX1_readPart_75 : decode cX1_readPart 75 = .ok (.iconst 0, 1) := by decide +kernel
theorem dX1_readPart_76 : decode cX1_readPart 76 = .ok (.bipush 23, 2) := by decide +kernel
theorem dX1_readPart_78 : decode cX1_readPart 78 = .ok (.invokevirtual 93, 3) := by decide +kernel
theorem dX1_readPart_81 : decode cX1_readPart 81 = .ok (.istore 4, 2) := by decide +kernel
theorem dX1_readPart_83 : decode cX1_readPart 83 = .ok (.iload 4, 2) := by decide +kernel
theorem dX1_readPart_85 : decode cX1_readPart 85 = .ok (.iconst (-1), 1) := by decide +kernel
theorem dX1_readPart_86 : decode cX1_readPart 86 = .ok (.if_icmp .eq 15, 3) := by decide +kernel
theorem dX1_readPart_89 : decode cX1_readPart 89 = .ok (.aload_n 0, 1) := by decide +kernel
theorem dX1_readPart_90 : decode cX1_readPart 90 = .ok (.getfield 29, 3) := by decide +kernel
theorem dX1_readPart_93 : decode cX1_readPart 93 = .ok (.bipush 45, 2) := by decide +kernel
theorem dX1_readPart_95 : decode cX1_readPart 95 = .ok (.invokevirtual 74, 3) := by decide +kernel
theorem dX1_readPart_98 : decode cX1_readPart 98 = .ok (.ifCond .ne 5, 3) := by decide +kernel
theorem dX1_readPart_101 : decode cX1_readPart 101 = .ok (.iconst 0, 1) := by decide +kernel
theorem dX1_readPart_102 : decode cX1_readPart 102 = .ok (.ireturn, 1) := by decide +kernel
theorem dX1_readPart_103 : decode cX1_readPart 103 = .ok (.aload_n 0, 1) := by decide +kernel
theorem dX1_readPart_104 : decode cX1_readPart 104 = .ok (.iload 4, 2) := by decide +kernel
theorem dX1_readPart_106 : decode cX1_readPart 106 = .ok (.iconst 1, 1) := by decide +kernel
theorem dX1_readPart_107 : decode cX1_readPart 107 = .ok (.iadd, 1) := by decide +kernel
theorem dX1_readPart_108 : decode cX1_readPart 108 = .ok (.bipush 24, 2) := by decide +kernel
theorem dX1_readPart_110 : decode cX1_readPart 110 = .ok (.invokevirtual 93, 3) := by decide +kernel
theorem dX1_readPart_113 : decode cX1_readPart 113 = .ok (.istore 5, 2) := by decide +kernel
theorem dX1_readPart_115 : decode cX1_readPart 115 = .ok (.iload 5, 2) := by decide +kernel
theorem dX1_readPart_117 : decode cX1_readPart 117 = .ok (.iconst (-1), 1) := by decide +kernel
theorem dX1_readPart_118 : decode cX1_readPart 118 = .ok (.if_icmp .eq 15, 3) := by decide +kernel
theorem dX1_readPart_121 : decode cX1_readPart 121 = .ok (.aload_n 0, 1) := by decide +kernel
theorem dX1_readPart_122 : decode cX1_readPart 122 = .ok (.getfield 29, 3) := by decide +kernel
theorem dX1_readPart_125 : decode cX1_readPart 125 = .ok (.bipush 41, 2) := by decide +kernel
theorem dX1_readPart_127 : decode cX1_readPart 127 = .ok (.invokevirtual 74, 3) := by decide +kernel
theorem dX1_readPart_130 : decode cX1_readPart 130 = .ok (.ifCond .ne 5, 3) := by decide +kernel
theorem dX1_readPart_133 : decode cX1_readPart 133 = .ok (.iconst 0, 1) := by decide +kernel
theorem dX1_readPart_134 : decode cX1_readPart 134 = .ok (.ireturn, 1) := by decide +kernel
theorem dX1_readPart_135 : decode cX1_readPart 135 = .ok (.iload_n 2, 1) := by decide +kernel
theorem dX1_readPart_136 : decode cX1_readPart 136 = .ok (.bipush 24, 2) := by decide +kernel
theorem dX1_readPart_138 : decode cX1_readPart 138 = .ok (.imul, 1) := by decide +kernel
theorem dX1_readPart_139 : decode cX1_readPart 139 = .ok (.iload 4, 2) := by decide +kernel
theorem dX1_readPart_141 : decode cX1_readPart 141 = .ok (.iadd, 1) := by decide +kernel
theorem dX1_readPart_142 : decode cX1_readPart 142 = .ok (.istore 6, 2) := by decide +kernel
theorem dX1_readPart_144 : decode cX1_readPart 144 = .ok (.iload 6, 2) := by decide +kernel
theorem dX1_readPart_146 : decode cX1_readPart 146 = .ok (.iload_n 2, 1) := by decide +kernel
theorem dX1_readPart_147 : decode cX1_readPart 147 = .ok (.bipush 24, 2) := by decide +kernel
theorem dX1_readPart_149 : decode cX1_readPart 149 = .ok (.imul, 1) := by decide +kernel
theorem dX1_readPart_150 : decode cX1_readPart 150 = .ok (.iload 5, 2) := by decide +kernel
theorem dX1_readPart_152 : decode cX1_readPart 152 = .ok (.iadd, 1) := by decide +kernel
theorem dX1_readPart_153 : decode cX1_readPart 153 = .ok (.if_icmp .ge 30, 3) := by decide +kernel
theorem dX1_readPart_156 : decode cX1_readPart 156 = .ok (.aload_n 0, 1) := by decide +kernel
theorem dX1_readPart_157 : decode cX1_readPart 157 = .ok (.getfield 16, 3) := by decide +kernel
theorem dX1_readPart_160 : decode cX1_readPart 160 = .ok (.iload 6, 2) := by decide +kernel
theorem dX1_readPart_162 : decode cX1_readPart 162 = .ok (.bipush 99, 2) := by decide +kernel
theorem dX1_readPart_164 : decode cX1_readPart 164 = .ok (.aload_n 0, 1) := by decide +kernel
theorem dX1_readPart_165 : decode cX1_readPart 165 = .ok (.getfield 16, 3) := by decide +kernel
theorem dX1_readPart_168 : decode cX1_readPart 168 = .ok (.iload 6, 2) := by decide +kernel
theorem dX1_readPart_170 : decode cX1_readPart 170 = .ok (.iaload, 1) := by decide +kernel
theorem dX1_readPart_171 : decode cX1_readPart 171 = .ok (.iload_n 3, 1) := by decide +kernel
theorem dX1_readPart_172 : decode cX1_readPart 172 = .ok (.iadd, 1) := by decide +kernel
theorem dX1_readPart_173 : decode cX1_readPart 173 = .ok (.invokestatic 97, 3) := by decide +kernel
theorem dX1_readPart_176 : decode cX1_readPart 176 = .ok (.iastore, 1) := by decide +kernel
theorem dX1_readPart_177 : decode cX1_readPart 177 = .ok (.iinc 6 1, 3) := by decide +kernel
theorem dX1_readPart_180 : decode cX1_readPart 180 = .ok (.goto (-36), 3) := by decide +kernel
theorem dX1_readPart_183 : decode cX1_readPart 183 = .ok (.iconst 1, 1) := by decide +kernel
theorem dX1_readPart_184 : decode cX1_readPart 184 = .ok (.ireturn, 1) := by decide +kernel
theorem dX1_readHour_0 : decode cX1_readHour 0 = .ok (.aload_n 0, 1) := by decide +kernel
theorem dX1_readHour_1 : decode cX1_readHour 1 = .ok (.getfield 29, 3) := by decide +kernel
theorem dX1_readHour_4 : decode cX1_readHour 4 = .ok (.getfield 102, 3) := by decide +kernel
theorem dX1_readHour_7 : decode cX1_readHour 7 = .ok (.istore_n 3, 1) := by decide +kernel
theorem dX1_readHour_8 : decode cX1_readHour 8 = .ok (.aload_n 0, 1) := by decide +kernel
theorem dX1_readHour_9 : decode cX1_readHour 9 = .ok (.getfield 29, 3) := by decide +kernel
theorem dX1_readHour_12 : decode cX1_readHour 12 = .ok (.iconst 2, 1) := by decide +kernel
theorem dX1_readHour_13 : decode cX1_readHour 13 = .ok (.invokevirtual 90, 3) := by decide +kernel
theorem dX1_readHour_16 : decode cX1_readHour 16 = .ok (.istore 4, 2) := by decide +kernel
theorem dX1_readHour_18 : decode cX1_readHour 18 = .ok (.iload 4, 2) := by decide +kernel
theorem dX1_readHour_20 : decode cX1_readHour 20 = .ok (.iconst (-1), 1) := by decide +kernel
theorem dX1_readHour_21 : decode cX1_readHour 21 = .ok (.if_icmp .eq 26, 3) := by decide +kernel
theorem dX1_readHour_24 : decode cX1_readHour 24 = .ok (.iload 4, 2) := by decide +kernel
theorem dX1_readHour_26 : decode cX1_readHour 26 = .ok (.iload_n 1, 1) := by decide +kernel
theorem dX1_readHour_27 : decode cX1_readHour 27 = .ok (.if_icmp .lt 9, 3) := by decide +kernel
theorem dX1_readHour_30 : decode cX1_readHour 30 = .ok (.iload 4, 2) := by decide +kernel
theorem dX1_readHour_32 : decode cX1_readHour 32 = .ok (.iload_n 2, 1) := by decide +kernel
theorem dX1_readHour_33 : decode cX1_readHour 33 = .ok (.if_icmp .le 14, 3) := by decide +kernel
theorem dX1_readHour_36 : decode cX1_readHour 36 = .ok (.aload_n 0, 1) := by decide +kernel
theorem dX1_readHour_37 : decode cX1_readHour 37 = .ok (.getfield 29, 3) := by decide +kernel
theorem dX1_readHour_40 : decode cX1_readHour 40 = .ok (.iconst 3, 1) := by decide +kernel
theorem dX1_readHour_41 : decode cX1_readHour 41 = .ok (.iload_n 3, 1) := by decide +kernel
theorem dX1_readHour_42 : decode cX1_readHour 42 = .ok (.invokevirtual 105, 3) := by decide +kernel
theorem dX1_readHour_45 : decode cX1_readHour 45 = .ok (.iconst (-1), 1) := by decide +kernel
theorem dX1_readHour_46 : decode cX1_readHour 46 = .ok (.ireturn, 1) := by decide +kernel
theorem dX1_readHour_47 : decode cX1_readHour 47 = .ok (.iload 4, 2) := by decide +kernel
theorem dX1_readHour_49 : decode cX1_readHour 49 = .ok (.ireturn, 1) := by decide +kernel
theorem dX1_readMeter_0 : decode cX1_readMeter 0 = .ok (.iconst 0, 1) := by decide +kernel
theorem dX1_readMeter_1 : decode cX1_readMeter 1 = .ok (.istore_n 3, 1) := by decide +kernel
theorem dX1_readMeter_2 : decode cX1_readMeter 2 = .ok (.iload_n 3, 1) := by decide +kernel
theorem dX1_readMeter_3 : decode cX1_readMeter 3 = .ok (.bipush 24, 2) := by decide +kernel
theorem dX1_readMeter_5 : decode cX1_readMeter 5 = .ok (.if_icmp .ge 22, 3) := by decide +kernel
theorem dX1_readMeter_8 : decode cX1_readMeter 8 = .ok (.aload_n 0, 1) := by decide +kernel
theorem dX1_readMeter_9 : decode cX1_readMeter 9 = .ok (.getfield 20, 3) := by decide +kernel
theorem dX1_readMeter_12 : decode cX1_readMeter 12 = .ok (.iload_n 3, 1) := by decide +kernel
theorem dX1_readMeter_13 : decode cX1_readMeter 13 = .ok (.aload_n 1, 1) := by decide +kernel
theorem dX1_readMeter_14 : decode cX1_readMeter 14 = .ok (.iconst 2, 1) := by decide +kernel
theorem dX1_readMeter_15 : decode cX1_readMeter 15 = .ok (.iload_n 3, 1) := by decide +kernel
theorem dX1_readMeter_16 : decode cX1_readMeter 16 = .ok (.imul, 1) := by decide +kernel
theorem dX1_readMeter_17 : decode cX1_readMeter 17 = .ok (.invokevirtual 109, 3) := by decide +kernel
theorem dX1_readMeter_20 : decode cX1_readMeter 20 = .ok (.iastore, 1) := by decide +kernel
theorem dX1_readMeter_21 : decode cX1_readMeter 21 = .ok (.iinc 3 1, 3) := by decide +kernel
theorem dX1_readMeter_24 : decode cX1_readMeter 24 = .ok (.goto (-22), 3) := by decide +kernel
theorem dX1_readMeter_27 : decode cX1_readMeter 27 = .ok (.aload_n 0, 1) := by decide +kernel
theorem dX1_readMeter_28 : decode cX1_readMeter 28 = .ok (.iconst 0, 1) := by decide +kernel
theorem dX1_readMeter_29 : decode cX1_readMeter 29 = .ok (.putfield 114, 3) := by decide +kernel
theorem dX1_readMeter_32 : decode cX1_readMeter 32 = .ok (.aload_n 0, 1) := by decide +kernel
theorem dX1_readMeter_33 : decode cX1_readMeter 33 = .ok (.aload_n 0, 1) := by decide +kernel
theorem dX1_readMeter_34 : decode cX1_readMeter 34 = .ok (.getfield 33, 3) := by decide +kernel
theorem dX1_readMeter_37 : decode cX1_readMeter 37 = .ok (.putfield 117, 3) := by decide +kernel
theorem dX1_readMeter_40 : decode cX1_readMeter 40 = .ok (.aload_n 0, 1) := by decide +kernel
theorem dX1_readMeter_41 : decode cX1_readMeter 41 = .ok (.iconst 0, 1) := by decide +kernel
theorem dX1_readMeter_42 : decode cX1_readMeter 42 = .ok (.iconst 0, 1) := by decide +kernel
theorem dX1_readMeter_43 : decode cX1_readMeter 43 = .ok (.iload_n 2, 1) := by decide +kernel
theorem dX1_readMeter_44 : decode cX1_readMeter 44 = .ok (.invokevirtual 120, 3) := by decide +kernel
theorem dX1_readMeter_47 : decode cX1_readMeter 47 = .ok (.return_, 1) := by decide +kernel
theorem dX1_fillRow_0 : decode cX1_fillRow 0 = .ok (.iload_n 1, 1) := by decide +kernel
theorem dX1_fillRow_1 : decode cX1_fillRow 1 = .ok (.iload_n 3, 1) := by decide +kernel
theorem dX1_fillRow_2 : decode cX1_fillRow 2 = .ok (.if_icmp .lt 16, 3) := by decide +kernel
theorem dX1_fillRow_5 : decode cX1_fillRow 5 = .ok (.aload_n 0, 1) := by decide +kernel
theorem dX1_fillRow_6 : decode cX1_fillRow 6 = .ok (.invokevirtual 124, 3) := by decide +kernel
theorem dX1_fillRow_9 : decode cX1_fillRow 9 = .ok (.ifCond .eq 8, 3) := by decide +kernel
theorem dX1_fillRow_12 : decode cX1_fillRow 12 = .ok (.aload_n 0, 1) := by decide +kernel
theorem dX1_fillRow_13 : decode cX1_fillRow 13 = .ok (.iload_n 3, 1) := by decide +kernel
theorem dX1_fillRow_14 : decode cX1_fillRow 14 = .ok (.invokevirtual 127, 3) := by decide +kernel
theorem dX1_fillRow_17 : decode cX1_fillRow 17 = .ok (.return_, 1) := by decide +kernel
theorem dX1_fillRow_18 : decode cX1_fillRow 18 = .ok (.iload_n 2, 1) := by decide +kernel
theorem dX1_fillRow_19 : decode cX1_fillRow 19 = .ok (.istore 4, 2) := by decide +kernel
theorem dX1_fillRow_21 : decode cX1_fillRow 21 = .ok (.iload 4, 2) := by decide +kernel
theorem dX1_fillRow_23 : decode cX1_fillRow 23 = .ok (.bipush 12, 2) := by decide +kernel
theorem dX1_fillRow_25 : decode cX1_fillRow 25 = .ok (.if_icmp .ge 59, 3) := by decide +kernel
theorem dX1_fillRow_28 : decode cX1_fillRow 28 = .ok (.aload_n 0, 1) := by decide +kernel
theorem dX1_fillRow_29 : decode cX1_fillRow 29 = .ok (.iload 4, 2) := by decide +kernel
theorem dX1_fillRow_31 : decode cX1_fillRow 31 = .ok (.invokevirtual 130, 3) := by decide +kernel
theorem dX1_fillRow_34 : decode cX1_fillRow 34 = .ok (.ifCond .eq 44, 3) := by decide +kernel
theorem dX1_fillRow_37 : decode cX1_fillRow 37 = .ok (.aload_n 0, 1) := by decide +kernel
theorem dX1_fillRow_38 : decode cX1_fillRow 38 = .ok (.iload 4, 2) := by decide +kernel
theorem dX1_fillRow_40 : decode cX1_fillRow 40 = .ok (.invokevirtual 133, 3) := by decide +kernel
theorem dX1_fillRow_43 : decode cX1_fillRow 43 = .ok (.ifCond .eq 35, 3) := by decide +kernel
theorem dX1_fillRow_46 : decode cX1_fillRow 46 = .ok (.aload_n 0, 1) := by decide +kernel
theorem dX1_fillRow_47 : decode cX1_fillRow 47 = .ok (.getfield 23, 3) := by decide +kernel
theorem dX1_fillRow_50 : decode cX1_fillRow 50 = .ok (.iload_n 1, 1) := by decide +kernel
theorem dX1_fillRow_51 : decode cX1_fillRow 51 = .ok (.iload 4, 2) := by decide +kernel
theorem dX1_fillRow_53 : decode cX1_fillRow 53 = .ok (.iastore, 1) := by decide +kernel
theorem dX1_fillRow_54 : decode cX1_fillRow 54 = .ok (.aload_n 0, 1) := by decide +kernel
theorem dX1_fillRow_55 : decode cX1_fillRow 55 = .ok (.iload 4, 2) := by decide +kernel
theorem dX1_fillRow_57 : decode cX1_fillRow 57 = .ok (.iconst (-1), 1) := by decide +kernel
theorem dX1_fillRow_58 : decode cX1_fillRow 58 = .ok (.invokevirtual 136, 3) := by decide +kernel
theorem dX1_fillRow_61 : decode cX1_fillRow 61 = .ok (.aload_n 0, 1) := by decide +kernel
theorem dX1_fillRow_62 : decode cX1_fillRow 62 = .ok (.iload_n 1, 1) := by decide +kernel
theorem dX1_fillRow_63 : decode cX1_fillRow 63 = .ok (.iconst 1, 1) := by decide +kernel
theorem dX1_fillRow_64 : decode cX1_fillRow 64 = .ok (.iadd, 1) := by decide +kernel
theorem dX1_fillRow_65 : decode cX1_fillRow 65 = .ok (.iload 4, 2) := by decide +kernel
theorem dX1_fillRow_67 : decode cX1_fillRow 67 = .ok (.iload_n 3, 1) := by decide +kernel
theorem dX1_fillRow_68 : decode cX1_fillRow 68 = .ok (.invokevirtual 120, 3) := by decide +kernel
theorem dX1_fillRow_71 : decode cX1_fillRow 71 = .ok (.aload_n 0, 1) := by decide +kernel
theorem dX1_fillRow_72 : decode cX1_fillRow 72 = .ok (.iload 4, 2) := by decide +kernel
theorem dX1_fillRow_74 : decode cX1_fillRow 74 = .ok (.iconst 1, 1) := by decide +kernel
theorem dX1_fillRow_75 : decode cX1_fillRow 75 = .ok (.invokevirtual 136, 3) := by decide +kernel
theorem dX1_fillRow_78 : decode cX1_fillRow 78 = .ok (.iinc 4 1, 3) := by decide +kernel
theorem dX1_fillRow_81 : decode cX1_fillRow 81 = .ok (.goto (-60), 3) := by decide +kernel
theorem dX1_fillRow_84 : decode cX1_fillRow 84 = .ok (.return_, 1) := by decide +kernel
theorem dX1_isWithinRest_0 : decode cX1_isWithinRest 0 = .ok (.iconst 0, 1) := by decide +kernel
theorem dX1_isWithinRest_1 : decode cX1_isWithinRest 1 = .ok (.istore_n 2, 1) := by decide +kernel
theorem dX1_isWithinRest_2 : decode cX1_isWithinRest 2 = .ok (.iload_n 2, 1) := by decide +kernel
theorem dX1_isWithinRest_3 : decode cX1_isWithinRest 3 = .ok (.bipush 24, 2) := by decide +kernel
theorem dX1_isWithinRest_5 : decode cX1_isWithinRest 5 = .ok (.if_icmp .ge 28, 3) := by decide +kernel
theorem dX1_isWithinRest_8 : decode cX1_isWithinRest 8 = .ok (.aload_n 0, 1) := by decide +kernel
theorem dX1_isWithinRest_9 : decode cX1_isWithinRest 9 = .ok (.getfield 11, 3) := by decide +kernel
theorem dX1_isWithinRest_12 : decode cX1_isWithinRest 12 = .ok (.iload_n 1, 1) := by decide +kernel
theorem dX1_isWithinRest_13 : decode cX1_isWithinRest 13 = .ok (.aaload, 1) := by decide +kernel
theorem dX1_isWithinRest_14 : decode cX1_isWithinRest 14 = .ok (.iload_n 2, 1) := by decide +kernel
theorem dX1_isWithinRest_15 : decode cX1_isWithinRest 15 = .ok (.iaload, 1) := by decide +kernel
theorem dX1_isWithinRest_16 : decode cX1_isWithinRest 16 = .ok (.aload_n 0, 1) := by decide +kernel
theorem dX1_isWithinRest_17 : decode cX1_isWithinRest 17 = .ok (.getfield 20, 3) := by decide +kernel
theorem dX1_isWithinRest_20 : decode cX1_isWithinRest 20 = .ok (.iload_n 2, 1) := by decide +kernel
theorem dX1_isWithinRest_21 : decode cX1_isWithinRest 21 = .ok (.iaload, 1) := by decide +kernel
theorem dX1_isWithinRest_22 : decode cX1_isWithinRest 22 = .ok (.if_icmp .le 5, 3) := by decide +kernel
theorem dX1_isWithinRest_25 : decode cX1_isWithinRest 25 = .ok (.iconst 0, 1) := by decide +kernel
theorem dX1_isWithinRest_26 : decode cX1_isWithinRest 26 = .ok (.ireturn, 1) := by decide +kernel
theorem dX1_isWithinRest_27 : decode cX1_isWithinRest 27 = .ok (.iinc 2 1, 3) := by decide +kernel
theorem dX1_isWithinRest_30 : decode cX1_isWithinRest 30 = .ok (.goto (-28), 3) := by decide +kernel
theorem dX1_isWithinRest_33 : decode cX1_isWithinRest 33 = .ok (.iconst 1, 1) := by decide +kernel
theorem dX1_isWithinRest_34 : decode cX1_isWithinRest 34 = .ok (.ireturn, 1) := by decide +kernel
theorem dX1_isRestGone_0 : decode cX1_isRestGone 0 = .ok (.iconst 0, 1) := by decide +kernel
theorem dX1_isRestGone_1 : decode cX1_isRestGone 1 = .ok (.istore_n 1, 1) := by decide +kernel
theorem dX1_isRestGone_2 : decode cX1_isRestGone 2 = .ok (.iload_n 1, 1) := by decide +kernel
theorem dX1_isRestGone_3 : decode cX1_isRestGone 3 = .ok (.bipush 24, 2) := by decide +kernel
theorem dX1_isRestGone_5 : decode cX1_isRestGone 5 = .ok (.if_icmp .ge 20, 3) := by decide +kernel
theorem dX1_isRestGone_8 : decode cX1_isRestGone 8 = .ok (.aload_n 0, 1) := by decide +kernel
theorem dX1_isRestGone_9 : decode cX1_isRestGone 9 = .ok (.getfield 20, 3) := by decide +kernel
theorem dX1_isRestGone_12 : decode cX1_isRestGone 12 = .ok (.iload_n 1, 1) := by decide +kernel
theorem dX1_isRestGone_13 : decode cX1_isRestGone 13 = .ok (.iaload, 1) := by decide +kernel
theorem dX1_isRestGone_14 : decode cX1_isRestGone 14 = .ok (.ifCond .eq 5, 3) := by decide +kernel
theorem dX1_isRestGone_17 : decode cX1_isRestGone 17 = .ok (.iconst 0, 1) := by decide +kernel
theorem dX1_isRestGone_18 : decode cX1_isRestGone 18 = .ok (.ireturn, 1) := by decide +kernel
theorem dX1_isRestGone_19 : decode cX1_isRestGone 19 = .ok (.iinc 1 1, 3) := by decide +kernel
theorem dX1_isRestGone_22 : decode cX1_isRestGone 22 = .ok (.goto (-20), 3) := by decide +kernel
theorem dX1_isRestGone_25 : decode cX1_isRestGone 25 = .ok (.iconst 1, 1) := by decide +kernel
theorem dX1_isRestGone_26 : decode cX1_isRestGone 26 = .ok (.ireturn, 1) := by decide +kernel
theorem dX1_changeRest_0 : decode cX1_changeRest 0 = .ok (.iconst 0, 1) := by decide +kernel
theorem dX1_changeRest_1 : decode cX1_changeRest 1 = .ok (.istore_n 3, 1) := by decide +kernel
theorem dX1_changeRest_2 : decode cX1_changeRest 2 = .ok (.iload_n 3, 1) := by decide +kernel
theorem dX1_changeRest_3 : decode cX1_changeRest 3 = .ok (.bipush 24, 2) := by decide +kernel
theorem dX1_changeRest_5 : decode cX1_changeRest 5 = .ok (.if_icmp .ge 28, 3) := by decide +kernel
theorem dX1_changeRest_8 : decode cX1_changeRest 8 = .ok (.aload_n 0, 1) := by decide +kernel
theorem dX1_changeRest_9 : decode cX1_changeRest 9 = .ok (.getfield 20, 3) := by decide +kernel
theorem dX1_changeRest_12 : decode cX1_changeRest 12 = .ok (.iload_n 3, 1) := by decide +kernel
theorem dX1_changeRest_13 : decode cX1_changeRest 13 = .ok (.dup2, 1) := by decide +kernel
theorem dX1_changeRest_14 : decode cX1_changeRest 14 = .ok (.iaload, 1) := by decide +kernel
theorem dX1_changeRest_15 : decode cX1_changeRest 15 = .ok (.iload_n 2, 1) := by decide +kernel
theorem dX1_changeRest_16 : decode cX1_changeRest 16 = .ok (.aload_n 0, 1) := by decide +kernel
theorem dX1_changeRest_17 : decode cX1_changeRest 17 = .ok (.getfield 11, 3) := by decide +kernel
theorem dX1_changeRest_20 : decode cX1_changeRest 20 = .ok (.iload_n 1, 1) := by decide +kernel
theorem dX1_changeRest_21 : decode cX1_changeRest 21 = .ok (.aaload, 1) := by decide +kernel
theorem dX1_changeRest_22 : decode cX1_changeRest 22 = .ok (.iload_n 3, 1) := by decide +kernel
theorem dX1_changeRest_23 : decode cX1_changeRest 23 = .ok (.iaload, 1) := by decide +kernel
theorem dX1_changeRest_24 : decode cX1_changeRest 24 = .ok (.imul, 1) := by decide +kernel
theorem dX1_changeRest_25 : decode cX1_changeRest 25 = .ok (.iadd, 1) := by decide +kernel
theorem dX1_changeRest_26 : decode cX1_changeRest 26 = .ok (.iastore, 1) := by decide +kernel
theorem dX1_changeRest_27 : decode cX1_changeRest 27 = .ok (.iinc 3 1, 3) := by decide +kernel
theorem dX1_changeRest_30 : decode cX1_changeRest 30 = .ok (.goto (-28), 3) := by decide +kernel
theorem dX1_changeRest_33 : decode cX1_changeRest 33 = .ok (.return_, 1) := by decide +kernel
theorem dX1_noteRow_0 : decode cX1_noteRow 0 = .ok (.iconst 0, 1) := by decide +kernel
theorem dX1_noteRow_1 : decode cX1_noteRow 1 = .ok (.istore_n 2, 1) := by decide +kernel
theorem dX1_noteRow_2 : decode cX1_noteRow 2 = .ok (.iconst 0, 1) := by decide +kernel
theorem dX1_noteRow_3 : decode cX1_noteRow 3 = .ok (.istore_n 3, 1) := by decide +kernel
theorem dX1_noteRow_4 : decode cX1_noteRow 4 = .ok (.iload_n 3, 1) := by decide +kernel
theorem dX1_noteRow_5 : decode cX1_noteRow 5 = .ok (.iload_n 1, 1) := by decide +kernel
theorem dX1_noteRow_6 : decode cX1_noteRow 6 = .ok (.if_icmp .ge 39, 3) := by decide +kernel
theorem dX1_noteRow_9 : decode cX1_noteRow 9 = .ok (.iload_n 2, 1) := by decide +kernel
theorem dX1_noteRow_10 : decode cX1_noteRow 10 = .ok (.iconst 1, 1) := by decide +kernel
theorem dX1_noteRow_11 : decode cX1_noteRow 11 = .ok (.aload_n 0, 1) := by decide +kernel
theorem dX1_noteRow_12 : decode cX1_noteRow 12 = .ok (.getfield 23, 3) := by decide +kernel
theorem dX1_noteRow_15 : decode cX1_noteRow 15 = .ok (.iload_n 3, 1) := by decide +kernel
theorem dX1_noteRow_16 : decode cX1_noteRow 16 = .ok (.iaload, 1) := by decide +kernel
theorem dX1_noteRow_17 : decode cX1_noteRow 17 = .ok (.ishl, 1) := by decide +kernel
theorem dX1_noteRow_18 : decode cX1_noteRow 18 = .ok (.ior, 1) := by decide +kernel
theorem dX1_noteRow_19 : decode cX1_noteRow 19 = .ok (.istore_n 2, 1) := by decide +kernel
theorem dX1_noteRow_20 : decode cX1_noteRow 20 = .ok (.aload_n 0, 1) := by decide +kernel
theorem dX1_noteRow_21 : decode cX1_noteRow 21 = .ok (.getfield 114, 3) := by decide +kernel
theorem dX1_noteRow_24 : decode cX1_noteRow 24 = .ok (.ifCond .ne 15, 3) := by decide +kernel
theorem dX1_noteRow_27 : decode cX1_noteRow 27 = .ok (.aload_n 0, 1) := by decide +kernel
theorem dX1_noteRow_28 : decode cX1_noteRow 28 = .ok (.getfield 26, 3) := by decide +kernel
theorem dX1_noteRow_31 : decode cX1_noteRow 31 = .ok (.iload_n 3, 1) := by decide +kernel
theorem dX1_noteRow_32 : decode cX1_noteRow 32 = .ok (.aload_n 0, 1) := by decide +kernel
theorem dX1_noteRow_33 : decode cX1_noteRow 33 = .ok (.getfield 23, 3) := by decide +kernel
theorem dX1_noteRow_36 : decode cX1_noteRow 36 = .ok (.iload_n 3, 1) := by decide +kernel
theorem dX1_noteRow_37 : decode cX1_noteRow 37 = .ok (.iaload, 1) := by decide +kernel
theorem dX1_noteRow_38 : decode cX1_noteRow 38 = .ok (.iastore, 1) := by decide +kernel
theorem dX1_noteRow_39 : decode cX1_noteRow 39 = .ok (.iinc 3 1, 3) := by decide +kernel
theorem dX1_noteRow_42 : decode cX1_noteRow 42 = .ok (.goto (-38), 3) := by decide +kernel
theorem dX1_noteRow_45 : decode cX1_noteRow 45 = .ok (.aload_n 0, 1) := by decide +kernel
theorem dX1_noteRow_46 : decode cX1_noteRow 46 = .ok (.dup, 1) := by decide +kernel
theorem dX1_noteRow_47 : decode cX1_noteRow 47 = .ok (.getfield 117, 3) := by decide +kernel
theorem dX1_noteRow_50 : decode cX1_noteRow 50 = .ok (.iload_n 2, 1) := by decide +kernel
theorem dX1_noteRow_51 : decode cX1_noteRow 51 = .ok (.iand, 1) := by decide +kernel
theorem dX1_noteRow_52 : decode cX1_noteRow 52 = .ok (.putfield 117, 3) := by decide +kernel
theorem dX1_noteRow_55 : decode cX1_noteRow 55 = .ok (.aload_n 0, 1) := by decide +kernel
theorem dX1_noteRow_56 : decode cX1_noteRow 56 = .ok (.dup, 1) := by decide +kernel
theorem dX1_noteRow_57 : decode cX1_noteRow 57 = .ok (.getfield 114, 3) := by decide +kernel
theorem dX1_noteRow_60 : decode cX1_noteRow 60 = .ok (.iconst 1, 1) := by decide +kernel
theorem dX1_noteRow_61 : decode cX1_noteRow 61 = .ok (.iadd, 1) := by decide +kernel
theorem dX1_noteRow_62 : decode cX1_noteRow 62 = .ok (.putfield 114, 3) := by decide +kernel
theorem dX1_noteRow_65 : decode cX1_noteRow 65 = .ok (.return_, 1) := by decide +kernel
theorem dX2_init_0 : decode cX2_init 0 = .ok (.aload_n 0, 1) := by decide +kernel
theorem dX2_init_1 : decode cX2_init 1 = .ok (.invokespecial 3, 3) := by decide +kernel
theorem dX2_init_4 : decode cX2_init 4 = .ok (.aload_n 0, 1) := by decide +kernel
theorem dX2_init_5 : decode cX2_init 5 = .ok (.bipush 10, 2) := by decide +kernel
theorem dX2_init_7 : decode cX2_init 7 = .ok (.newarray .int, 2) := by decide +kernel
theorem dX2_init_9 : decode cX2_init 9 = .ok (.putfield 9, 3) := by decide +kernel
theorem dX2_init_12 : decode cX2_init 12 = .ok (.aload_n 0, 1) := by decide +kernel
theorem dX2_init_13 : decode cX2_init 13 = .ok (.iconst 3, 1) := by decide +kernel
theorem dX2_init_14 : decode cX2_init 14 = .ok (.newarray .int, 2) := by decide +kernel
theorem dX2_init_16 : decode cX2_init 16 = .ok (.putfield 15, 3) := by decide +kernel
theorem dX2_init_19 : decode cX2_init 19 = .ok (.aload_n 0, 1) := by decide +kernel
theorem dX2_init_20 : decode cX2_init 20 = .ok (.iconst 3, 1) := by decide +kernel
theorem dX2_init_21 : decode cX2_init 21 = .ok (.newarray .int, 2) := by decide +kernel
theorem dX2_init_23 : decode cX2_init 23 = .ok (.putfield 18, 3) := by decide +kernel
theorem dX2_init_26 : decode cX2_init 26 = .ok (.aload_n 0, 1) := by decide +kernel
theorem dX2_init_27 : decode cX2_init 27 = .ok (.iconst 4, 1) := by decide +kernel
theorem dX2_init_28 : decode cX2_init 28 = .ok (.newarray .int, 2) := by decide +kernel
theorem dX2_init_30 : decode cX2_init 30 = .ok (.putfield 21, 3) := by decide +kernel
theorem dX2_init_33 : decode cX2_init 33 = .ok (.aload_n 0, 1) := by decide +kernel
theorem dX2_init_34 : decode cX2_init 34 = .ok (.sipush 9999, 3) := by decide +kernel
theorem dX2_init_37 : decode cX2_init 37 = .ok (.putfield 24, 3) := by decide +kernel
theorem dX2_init_40 : decode cX2_init 40 = .ok (.aload_n 0, 1) := by decide +kernel
theorem dX2_init_41 : decode cX2_init 41 = .ok (.getfield 21, 3) := by decide +kernel
theorem dX2_init_44 : decode cX2_init 44 = .ok (.sipush 999, 3) := by decide +kernel
theorem dX2_init_47 : decode cX2_init 47 = .ok (.invokestatic 28, 3) := by decide +kernel
theorem dX2_init_50 : decode cX2_init 50 = .ok (.return_, 1) := by decide +kernel
theorem dX2_afterInflow_0 : decode cX2_afterInflow 0 = .ok (.sipush 9999, 3) := by decide +kernel
theorem dX2_afterInflow_3 : decode cX2_afterInflow 3 = .ok (.iload_n 1, 1) := by decide +kernel
theorem dX2_afterInflow_4 : decode cX2_afterInflow 4 = .ok (.aload_n 0, 1) := by decide +kernel
theorem dX2_afterInflow_5 : decode cX2_afterInflow 5 = .ok (.getfield 34, 3) := by decide +kernel
theorem dX2_afterInflow_8 : decode cX2_afterInflow 8 = .ok (.iadd, 1) := by decide +kernel
theorem dX2_afterInflow_9 : decode cX2_afterInflow 9 = .ok (.invokestatic 37, 3) := by decide +kernel
theorem dX2_afterInflow_12 : decode cX2_afterInflow 12 = .ok (.ireturn, 1) := by decide +kernel
theorem dX3_init_0 : decode cX3_init 0 = .ok (.aload_n 0, 1) := by decide +kernel
theorem dX3_init_1 : decode cX3_init 1 = .ok (.invokespecial 3, 3) := by decide +kernel
theorem dX3_init_4 : decode cX3_init 4 = .ok (.aload_n 0, 1) := by decide +kernel
theorem dX3_init_5 : decode cX3_init 5 = .ok (.sipush 160, 3) := by decide +kernel
theorem dX3_init_8 : decode cX3_init 8 = .ok (.newarray .int, 2) := by decide +kernel
theorem dX3_init_10 : decode cX3_init 10 = .ok (.putfield 9, 3) := by decide +kernel
theorem dX3_init_13 : decode cX3_init 13 = .ok (.aload_n 0, 1) := by decide +kernel
theorem dX3_init_14 : decode cX3_init 14 = .ok (.sipush 160, 3) := by decide +kernel
theorem dX3_init_17 : decode cX3_init 17 = .ok (.newarray .int, 2) := by decide +kernel
theorem dX3_init_19 : decode cX3_init 19 = .ok (.putfield 15, 3) := by decide +kernel
theorem dX3_init_22 : decode cX3_init 22 = .ok (.aload_n 0, 1) := by decide +kernel
theorem dX3_init_23 : decode cX3_init 23 = .ok (.bipush 12, 2) := by decide +kernel
theorem dX3_init_25 : decode cX3_init 25 = .ok (.newarray .int, 2) := by decide +kernel
theorem dX3_init_27 : decode cX3_init 27 = .ok (.putfield 18, 3) := by decide +kernel
theorem dX3_init_30 : decode cX3_init 30 = .ok (.aload_n 0, 1) := by decide +kernel
theorem dX3_init_31 : decode cX3_init 31 = .ok (.bipush 12, 2) := by decide +kernel
theorem dX3_init_33 : decode cX3_init 33 = .ok (.newarray .int, 2) := by decide +kernel
theorem dX3_init_35 : decode cX3_init 35 = .ok (.putfield 21, 3) := by decide +kernel
theorem dX3_init_38 : decode cX3_init 38 = .ok (.aload_n 0, 1) := by decide +kernel
theorem dX3_init_39 : decode cX3_init 39 = .ok (.bipush 12, 2) := by decide +kernel
theorem dX3_init_41 : decode cX3_init 41 = .ok (.newarray .int, 2) := by decide +kernel
theorem dX3_init_43 : decode cX3_init 43 = .ok (.putfield 24, 3) := by decide +kernel
theorem dX3_init_46 : decode cX3_init 46 = .ok (.aload_n 0, 1) := by decide +kernel
theorem dX3_init_47 : decode cX3_init 47 = .ok (.bipush 12, 2) := by decide +kernel
theorem dX3_init_49 : decode cX3_init 49 = .ok (.newarray .int, 2) := by decide +kernel
theorem dX3_init_51 : decode cX3_init 51 = .ok (.putfield 27, 3) := by decide +kernel
theorem dX3_init_54 : decode cX3_init 54 = .ok (.aload_n 0, 1) := by decide +kernel
theorem dX3_init_55 : decode cX3_init 55 = .ok (.bipush 9, 2) := by decide +kernel
theorem dX3_init_57 : decode cX3_init 57 = .ok (.newarray .int, 2) := by decide +kernel
theorem dX3_init_59 : decode cX3_init 59 = .ok (.putfield 30, 3) := by decide +kernel
theorem dX3_init_62 : decode cX3_init 62 = .ok (.aload_n 0, 1) := by decide +kernel
theorem dX3_init_63 : decode cX3_init 63 = .ok (.sipush 160, 3) := by decide +kernel
theorem dX3_init_66 : decode cX3_init 66 = .ok (.newarray .int, 2) := by decide +kernel
theorem dX3_init_68 : decode cX3_init 68 = .ok (.putfield 33, 3) := by decide +kernel
theorem dX3_init_71 : decode cX3_init 71 = .ok (.return_, 1) := by decide +kernel
theorem dX3_clear_0 : decode cX3_clear 0 = .ok (.aload_n 0, 1) := by decide +kernel
theorem dX3_clear_1 : decode cX3_clear 1 = .ok (.iconst 0, 1) := by decide +kernel
theorem dX3_clear_2 : decode cX3_clear 2 = .ok (.putfield 36, 3) := by decide +kernel
theorem dX3_clear_5 : decode cX3_clear 5 = .ok (.aload_n 0, 1) := by decide +kernel
theorem dX3_clear_6 : decode cX3_clear 6 = .ok (.iconst 0, 1) := by decide +kernel
theorem dX3_clear_7 : decode cX3_clear 7 = .ok (.putfield 40, 3) := by decide +kernel
theorem dX3_clear_10 : decode cX3_clear 10 = .ok (.return_, 1) := by decide +kernel
theorem dX3_copyFrom_0 : decode cX3_copyFrom 0 = .ok (.aload_n 1, 1) := by decide +kernel
theorem dX3_copyFrom_1 : decode cX3_copyFrom 1 = .ok (.getfield 9, 3) := by decide +kernel
theorem dX3_copyFrom_4 : decode cX3_copyFrom 4 = .ok (.iconst 0, 1) := by decide +kernel
theorem dX3_copyFrom_5 : decode cX3_copyFrom 5 = .ok (.aload_n 0, 1) := by decide +kernel
theorem dX3_copyFrom_6 : decode cX3_copyFrom 6 = .ok (.getfield 9, 3) := by decide +kernel
theorem dX3_copyFrom_9 : decode cX3_copyFrom 9 = .ok (.iconst 0, 1) := by decide +kernel
theorem dX3_copyFrom_10 : decode cX3_copyFrom 10 = .ok (.sipush 160, 3) := by decide +kernel
theorem dX3_copyFrom_13 : decode cX3_copyFrom 13 = .ok (.invokestatic 43, 3) := by decide +kernel
theorem dX3_copyFrom_16 : decode cX3_copyFrom 16 = .ok (.aload_n 1, 1) := by decide +kernel
theorem dX3_copyFrom_17 : decode cX3_copyFrom 17 = .ok (.getfield 15, 3) := by decide +kernel
theorem dX3_copyFrom_20 : decode cX3_copyFrom 20 = .ok (.iconst 0, 1) := by decide +kernel
theorem dX3_copyFrom_21 : decode cX3_copyFrom 21 = .ok (.aload_n 0, 1) := by decide +kernel
theorem dX3_copyFrom_22 : decode cX3_copyFrom 22 = .ok (.getfield 15, 3) := by decide +kernel
theorem dX3_copyFrom_25 : decode cX3_copyFrom 25 = .ok (.iconst 0, 1) := by decide +kernel
theorem dX3_copyFrom_26 : decode cX3_copyFrom 26 = .ok (.sipush 160, 3) := by decide +kernel
theorem dX3_copyFrom_29 : decode cX3_copyFrom 29 = .ok (.invokestatic 43, 3) := by decide +kernel
theorem dX3_copyFrom_32 : decode cX3_copyFrom 32 = .ok (.aload_n 0, 1) := by decide +kernel
theorem dX3_copyFrom_33 : decode cX3_copyFrom 33 = .ok (.aload_n 1, 1) := by decide +kernel
theorem dX3_copyFrom_34 : decode cX3_copyFrom 34 = .ok (.getfield 36, 3) := by decide +kernel
theorem dX3_copyFrom_37 : decode cX3_copyFrom 37 = .ok (.putfield 36, 3) := by decide +kernel
theorem dX3_copyFrom_40 : decode cX3_copyFrom 40 = .ok (.aload_n 1, 1) := by decide +kernel
theorem dX3_copyFrom_41 : decode cX3_copyFrom 41 = .ok (.getfield 18, 3) := by decide +kernel
theorem dX3_copyFrom_44 : decode cX3_copyFrom 44 = .ok (.iconst 0, 1) := by decide +kernel
theorem dX3_copyFrom_45 : decode cX3_copyFrom 45 = .ok (.aload_n 0, 1) := by decide +kernel
theorem dX3_copyFrom_46 : decode cX3_copyFrom 46 = .ok (.getfield 18, 3) := by decide +kernel
theorem dX3_copyFrom_49 : decode cX3_copyFrom 49 = .ok (.iconst 0, 1) := by decide +kernel
theorem dX3_copyFrom_50 : decode cX3_copyFrom 50 = .ok (.bipush 12, 2) := by decide +kernel
theorem dX3_copyFrom_52 : decode cX3_copyFrom 52 = .ok (.invokestatic 43, 3) := by decide +kernel
theorem dX3_copyFrom_55 : decode cX3_copyFrom 55 = .ok (.aload_n 1, 1) := by decide +kernel
theorem dX3_copyFrom_56 : decode cX3_copyFrom 56 = .ok (.getfield 21, 3) := by decide +kernel
theorem dX3_copyFrom_59 : decode cX3_copyFrom 59 = .ok (.iconst 0, 1) := by decide +kernel
theorem dX3_copyFrom_60 : decode cX3_copyFrom 60 = .ok (.aload_n 0, 1) := by decide +kernel
theorem dX3_copyFrom_61 : decode cX3_copyFrom 61 = .ok (.getfield 21, 3) := by decide +kernel
theorem dX3_copyFrom_64 : decode cX3_copyFrom 64 = .ok (.iconst 0, 1) := by decide +kernel
theorem dX3_copyFrom_65 : decode cX3_copyFrom 65 = .ok (.bipush 12, 2) := by decide +kernel
theorem dX3_copyFrom_67 : decode cX3_copyFrom 67 = .ok (.invokestatic 43, 3) := by decide +kernel
theorem dX3_copyFrom_70 : decode cX3_copyFrom 70 = .ok (.aload_n 1, 1) := by decide +kernel
theorem dX3_copyFrom_71 : decode cX3_copyFrom 71 = .ok (.getfield 24, 3) := by decide +kernel
theorem dX3_copyFrom_74 : decode cX3_copyFrom 74 = .ok (.iconst 0, 1) := by decide +kernel
theorem dX3_copyFrom_75 : decode cX3_copyFrom 75 = .ok (.aload_n 0, 1) := by decide +kernel
theorem dX3_copyFrom_76 : decode cX3_copyFrom 76 = .ok (.getfield 24, 3) := by decide +kernel
theorem dX3_copyFrom_79 : decode cX3_copyFrom 79 = .ok (.iconst 0, 1) := by decide +kernel
theorem dX3_copyFrom_80 : decode cX3_copyFrom 80 = .ok (.bipush 12, 2) := by decide +kernel
theorem dX3_copyFrom_82 : decode cX3_copyFrom 82 = .ok (.invokestatic 43, 3) := by decide +kernel
theorem dX3_copyFrom_85 : decode cX3_copyFrom 85 = .ok (.aload_n 1, 1) := by decide +kernel
theorem dX3_copyFrom_86 : decode cX3_copyFrom 86 = .ok (.getfield 27, 3) := by decide +kernel
theorem dX3_copyFrom_89 : decode cX3_copyFrom 89 = .ok (.iconst 0, 1) := by decide +kernel
theorem dX3_copyFrom_90 : decode cX3_copyFrom 90 = .ok (.aload_n 0, 1) := by decide +kernel
theorem dX3_copyFrom_91 : decode cX3_copyFrom 91 = .ok (.getfield 27, 3) := by decide +kernel
theorem dX3_copyFrom_94 : decode cX3_copyFrom 94 = .ok (.iconst 0, 1) := by decide +kernel
theorem dX3_copyFrom_95 : decode cX3_copyFrom 95 = .ok (.bipush 12, 2) := by decide +kernel
theorem dX3_copyFrom_97 : decode cX3_copyFrom 97 = .ok (.invokestatic 43, 3) := by decide +kernel
theorem dX3_copyFrom_100 : decode cX3_copyFrom 100 = .ok (.aload_n 0, 1) := by decide +kernel
theorem dX3_copyFrom_101 : decode cX3_copyFrom 101 = .ok (.aload_n 1, 1) := by decide +kernel
theorem dX3_copyFrom_102 : decode cX3_copyFrom 102 = .ok (.getfield 40, 3) := by decide +kernel
theorem dX3_copyFrom_105 : decode cX3_copyFrom 105 = .ok (.putfield 40, 3) := by decide +kernel
theorem dX3_copyFrom_108 : decode cX3_copyFrom 108 = .ok (.return_, 1) := by decide +kernel
theorem dX3_addClause_0 : decode cX3_addClause 0 = .ok (.aload_n 0, 1) := by decide +kernel
theorem dX3_addClause_1 : decode cX3_addClause 1 = .ok (.getfield 40, 3) := by decide +kernel
theorem dX3_addClause_4 : decode cX3_addClause 4 = .ok (.bipush 12, 2) := by decide +kernel
theorem dX3_addClause_6 : decode cX3_addClause 6 = .ok (.if_icmp .ge 56, 3) := by decide +kernel
theorem dX3_addClause_9 : decode cX3_addClause 9 = .ok (.aload_n 0, 1) := by decide +kernel
theorem dX3_addClause_10 : decode cX3_addClause 10 = .ok (.getfield 18, 3) := by decide +kernel
theorem dX3_addClause_13 : decode cX3_addClause 13 = .ok (.aload_n 0, 1) := by decide +kernel
theorem dX3_addClause_14 : decode cX3_addClause 14 = .ok (.getfield 40, 3) := by decide +kernel
theorem dX3_addClause_17 : decode cX3_addClause 17 = .ok (.iload_n 1, 1) := by decide +kernel
theorem dX3_addClause_18 : decode cX3_addClause 18 = .ok (.iastore, 1) := by decide +kernel
theorem dX3_addClause_19 : decode cX3_addClause 19 = .ok (.aload_n 0, 1) := by decide +kernel
theorem dX3_addClause_20 : decode cX3_addClause 20 = .ok (.getfield 21, 3) := by decide +kernel
theorem dX3_addClause_23 : decode cX3_addClause 23 = .ok (.aload_n 0, 1) := by decide +kernel
theorem dX3_addClause_24 : decode cX3_addClause 24 = .ok (.getfield 40, 3) := by decide +kernel
theorem dX3_addClause_27 : decode cX3_addClause 27 = .ok (.iload_n 2, 1) := by decide +kernel
theorem dX3_addClause_28 : decode cX3_addClause 28 = .ok (.iastore, 1) := by decide +kernel
theorem dX3_addClause_29 : decode cX3_addClause 29 = .ok (.aload_n 0, 1) := by decide +kernel
theorem dX3_addClause_30 : decode cX3_addClause 30 = .ok (.getfield 24, 3) := by decide +kernel
theorem dX3_addClause_33 : decode cX3_addClause 33 = .ok (.aload_n 0, 1) := by decide +kernel
theorem dX3_addClause_34 : decode cX3_addClause 34 = .ok (.getfield 40, 3) := by decide +kernel
theorem dX3_addClause_37 : decode cX3_addClause 37 = .ok (.iload_n 3, 1) := by decide +kernel
theorem dX3_addClause_38 : decode cX3_addClause 38 = .ok (.iastore, 1) := by decide +kernel
theorem dX3_addClause_39 : decode cX3_addClause 39 = .ok (.aload_n 0, 1) := by decide +kernel
theorem dX3_addClause_40 : decode cX3_addClause 40 = .ok (.getfield 27, 3) := by decide +kernel
theorem dX3_addClause_43 : decode cX3_addClause 43 = .ok (.aload_n 0, 1) := by decide +kernel
theorem dX3_addClause_44 : decode cX3_addClause 44 = .ok (.getfield 40, 3) := by decide +kernel
theorem dX3_addClause_47 : decode cX3_addClause 47 = .ok (.aload_n 0, 1) := by decide +kernel
theorem dX3_addClause_48 : decode cX3_addClause 48 = .ok (.getfield 36, 3) := by decide +kernel
theorem dX3_addClause_51 : decode cX3_addClause 51 = .ok (.iastore, 1) := by decide +kernel
theorem dX3_addClause_52 : decode cX3_addClause 52 = .ok (.aload_n 0, 1) := by decide +kernel
theorem dX3_addClause_53 : decode cX3_addClause 53 = .ok (.dup, 1) := by decide +kernel
theorem dX3_addClause_54 : decode cX3_addClause 54 = .ok (.getfield 40, 3) := by decide +kernel
theorem dX3_addClause_57 : decode cX3_addClause 57 = .ok (.iconst 1, 1) := by decide +kernel
theorem dX3_addClause_58 : decode cX3_addClause 58 = .ok (.iadd, 1) := by decide +kernel
theorem dX3_addClause_59 : decode cX3_addClause 59 = .ok (.putfield 40, 3) := by decide +kernel
theorem dX3_addClause_62 : decode cX3_addClause 62 = .ok (.return_, 1) := by decide +kernel
theorem dX3_addStep_0 : decode cX3_addStep 0 = .ok (.aload_n 0, 1) := by decide +kernel
theorem dX3_addStep_1 : decode cX3_addStep 1 = .ok (.getfield 36, 3) := by decide +kernel
theorem dX3_addStep_4 : decode cX3_addStep 4 = .ok (.sipush 160, 3) := by decide +kernel
theorem dX3_addStep_7 : decode cX3_addStep 7 = .ok (.if_icmp .ge 33, 3) := by decide +kernel
theorem dX3_addStep_10 : decode cX3_addStep 10 = .ok (.aload_n 0, 1) := by decide +kernel
theorem dX3_addStep_11 : decode cX3_addStep 11 = .ok (.getfield 9, 3) := by decide +kernel
theorem dX3_addStep_14 : decode cX3_addStep 14 = .ok (.aload_n 0, 1) := by decide +kernel
theorem dX3_addStep_15 : decode cX3_addStep 15 = .ok (.getfield 36, 3) := by decide +kernel
theorem dX3_addStep_18 : decode cX3_addStep 18 = .ok (.iload_n 1, 1) := by decide +kernel
theorem dX3_addStep_19 : decode cX3_addStep 19 = .ok (.iastore, 1) := by decide +kernel
theorem dX3_addStep_20 : decode cX3_addStep 20 = .ok (.aload_n 0, 1) := by decide +kernel
theorem dX3_addStep_21 : decode cX3_addStep 21 = .ok (.getfield 15, 3) := by decide +kernel
theorem dX3_addStep_24 : decode cX3_addStep 24 = .ok (.aload_n 0, 1) := by decide +kernel
theorem dX3_addStep_25 : decode cX3_addStep 25 = .ok (.getfield 36, 3) := by decide +kernel
theorem dX3_addStep_28 : decode cX3_addStep 28 = .ok (.iload_n 2, 1) := by decide +kernel
theorem dX3_addStep_29 : decode cX3_addStep 29 = .ok (.iastore, 1) := by decide +kernel
theorem dX3_addStep_30 : decode cX3_addStep 30 = .ok (.aload_n 0, 1) := by decide +kernel
theorem dX3_addStep_31 : decode cX3_addStep 31 = .ok (.dup, 1) := by decide +kernel
theorem dX3_addStep_32 : decode cX3_addStep 32 = .ok (.getfield 36, 3) := by decide +kernel
theorem dX3_addStep_35 : decode cX3_addStep 35 = .ok (.iconst 1, 1) := by decide +kernel
theorem dX3_addStep_36 : decode cX3_addStep 36 = .ok (.iadd, 1) := by decide +kernel
theorem dX3_addStep_37 : decode cX3_addStep 37 = .ok (.putfield 36, 3) := by decide +kernel
theorem dX3_addStep_40 : decode cX3_addStep 40 = .ok (.return_, 1) := by decide +kernel
theorem dX3_addExit_0 : decode cX3_addExit 0 = .ok (.aload_n 0, 1) := by decide +kernel
theorem dX3_addExit_1 : decode cX3_addExit 1 = .ok (.iload_n 2, 1) := by decide +kernel
theorem dX3_addExit_2 : decode cX3_addExit 2 = .ok (.invokevirtual 49, 3) := by decide +kernel
theorem dX3_addExit_5 : decode cX3_addExit 5 = .ok (.aload_n 0, 1) := by decide +kernel
theorem dX3_addExit_6 : decode cX3_addExit 6 = .ok (.iload_n 1, 1) := by decide +kernel
theorem dX3_addExit_7 : decode cX3_addExit 7 = .ok (.aload_n 0, 1) := by decide +kernel
theorem dX3_addExit_8 : decode cX3_addExit 8 = .ok (.getfield 36, 3) := by decide +kernel
theorem dX3_addExit_11 : decode cX3_addExit 11 = .ok (.invokevirtual 53, 3) := by decide +kernel
theorem dX3_addExit_14 : decode cX3_addExit 14 = .ok (.aload_n 0, 1) := by decide +kernel
theorem dX3_addExit_15 : decode cX3_addExit 15 = .ok (.getfield 36, 3) := by decide +kernel
theorem dX3_addExit_18 : decode cX3_addExit 18 = .ok (.iconst 1, 1) := by decide +kernel
theorem dX3_addExit_19 : decode cX3_addExit 19 = .ok (.isub, 1) := by decide +kernel
theorem dX3_addExit_20 : decode cX3_addExit 20 = .ok (.ireturn, 1) := by decide +kernel
theorem dX3_endExit_0 : decode cX3_endExit 0 = .ok (.iload_n 1, 1) := by decide +kernel
theorem dX3_endExit_1 : decode cX3_endExit 1 = .ok (.aload_n 0, 1) := by decide +kernel
theorem dX3_endExit_2 : decode cX3_endExit 2 = .ok (.getfield 36, 3) := by decide +kernel
theorem dX3_endExit_5 : decode cX3_endExit 5 = .ok (.invokestatic 57, 3) := by decide +kernel
theorem dX3_endExit_8 : decode cX3_endExit 8 = .ok (.ifCond .eq 13, 3) := by decide +kernel
theorem dX3_endExit_11 : decode cX3_endExit 11 = .ok (.aload_n 0, 1) := by decide +kernel
theorem dX3_endExit_12 : decode cX3_endExit 12 = .ok (.getfield 15, 3) := by decide +kernel
theorem dX3_endExit_15 : decode cX3_endExit 15 = .ok (.iload_n 1, 1) := by decide +kernel
theorem dX3_endExit_16 : decode cX3_endExit 16 = .ok (.aload_n 0, 1) := by decide +kernel
theorem dX3_endExit_17 : decode cX3_endExit 17 = .ok (.getfield 36, 3) := by decide +kernel
theorem dX3_endExit_20 : decode cX3_endExit 20 = .ok (.iastore, 1) := by decide +kernel
theorem dX3_endExit_21 : decode cX3_endExit 21 = .ok (.return_, 1) := by decide +kernel
theorem dX3_askAbout_0 : decode cX3_askAbout 0 = .ok (.aload_n 0, 1) := by decide +kernel
theorem dX3_askAbout_1 : decode cX3_askAbout 1 = .ok (.getfield 30, 3) := by decide +kernel
theorem dX3_askAbout_4 : decode cX3_askAbout 4 = .ok (.iconst 0, 1) := by decide +kernel
theorem dX3_askAbout_5 : decode cX3_askAbout 5 = .ok (.iload_n 1, 1) := by decide +kernel
theorem dX3_askAbout_6 : decode cX3_askAbout 6 = .ok (.iastore, 1) := by decide +kernel
theorem dX3_askAbout_7 : decode cX3_askAbout 7 = .ok (.aload_n 0, 1) := by decide +kernel
theorem dX3_askAbout_8 : decode cX3_askAbout 8 = .ok (.getfield 30, 3) := by decide +kernel
theorem dX3_askAbout_11 : decode cX3_askAbout 11 = .ok (.iconst 1, 1) := by decide +kernel
theorem dX3_askAbout_12 : decode cX3_askAbout 12 = .ok (.aload_n 2, 1) := by decide +kernel
theorem dX3_askAbout_13 : decode cX3_askAbout 13 = .ok (.getfield 61, 3) := by decide +kernel
theorem dX3_askAbout_16 : decode cX3_askAbout 16 = .ok (.iload_n 1, 1) := by decide +kernel
theorem dX3_askAbout_17 : decode cX3_askAbout 17 = .ok (.iaload, 1) := by decide +kernel
theorem dX3_askAbout_18 : decode cX3_askAbout 18 = .ok (.iastore, 1) := by decide +kernel
theorem dX3_askAbout_19 : decode cX3_askAbout 19 = .ok (.aload_n 0, 1) := by decide +kernel
theorem dX3_askAbout_20 : decode cX3_askAbout 20 = .ok (.getfield 30, 3) := by decide +kernel
theorem dX3_askAbout_23 : decode cX3_askAbout 23 = .ok (.iconst 2, 1) := by decide +kernel
theorem dX3_askAbout_24 : decode cX3_askAbout 24 = .ok (.aload_n 3, 1) := by decide +kernel
theorem dX3_askAbout_25 : decode cX3_askAbout 25 = .ok (.getfield 66, 3) := by decide +kernel
theorem dX3_askAbout_28 : decode cX3_askAbout 28 = .ok (.aload_n 2, 1) := by decide +kernel
theorem dX3_askAbout_29 : decode cX3_askAbout 29 = .ok (.getfield 61, 3) := by decide +kernel
theorem dX3_askAbout_32 : decode cX3_askAbout 32 = .ok (.iload_n 1, 1) := by decide +kernel
theorem dX3_askAbout_33 : decode cX3_askAbout 33 = .ok (.iaload, 1) := by decide +kernel
theorem dX3_askAbout_34 : decode cX3_askAbout 34 = .ok (.iaload, 1) := by decide +kernel
theorem dX3_askAbout_35 : decode cX3_askAbout 35 = .ok (.iastore, 1) := by decide +kernel
theorem dX3_askAbout_36 : decode cX3_askAbout 36 = .ok (.aload_n 0, 1) := by decide +kernel
theorem dX3_askAbout_37 : decode cX3_askAbout 37 = .ok (.getfield 30, 3) := by decide +kernel
theorem dX3_askAbout_40 : decode cX3_askAbout 40 = .ok (.iconst 3, 1) := by decide +kernel
theorem dX3_askAbout_41 : decode cX3_askAbout 41 = .ok (.aload_n 2, 1) := by decide +kernel
theorem dX3_askAbout_42 : decode cX3_askAbout 42 = .ok (.getfield 71, 3) := by decide +kernel
theorem dX3_askAbout_45 : decode cX3_askAbout 45 = .ok (.iload_n 1, 1) := by decide +kernel
theorem dX3_askAbout_46 : decode cX3_askAbout 46 = .ok (.iaload, 1) := by decide +kernel
theorem dX3_askAbout_47 : decode cX3_askAbout 47 = .ok (.iastore, 1) := by decide +kernel
theorem dX3_askAbout_48 : decode cX3_askAbout 48 = .ok (.aload_n 0, 1) := by decide +kernel
theorem dX3_askAbout_49 : decode cX3_askAbout 49 = .ok (.getfield 30, 3) := by decide +kernel
theorem dX3_askAbout_52 : decode cX3_askAbout 52 = .ok (.iconst 4, 1) := by decide +kernel
theorem dX3_askAbout_53 : decode cX3_askAbout 53 = .ok (.aload_n 2, 1) := by decide +kernel
theorem dX3_askAbout_54 : decode cX3_askAbout 54 = .ok (.getfield 74, 3) := by decide +kernel
theorem dX3_askAbout_57 : decode cX3_askAbout 57 = .ok (.iload_n 1, 1) := by decide +kernel
theorem dX3_askAbout_58 : decode cX3_askAbout 58 = .ok (.iaload, 1) := by decide +kernel
theorem dX3_askAbout_59 : decode cX3_askAbout 59 = .ok (.iastore, 1) := by decide +kernel
theorem dX3_askAbout_60 : decode cX3_askAbout 60 = .ok (.return_, 1) := by decide +kernel
theorem dX3_askAt_0 : decode cX3_askAt 0 = .ok (.aload_n 0, 1) := by decide +kernel
theorem dX3_askAt_1 : decode cX3_askAt 1 = .ok (.getfield 30, 3) := by decide +kernel
theorem dX3_askAt_4 : decode cX3_askAt 4 = .ok (.iconst 5, 1) := by decide +kernel
theorem dX3_askAt_5 : decode cX3_askAt 5 = .ok (.iload_n 1, 1) := by decide +kernel
theorem dX3_askAt_6 : decode cX3_askAt 6 = .ok (.iastore, 1) := by decide +kernel
theorem dX3_askAt_7 : decode cX3_askAt 7 = .ok (.aload_n 0, 1) := by decide +kernel
theorem dX3_askAt_8 : decode cX3_askAt 8 = .ok (.getfield 30, 3) := by decide +kernel
theorem dX3_askAt_11 : decode cX3_askAt 11 = .ok (.bipush 6, 2) := by decide +kernel
theorem dX3_askAt_13 : decode cX3_askAt 13 = .ok (.iload_n 2, 1) := by decide +kernel
theorem dX3_askAt_14 : decode cX3_askAt 14 = .ok (.iastore, 1) := by decide +kernel
theorem dX3_askAt_15 : decode cX3_askAt 15 = .ok (.aload_n 0, 1) := by decide +kernel
theorem dX3_askAt_16 : decode cX3_askAt 16 = .ok (.getfield 30, 3) := by decide +kernel
theorem dX3_askAt_19 : decode cX3_askAt 19 = .ok (.bipush 7, 2) := by decide +kernel
theorem dX3_askAt_21 : decode cX3_askAt 21 = .ok (.iload_n 3, 1) := by decide +kernel
theorem dX3_askAt_22 : decode cX3_askAt 22 = .ok (.iastore, 1) := by decide +kernel
theorem dX3_askAt_23 : decode cX3_askAt 23 = .ok (.aload_n 0, 1) := by decide +kernel
theorem dX3_askAt_24 : decode cX3_askAt 24 = .ok (.getfield 30, 3) := by decide +kernel
theorem dX3_askAt_27 : decode cX3_askAt 27 = .ok (.bipush 8, 2) := by decide +kernel
theorem dX3_askAt_29 : decode cX3_askAt 29 = .ok (.iload 4, 2) := by decide +kernel
theorem dX3_askAt_31 : decode cX3_askAt 31 = .ok (.iastore, 1) := by decide +kernel
theorem dX3_askAt_32 : decode cX3_askAt 32 = .ok (.return_, 1) := by decide +kernel
theorem dX3_answerBy_0 : decode cX3_answerBy 0 = .ok (.iload_n 1, 1) := by decide +kernel
theorem dX3_answerBy_1 : decode cX3_answerBy 1 = .ok (.bipush 112, 2) := by decide +kernel
theorem dX3_answerBy_3 : decode cX3_answerBy 3 = .ok (.if_icmp .ne 9, 3) := by decide +kernel
theorem dX3_answerBy_6 : decode cX3_answerBy 6 = .ok (.sipush 999, 3) := by decide +kernel
theorem dX3_answerBy_9 : decode cX3_answerBy 9 = .ok (.goto 5, 3) := by decide +kernel
theorem dX3_answerBy_12 : decode cX3_answerBy 12 = .ok (.bipush 99, 2) := by decide +kernel
theorem dX3_answerBy_14 : decode cX3_answerBy 14 = .ok (.istore_n 2, 1) := by decide +kernel
theorem dX3_answerBy_15 : decode cX3_answerBy 15 = .ok (.iconst 0, 1) := by decide +kernel
theorem dX3_answerBy_16 : decode cX3_answerBy 16 = .ok (.istore_n 3, 1) := by decide +kernel
theorem dX3_answerBy_17 : decode cX3_answerBy 17 = .ok (.iload_n 3, 1) := by decide +kernel
theorem dX3_answerBy_18 : decode cX3_answerBy 18 = .ok (.aload_n 0, 1) := by decide +kernel
theorem dX3_answerBy_19 : decode cX3_answerBy 19 = .ok (.getfield 40, 3) := by decide +kernel
theorem dX3_answerBy_22 : decode cX3_answerBy 22 = .ok (.if_icmp .ge 63, 3) := by decide +kernel
theorem dX3_answerBy_25 : decode cX3_answerBy 25 = .ok (.aload_n 0, 1) := by decide +kernel
theorem dX3_answerBy_26 : decode cX3_answerBy 26 = .ok (.getfield 18, 3) := by decide +kernel
theorem dX3_answerBy_29 : decode cX3_answerBy 29 = .ok (.iload_n 3, 1) := by decide +kernel
theorem dX3_answerBy_30 : decode cX3_answerBy 30 = .ok (.iaload, 1) := by decide +kernel
theorem dX3_answerBy_31 : decode cX3_answerBy 31 = .ok (.iload_n 1, 1) := by decide +kernel
theorem dX3_answerBy_32 : decode cX3_answerBy 32 = .ok (.if_icmp .ne 47, 3) := by decide +kernel
theorem dX3_answerBy_35 : decode cX3_answerBy 35 = .ok (.aload_n 0, 1) := by decide +kernel
theorem dX3_answerBy_36 : decode cX3_answerBy 36 = .ok (.aload_n 0, 1) := by decide +kernel
theorem dX3_answerBy_37 : decode cX3_answerBy 37 = .ok (.getfield 24, 3) := by decide +kernel
theorem dX3_answerBy_40 : decode cX3_answerBy 40 = .ok (.iload_n 3, 1) := by decide +kernel
theorem dX3_answerBy_41 : decode cX3_answerBy 41 = .ok (.iaload, 1) := by decide +kernel
theorem dX3_answerBy_42 : decode cX3_answerBy 42 = .ok (.aload_n 0, 1) := by decide +kernel
theorem dX3_answerBy_43 : decode cX3_answerBy 43 = .ok (.getfield 27, 3) := by decide +kernel
theorem dX3_answerBy_46 : decode cX3_answerBy 46 = .ok (.iload_n 3, 1) := by decide +kernel
theorem dX3_answerBy_47 : decode cX3_answerBy 47 = .ok (.iaload, 1) := by decide +kernel
theorem dX3_answerBy_48 : decode cX3_answerBy 48 = .ok (.invokevirtual 77, 3) := by decide +kernel
theorem dX3_answerBy_51 : decode cX3_answerBy 51 = .ok (.ifCond .eq 28, 3) := by decide +kernel
theorem dX3_answerBy_54 : decode cX3_answerBy 54 = .ok (.iconst 0, 1) := by decide +kernel
theorem dX3_answerBy_55 : decode cX3_answerBy 55 = .ok (.iload_n 2, 1) := by decide +kernel
theorem dX3_answerBy_56 : decode cX3_answerBy 56 = .ok (.aload_n 0, 1) := by decide +kernel
theorem dX3_answerBy_57 : decode cX3_answerBy 57 = .ok (.aload_n 0, 1) := by decide +kernel
theorem dX3_answerBy_58 : decode cX3_answerBy 58 = .ok (.getfield 21, 3) := by decide +kernel
theorem dX3_answerBy_61 : decode cX3_answerBy 61 = .ok (.iload_n 3, 1) := by decide +kernel
theorem dX3_answerBy_62 : decode cX3_answerBy 62 = .ok (.iaload, 1) := by decide +kernel
theorem dX3_answerBy_63 : decode cX3_answerBy 63 = .ok (.aload_n 0, 1) := by decide +kernel
theorem dX3_answerBy_64 : decode cX3_answerBy 64 = .ok (.getfield 24, 3) := by decide +kernel
theorem dX3_answerBy_67 : decode cX3_answerBy 67 = .ok (.iload_n 3, 1) := by decide +kernel
theorem dX3_answerBy_68 : decode cX3_answerBy 68 = .ok (.iaload, 1) := by decide +kernel
theorem dX3_answerBy_69 : decode cX3_answerBy 69 = .ok (.invokevirtual 77, 3) := by decide +kernel
theorem dX3_answerBy_72 : decode cX3_answerBy 72 = .ok (.invokestatic 81, 3) := by decide +kernel
theorem dX3_answerBy_75 : decode cX3_answerBy 75 = .ok (.invokestatic 86, 3) := by decide +kernel
theorem dX3_answerBy_78 : decode cX3_answerBy 78 = .ok (.ireturn, 1) := by decide +kernel
theorem dX3_answerBy_79 : decode cX3_answerBy 79 = .ok (.iinc 3 1, 3) := by decide +kernel
theorem dX3_answerBy_82 : decode cX3_answerBy 82 = .ok (.goto (-65), 3) := by decide +kernel
theorem dX3_answerBy_85 : decode cX3_answerBy 85 = .ok (.iload_n 1, 1) := by decide +kernel
theorem dX3_answerBy_86 : decode cX3_answerBy 86 = .ok (.bipush 112, 2) := by decide +kernel
theorem dX3_answerBy_88 : decode cX3_answerBy 88 = .ok (.if_icmp .ne 7, 3) := by decide +kernel
theorem dX3_answerBy_91 : decode cX3_answerBy 91 = .ok (.iconst 0, 1) := by decide +kernel
theorem dX3_answerBy_92 : decode cX3_answerBy 92 = .ok (.goto 4, 3) := by decide +kernel
theorem dX3_answerBy_95 : decode cX3_answerBy 95 = .ok (.iconst 1, 1) := by decide +kernel
theorem dX3_answerBy_96 : decode cX3_answerBy 96 = .ok (.ireturn, 1) := by decide +kernel
theorem dX3_reckon_0 : decode cX3_reckon 0 = .ok (.aload_n 0, 1) := by decide +kernel
theorem dX3_reckon_1 : decode cX3_reckon 1 = .ok (.iconst 0, 1) := by decide +kernel
theorem dX3_reckon_2 : decode cX3_reckon 2 = .ok (.putfield 89, 3) := by decide +kernel
theorem dX3_reckon_5 : decode cX3_reckon 5 = .ok (.aload_n 0, 1) := by decide +kernel
theorem dX3_reckon_6 : decode cX3_reckon 6 = .ok (.iconst 0, 1) := by decide +kernel
theorem dX3_reckon_7 : decode cX3_reckon 7 = .ok (.putfield 92, 3) := by decide +kernel
theorem dX3_reckon_10 : decode cX3_reckon 10 = .ok (.iload_n 1, 1) := by decide +kernel
theorem dX3_reckon_11 : decode cX3_reckon 11 = .ok (.istore_n 3, 1) := by decide +kernel
theorem dX3_reckon_12 : decode cX3_reckon 12 = .ok (.iload_n 3, 1) := by decide +kernel
theorem dX3_reckon_13 : decode cX3_reckon 13 = .ok (.iload_n 2, 1) := by decide +kernel
theorem dX3_reckon_14 : decode cX3_reckon 14 = .ok (.if_icmp .ge 170, 3) := by decide +kernel
theorem dX3_reckon_17 : decode cX3_reckon 17 = .ok (.aload_n 0, 1) := by decide +kernel
theorem dX3_reckon_18 : decode cX3_reckon 18 = .ok (.getfield 92, 3) := by decide +kernel
theorem dX3_reckon_21 : decode cX3_reckon 21 = .ok (.ifCond .ne 163, 3) := by decide +kernel
theorem dX3_reckon_24 : decode cX3_reckon 24 = .ok (.aload_n 0, 1) := by decide +kernel
theorem dX3_reckon_25 : decode cX3_reckon 25 = .ok (.getfield 9, 3) := by decide +kernel
theorem dX3_reckon_28 : decode cX3_reckon 28 = .ok (.iload_n 3, 1) := by decide +kernel
theorem dX3_reckon_29 : decode cX3_reckon 29 = .ok (.iaload, 1) := by decide +kernel
theorem dX3_reckon_30 : decode cX3_reckon 30 = .ok (.istore 4, 2) := by decide +kernel
theorem dX3_reckon_32 : decode cX3_reckon 32 = .ok (.iload 4, 2) := by decide +kernel
theorem dX3_reckon_34 : decode cX3_reckon 34 = .ok (.bipush 78, 2) := by decide +kernel
theorem dX3_reckon_36 : decode cX3_reckon 36 = .ok (.if_icmp .ne 16, 3) := by decide +kernel
theorem dX3_reckon_39 : decode cX3_reckon 39 = .ok (.aload_n 0, 1) := by decide +kernel
theorem dX3_reckon_40 : decode cX3_reckon 40 = .ok (.aload_n 0, 1) := by decide +kernel
theorem dX3_reckon_41 : decode cX3_reckon 41 = .ok (.getfield 15, 3) := by decide +kernel
theorem dX3_reckon_44 : decode cX3_reckon 44 = .ok (.iload_n 3, 1) := by decide +kernel
theorem dX3_reckon_45 : decode cX3_reckon 45 = .ok (.iaload, 1) := by decide +kernel
theorem dX3_reckon_46 : decode cX3_reckon 46 = .ok (.invokevirtual 96, 3) := by decide +kernel
theorem dX3_reckon_49 : decode cX3_reckon 49 = .ok (.goto 129, 3) := by decide +kernel
theorem dX3_reckon_52 : decode cX3_reckon 52 = .ok (.iload 4, 2) := by decide +kernel
theorem dX3_reckon_54 : decode cX3_reckon 54 = .ok (.bipush 76, 2) := by decide +kernel
theorem dX3_reckon_56 : decode cX3_reckon 56 = .ok (.if_icmp .ne 21, 3) := by decide +kernel
theorem dX3_reckon_59 : decode cX3_reckon 59 = .ok (.aload_n 0, 1) := by decide +kernel
theorem dX3_reckon_60 : decode cX3_reckon 60 = .ok (.aload_n 0, 1) := by decide +kernel
theorem dX3_reckon_61 : decode cX3_reckon 61 = .ok (.getfield 30, 3) := by decide +kernel
theorem dX3_reckon_64 : decode cX3_reckon 64 = .ok (.aload_n 0, 1) := by decide +kernel
theorem dX3_reckon_65 : decode cX3_reckon 65 = .ok (.getfield 15, 3) := by decide +kernel
theorem dX3_reckon_68 : decode cX3_reckon 68 = .ok (.iload_n 3, 1) := by decide +kernel
theorem dX3_reckon_69 : decode cX3_reckon 69 = .ok (.iaload, 1) := by decide +kernel
theorem dX3_reckon_70 : decode cX3_reckon 70 = .ok (.iaload, 1) := by decide +kernel
theorem dX3_reckon_71 : decode cX3_reckon 71 = .ok (.invokevirtual 96, 3) := by decide +kernel
theorem dX3_reckon_74 : decode cX3_reckon 74 = .ok (.goto 104, 3) := by decide +kernel
theorem dX3_reckon_77 : decode cX3_reckon 77 = .ok (.iload 4, 2) := by decide +kernel
theorem dX3_reckon_79 : decode cX3_reckon 79 = .ok (.bipush 33, 2) := by decide +kernel
theorem dX3_reckon_81 : decode cX3_reckon 81 = .ok (.if_icmp .ne 16, 3) := by decide +kernel
theorem dX3_reckon_84 : decode cX3_reckon 84 = .ok (.aload_n 0, 1) := by decide +kernel
theorem dX3_reckon_85 : decode cX3_reckon 85 = .ok (.iconst 1, 1) := by decide +kernel
theorem dX3_reckon_86 : decode cX3_reckon 86 = .ok (.aload_n 0, 1) := by decide +kernel
theorem dX3_reckon_87 : decode cX3_reckon 87 = .ok (.invokevirtual 99, 3) := by decide +kernel
theorem dX3_reckon_90 : decode cX3_reckon 90 = .ok (.isub, 1) := by decide +kernel
theorem dX3_reckon_91 : decode cX3_reckon 91 = .ok (.invokevirtual 96, 3) := by decide +kernel
theorem dX3_reckon_94 : decode cX3_reckon 94 = .ok (.goto 84, 3) := by decide +kernel
theorem dX3_reckon_97 : decode cX3_reckon 97 = .ok (.iload 4, 2) := by decide +kernel
theorem dX3_reckon_99 : decode cX3_reckon 99 = .ok (.bipush 38, 2) := by decide +kernel
theorem dX3_reckon_101 : decode cX3_reckon 101 = .ok (.if_icmp .eq 10, 3) := by decide +kernel
theorem dX3_reckon_104 : decode cX3_reckon 104 = .ok (.iload 4, 2) := by decide +kernel
theorem dX3_reckon_106 : decode cX3_reckon 106 = .ok (.bipush 124, 2) := by decide +kernel
theorem dX3_reckon_108 : decode cX3_reckon 108 = .ok (.if_icmp .ne 48, 3) := by decide +kernel
theorem dX3_reckon_111 : decode cX3_reckon 111 = .ok (.aload_n 0, 1) := by decide +kernel
theorem dX3_reckon_112 : decode cX3_reckon 112 = .ok (.invokevirtual 99, 3) := by decide +kernel
theorem dX3_reckon_115 : decode cX3_reckon 115 = .ok (.istore 5, 2) := by decide +kernel
theorem dX3_reckon_117 : decode cX3_reckon 117 = .ok (.iload 5, 2) := by decide +kernel
theorem dX3_reckon_119 : decode cX3_reckon 119 = .ok (.iload 4, 2) := by decide +kernel
theorem dX3_reckon_121 : decode cX3_reckon 121 = .ok (.bipush 124, 2) := by decide +kernel
theorem dX3_reckon_123 : decode cX3_reckon 123 = .ok (.if_icmp .ne 7, 3) := by decide +kernel
theorem dX3_reckon_126 : decode cX3_reckon 126 = .ok (.iconst 1, 1) := by decide +kernel
theorem dX3_reckon_127 : decode cX3_reckon 127 = .ok (.goto 4, 3) := by decide +kernel
theorem dX3_reckon_130 : decode cX3_reckon 130 = .ok (.iconst 0, 1) := by decide +kernel
theorem dX3_reckon_131 : decode cX3_reckon 131 = .ok (.if_icmp .ne 22, 3) := by decide +kernel
theorem dX3_reckon_134 : decode cX3_reckon 134 = .ok (.aload_n 0, 1) := by decide +kernel
theorem dX3_reckon_135 : decode cX3_reckon 135 = .ok (.iload 5, 2) := by decide +kernel
theorem dX3_reckon_137 : decode cX3_reckon 137 = .ok (.invokevirtual 96, 3) := by decide +kernel
theorem dX3_reckon_140 : decode cX3_reckon 140 = .ok (.iload_n 3, 1) := by decide +kernel
theorem dX3_reckon_141 : decode cX3_reckon 141 = .ok (.aload_n 0, 1) := by decide +kernel
theorem dX3_reckon_142 : decode cX3_reckon 142 = .ok (.getfield 15, 3) := by decide +kernel
theorem dX3_reckon_145 : decode cX3_reckon 145 = .ok (.iload_n 3, 1) := by decide +kernel
theorem dX3_reckon_146 : decode cX3_reckon 146 = .ok (.iaload, 1) := by decide +kernel
theorem dX3_reckon_147 : decode cX3_reckon 147 = .ok (.iconst 1, 1) := by decide +kernel
theorem dX3_reckon_148 : decode cX3_reckon 148 = .ok (.isub, 1) := by decide +kernel
theorem dX3_reckon_149 : decode cX3_reckon 149 = .ok (.invokestatic 86, 3) := by decide +kernel
theorem dX3_reckon_152 : decode cX3_reckon 152 = .ok (.istore_n 3, 1) := by decide +kernel
theorem dX3_reckon_153 : decode cX3_reckon 153 = .ok (.goto 25, 3) := by decide +kernel
theorem dX3_reckon_156 : decode cX3_reckon 156 = .ok (.aload_n 0, 1) := by decide +kernel
theorem dX3_reckon_157 : decode cX3_reckon 157 = .ok (.invokevirtual 99, 3) := by decide +kernel
theorem dX3_reckon_160 : decode cX3_reckon 160 = .ok (.istore 5, 2) := by decide +kernel
theorem dX3_reckon_162 : decode cX3_reckon 162 = .ok (.aload_n 0, 1) := by decide +kernel
theorem dX3_reckon_163 : decode cX3_reckon 163 = .ok (.aload_n 0, 1) := by decide +kernel
theorem dX3_reckon_164 : decode cX3_reckon 164 = .ok (.iload 4, 2) := by decide +kernel
theorem dX3_reckon_166 : decode cX3_reckon 166 = .ok (.aload_n 0, 1) := by decide +kernel
theorem dX3_reckon_167 : decode cX3_reckon 167 = .ok (.invokevirtual 99, 3) := by decide +kernel
theorem dX3_reckon_170 : decode cX3_reckon 170 = .ok (.iload 5, 2) := by decide +kernel
theorem dX3_reckon_172 : decode cX3_reckon 172 = .ok (.invokevirtual 103, 3) := by decide +kernel
theorem dX3_reckon_175 : decode cX3_reckon 175 = .ok (.invokevirtual 96, 3) := by decide +kernel
theorem dX3_reckon_178 : decode cX3_reckon 178 = .ok (.iinc 3 1, 3) := by decide +kernel
theorem dX3_reckon_181 : decode cX3_reckon 181 = .ok (.goto (-169), 3) := by decide +kernel
theorem dX3_reckon_184 : decode cX3_reckon 184 = .ok (.aload_n 0, 1) := by decide +kernel
theorem dX3_reckon_185 : decode cX3_reckon 185 = .ok (.getfield 92, 3) := by decide +kernel
theorem dX3_reckon_188 : decode cX3_reckon 188 = .ok (.ifCond .eq 7, 3) := by decide +kernel
theorem dX3_reckon_191 : decode cX3_reckon 191 = .ok (.iconst 0, 1) := by decide +kernel
theorem dX3_reckon_192 : decode cX3_reckon 192 = .ok (.goto 7, 3) := by decide +kernel
theorem dX3_reckon_195 : decode cX3_reckon 195 = .ok (.aload_n 0, 1) := by decide +kernel
theorem dX3_reckon_196 : decode cX3_reckon 196 = .ok (.invokevirtual 99, 3) := by decide +kernel
theorem dX3_reckon_199 : decode cX3_reckon 199 = .ok (.ireturn, 1) := by decide +kernel
theorem dX3_join_0 : decode cX3_join 0 = .ok (.iload_n 1, 1) := by decide +kernel
theorem dX3_join_1 : decode cX3_join 1 = .ok (.lookupswitch 104 #[(42, 67), (43, 59), (45, 63), (60, 71), (61, 93), (62, 82)], 59) := by decide +kernel
theorem dX3_join_60 : decode cX3_join 60 = .ok (.iload_n 2, 1) := by decide +kernel
theorem dX3_join_61 : decode cX3_join 61 = .ok (.iload_n 3, 1) := by decide +kernel
theorem dX3_join_62 : decode cX3_join 62 = .ok (.iadd, 1) := by decide +kernel
theorem dX3_join_63 : decode cX3_join 63 = .ok (.ireturn, 1) := by decide +kernel
theorem dX3_join_64 : decode cX3_join 64 = .ok (.iload_n 2, 1) := by decide +kernel
theorem dX3_join_65 : decode cX3_join 65 = .ok (.iload_n 3, 1) := by decide +kernel
theorem dX3_join_66 : decode cX3_join 66 = .ok (.isub, 1) := by decide +kernel
theorem dX3_join_67 : decode cX3_join 67 = .ok (.ireturn, 1) := by decide +kernel
theorem dX3_join_68 : decode cX3_join 68 = .ok (.iload_n 2, 1) := by decide +kernel
theorem dX3_join_69 : decode cX3_join 69 = .ok (.iload_n 3, 1) := by decide +kernel
theorem dX3_join_70 : decode cX3_join 70 = .ok (.imul, 1) := by decide +kernel
theorem dX3_join_71 : decode cX3_join 71 = .ok (.ireturn, 1) := by decide +kernel
theorem dX3_join_72 : decode cX3_join 72 = .ok (.iload_n 2, 1) := by decide +kernel
theorem dX3_join_73 : decode cX3_join 73 = .ok (.iload_n 3, 1) := by decide +kernel
theorem dX3_join_74 : decode cX3_join 74 = .ok (.if_icmp .ge 7, 3) := by decide +kernel
theorem dX3_join_77 : decode cX3_join 77 = .ok (.iconst 1, 1) := by decide +kernel
theorem dX3_join_78 : decode cX3_join 78 = .ok (.goto 4, 3) := by decide +kernel
theorem dX3_join_81 : decode cX3_join 81 = .ok (.iconst 0, 1) := by decide +kernel
theorem dX3_join_82 : decode cX3_join 82 = .ok (.ireturn, 1) := by decide +kernel
theorem dX3_join_83 : decode cX3_join 83 = .ok (.iload_n 2, 1) := by decide +kernel
theorem dX3_join_84 : decode cX3_join 84 = .ok (.iload_n 3, 1) := by decide +kernel
theorem dX3_join_85 : decode cX3_join 85 = .ok (.if_icmp .le 7, 3) := by decide +kernel
theorem dX3_join_88 : decode cX3_join 88 = .ok (.iconst 1, 1) := by decide +kernel
theorem dX3_join_89 : decode cX3_join 89 = .ok (.goto 4, 3) := by decide +kernel
theorem dX3_join_92 : decode cX3_join 92 = .ok (.iconst 0, 1) := by decide +kernel
theorem dX3_join_93 : decode cX3_join 93 = .ok (.ireturn, 1) := by decide +kernel
theorem dX3_join_94 : decode cX3_join 94 = .ok (.iload_n 2, 1) := by decide +kernel
theorem dX3_join_95 : decode cX3_join 95 = .ok (.iload_n 3, 1) := by decide +kernel
theorem dX3_join_96 : decode cX3_join 96 = .ok (.if_icmp .ne 7, 3) := by decide +kernel
theorem dX3_join_99 : decode cX3_join 99 = .ok (.iconst 1, 1) := by decide +kernel
theorem dX3_join_100 : decode cX3_join 100 = .ok (.goto 4, 3) := by decide +kernel
theorem dX3_join_103 : decode cX3_join 103 = .ok (.iconst 0, 1) := by decide +kernel
theorem dX3_join_104 : decode cX3_join 104 = .ok (.ireturn, 1) := by decide +kernel
theorem dX3_join_105 : decode cX3_join 105 = .ok (.iload_n 3, 1) := by decide +kernel
theorem dX3_join_106 : decode cX3_join 106 = .ok (.ifCond .ne 10, 3) := by decide +kernel
theorem dX3_join_109 : decode cX3_join 109 = .ok (.aload_n 0, 1) := by decide +kernel
theorem dX3_join_110 : decode cX3_join 110 = .ok (.iconst 1, 1) := by decide +kernel
theorem dX3_join_111 : decode cX3_join 111 = .ok (.putfield 92, 3) := by decide +kernel
theorem dX3_join_114 : decode cX3_join 114 = .ok (.iconst 0, 1) := by decide +kernel
theorem dX3_join_115 : decode cX3_join 115 = .ok (.ireturn, 1) := by decide +kernel
theorem dX3_join_116 : decode cX3_join 116 = .ok (.iload_n 1, 1) := by decide +kernel
theorem dX3_join_117 : decode cX3_join 117 = .ok (.bipush 47, 2) := by decide +kernel
theorem dX3_join_119 : decode cX3_join 119 = .ok (.if_icmp .ne 9, 3) := by decide +kernel
theorem dX3_join_122 : decode cX3_join 122 = .ok (.iload_n 2, 1) := by decide +kernel
theorem dX3_join_123 : decode cX3_join 123 = .ok (.iload_n 3, 1) := by decide +kernel
theorem dX3_join_124 : decode cX3_join 124 = .ok (.idiv, 1) := by decide +kernel
theorem dX3_join_125 : decode cX3_join 125 = .ok (.goto 6, 3) := by decide +kernel
theorem dX3_join_128 : decode cX3_join 128 = .ok (.iload_n 2, 1) := by decide +kernel
theorem dX3_join_129 : decode cX3_join 129 = .ok (.iload_n 3, 1) := by decide +kernel
theorem dX3_join_130 : decode cX3_join 130 = .ok (.irem, 1) := by decide +kernel
theorem dX3_join_131 : decode cX3_join 131 = .ok (.ireturn, 1) := by decide +kernel
theorem dX3_push_0 : decode cX3_push 0 = .ok (.aload_n 0, 1) := by decide +kernel
theorem dX3_push_1 : decode cX3_push 1 = .ok (.getfield 89, 3) := by decide +kernel
theorem dX3_push_4 : decode cX3_push 4 = .ok (.aload_n 0, 1) := by decide +kernel
theorem dX3_push_5 : decode cX3_push 5 = .ok (.getfield 33, 3) := by decide +kernel
theorem dX3_push_8 : decode cX3_push 8 = .ok (.arraylength, 1) := by decide +kernel
theorem dX3_push_9 : decode cX3_push 9 = .ok (.if_icmp .ge 23, 3) := by decide +kernel
theorem dX3_push_12 : decode cX3_push 12 = .ok (.aload_n 0, 1) := by decide +kernel
theorem dX3_push_13 : decode cX3_push 13 = .ok (.getfield 33, 3) := by decide +kernel
theorem dX3_push_16 : decode cX3_push 16 = .ok (.aload_n 0, 1) := by decide +kernel
theorem dX3_push_17 : decode cX3_push 17 = .ok (.getfield 89, 3) := by decide +kernel
theorem dX3_push_20 : decode cX3_push 20 = .ok (.iload_n 1, 1) := by decide +kernel
theorem dX3_push_21 : decode cX3_push 21 = .ok (.iastore, 1) := by decide +kernel
theorem dX3_push_22 : decode cX3_push 22 = .ok (.aload_n 0, 1) := by decide +kernel
theorem dX3_push_23 : decode cX3_push 23 = .ok (.dup, 1) := by decide +kernel
theorem dX3_push_24 : decode cX3_push 24 = .ok (.getfield 89, 3) := by decide +kernel
theorem dX3_push_27 : decode cX3_push 27 = .ok (.iconst 1, 1) := by decide +kernel
theorem dX3_push_28 : decode cX3_push 28 = .ok (.iadd, 1) := by decide +kernel
theorem dX3_push_29 : decode cX3_push 29 = .ok (.putfield 89, 3) := by decide +kernel
theorem dX3_push_32 : decode cX3_push 32 = .ok (.return_, 1) := by decide +kernel
theorem dX3_pop_0 : decode cX3_pop 0 = .ok (.aload_n 0, 1) := by decide +kernel
theorem dX3_pop_1 : decode cX3_pop 1 = .ok (.getfield 89, 3) := by decide +kernel
theorem dX3_pop_4 : decode cX3_pop 4 = .ok (.iconst 1, 1) := by decide +kernel
theorem dX3_pop_5 : decode cX3_pop 5 = .ok (.if_icmp .ge 5, 3) := by decide +kernel
theorem dX3_pop_8 : decode cX3_pop 8 = .ok (.iconst 0, 1) := by decide +kernel
theorem dX3_pop_9 : decode cX3_pop 9 = .ok (.ireturn, 1) := by decide +kernel
theorem dX3_pop_10 : decode cX3_pop 10 = .ok (.aload_n 0, 1) := by decide +kernel
theorem dX3_pop_11 : decode cX3_pop 11 = .ok (.dup, 1) := by decide +kernel
theorem dX3_pop_12 : decode cX3_pop 12 = .ok (.getfield 89, 3) := by decide +kernel
theorem dX3_pop_15 : decode cX3_pop 15 = .ok (.iconst 1, 1) := by decide +kernel
theorem dX3_pop_16 : decode cX3_pop 16 = .ok (.isub, 1) := by decide +kernel
theorem dX3_pop_17 : decode cX3_pop 17 = .ok (.putfield 89, 3) := by decide +kernel
theorem dX3_pop_20 : decode cX3_pop 20 = .ok (.aload_n 0, 1) := by decide +kernel
theorem dX3_pop_21 : decode cX3_pop 21 = .ok (.getfield 33, 3) := by decide +kernel
theorem dX3_pop_24 : decode cX3_pop 24 = .ok (.aload_n 0, 1) := by decide +kernel
theorem dX3_pop_25 : decode cX3_pop 25 = .ok (.getfield 89, 3) := by decide +kernel
theorem dX3_pop_28 : decode cX3_pop 28 = .ok (.iaload, 1) := by decide +kernel
theorem dX3_pop_29 : decode cX3_pop 29 = .ok (.ireturn, 1) := by decide +kernel
theorem dX4_init_0 : decode cX4_init 0 = .ok (.aload_n 0, 1) := by decide +kernel
theorem dX4_init_1 : decode cX4_init 1 = .ok (.invokespecial 3, 3) := by decide +kernel
theorem dX4_init_4 : decode cX4_init 4 = .ok (.aload_n 0, 1) := by decide +kernel
theorem dX4_init_5 : decode cX4_init 5 = .ok (.aload_n 1, 1) := by decide +kernel
theorem dX4_init_6 : decode cX4_init 6 = .ok (.putfield 9, 3) := by decide +kernel
theorem dX4_init_9 : decode cX4_init 9 = .ok (.aload_n 0, 1) := by decide +kernel
theorem dX4_init_10 : decode cX4_init 10 = .ok (.aload_n 2, 1) := by decide +kernel
theorem dX4_init_11 : decode cX4_init 11 = .ok (.putfield 15, 3) := by decide +kernel
theorem dX4_init_14 : decode cX4_init 14 = .ok (.return_, 1) := by decide +kernel
theorem dX4_read_0 : decode cX4_read 0 = .ok (.aload_n 0, 1) := by decide +kernel
theorem dX4_read_1 : decode cX4_read 1 = .ok (.getfield 9, 3) := by decide +kernel
theorem dX4_read_4 : decode cX4_read 4 = .ok (.iload_n 1, 1) := by decide +kernel
theorem dX4_read_5 : decode cX4_read 5 = .ok (.invokevirtual 19, 3) := by decide +kernel
theorem dX4_read_8 : decode cX4_read 8 = .ok (.aload_n 0, 1) := by decide +kernel
theorem dX4_read_9 : decode cX4_read 9 = .ok (.getfield 15, 3) := by decide +kernel
theorem dX4_read_12 : decode cX4_read 12 = .ok (.invokevirtual 25, 3) := by decide +kernel
theorem dX4_read_15 : decode cX4_read 15 = .ok (.iconst 0, 1) := by decide +kernel
theorem dX4_read_16 : decode cX4_read 16 = .ok (.istore_n 2, 1) := by decide +kernel
theorem dX4_read_17 : decode cX4_read 17 = .ok (.iload_n 2, 1) := by decide +kernel
theorem dX4_read_18 : decode cX4_read 18 = .ok (.bipush 12, 2) := by decide +kernel
theorem dX4_read_20 : decode cX4_read 20 = .ok (.if_icmp .gt 59, 3) := by decide +kernel
theorem dX4_read_23 : decode cX4_read 23 = .ok (.aload_n 0, 1) := by decide +kernel
theorem dX4_read_24 : decode cX4_read 24 = .ok (.iload_n 2, 1) := by decide +kernel
theorem dX4_read_25 : decode cX4_read 25 = .ok (.invokevirtual 30, 3) := by decide +kernel
theorem dX4_read_28 : decode cX4_read 28 = .ok (.ifCond .ne 11, 3) := by decide +kernel
theorem dX4_read_31 : decode cX4_read 31 = .ok (.aload_n 0, 1) := by decide +kernel
theorem dX4_read_32 : decode cX4_read 32 = .ok (.getfield 9, 3) := by decide +kernel
theorem dX4_read_35 : decode cX4_read 35 = .ok (.getfield 34, 3) := by decide +kernel
theorem dX4_read_38 : decode cX4_read 38 = .ok (.ireturn, 1) := by decide +kernel
theorem dX4_read_39 : decode cX4_read 39 = .ok (.aload_n 0, 1) := by decide +kernel
theorem dX4_read_40 : decode cX4_read 40 = .ok (.getfield 9, 3) := by decide +kernel
theorem dX4_read_43 : decode cX4_read 43 = .ok (.invokevirtual 38, 3) := by decide +kernel
theorem dX4_read_46 : decode cX4_read 46 = .ok (.ifCond .eq 7, 3) := by decide +kernel
theorem dX4_read_49 : decode cX4_read 49 = .ok (.iload_n 2, 1) := by decide +kernel
theorem dX4_read_50 : decode cX4_read 50 = .ok (.iconst 1, 1) := by decide +kernel
theorem dX4_read_51 : decode cX4_read 51 = .ok (.iadd, 1) := by decide +kernel
theorem dX4_read_52 : decode cX4_read 52 = .ok (.ireturn, 1) := by decide +kernel
theorem dX4_read_53 : decode cX4_read 53 = .ok (.aload_n 0, 1) := by decide +kernel
theorem dX4_read_54 : decode cX4_read 54 = .ok (.getfield 9, 3) := by decide +kernel
theorem dX4_read_57 : decode cX4_read 57 = .ok (.bipush 59, 2) := by decide +kernel
theorem dX4_read_59 : decode cX4_read 59 = .ok (.invokevirtual 42, 3) := by decide +kernel
theorem dX4_read_62 : decode cX4_read 62 = .ok (.ifCond .ne 11, 3) := by decide +kernel
theorem dX4_read_65 : decode cX4_read 65 = .ok (.aload_n 0, 1) := by decide +kernel
theorem dX4_read_66 : decode cX4_read 66 = .ok (.getfield 9, 3) := by decide +kernel
theorem dX4_read_69 : decode cX4_read 69 = .ok (.getfield 34, 3) := by decide +kernel
theorem dX4_read_72 : decode cX4_read 72 = .ok (.ireturn, 1) := by decide +kernel
theorem dX4_read_73 : decode cX4_read 73 = .ok (.iinc 2 1, 3) := by decide +kernel
theorem dX4_read_76 : decode cX4_read 76 = .ok (.goto (-59), 3) := by decide +kernel
theorem dX4_read_79 : decode cX4_read 79 = .ok (.aload_n 0, 1) := by decide +kernel
theorem dX4_read_80 : decode cX4_read 80 = .ok (.getfield 9, 3) := by decide +kernel
theorem dX4_read_83 : decode cX4_read 83 = .ok (.getfield 34, 3) := by decide +kernel
theorem dX4_read_86 : decode cX4_read 86 = .ok (.ireturn, 1) := by decide +kernel
theorem dX4_readClause_0 : decode cX4_readClause 0 = .ok (.aload_n 0, 1) := by decide +kernel
theorem dX4_readClause_1 : decode cX4_readClause 1 = .ok (.getfield 9, 3) := by decide +kernel
theorem dX4_readClause_4 : decode cX4_readClause 4 = .ok (.getfield 46, 3) := by decide +kernel
theorem dX4_readClause_7 : decode cX4_readClause 7 = .ok (.istore_n 2, 1) := by decide +kernel
theorem dX4_readClause_8 : decode cX4_readClause 8 = .ok (.aload_n 0, 1) := by decide +kernel
theorem dX4_readClause_9 : decode cX4_readClause 9 = .ok (.getfield 9, 3) := by decide +kernel
theorem dX4_readClause_12 : decode cX4_readClause 12 = .ok (.ldc 49, 2) := by decide +kernel
theorem dX4_readClause_14 : decode cX4_readClause 14 = .ok (.invokevirtual 51, 3) := by decide +kernel
theorem dX4_readClause_17 : decode cX4_readClause 17 = .ok (.iconst (-1), 1) := by decide +kernel
theorem dX4_readClause_18 : decode cX4_readClause 18 = .ok (.if_icmp .ne 12, 3) := by decide +kernel
theorem dX4_readClause_21 : decode cX4_readClause 21 = .ok (.aload_n 0, 1) := by decide +kernel
theorem dX4_readClause_22 : decode cX4_readClause 22 = .ok (.getfield 9, 3) := by decide +kernel
theorem dX4_readClause_25 : decode cX4_readClause 25 = .ok (.iconst 1, 1) := by decide +kernel
theorem dX4_readClause_26 : decode cX4_readClause 26 = .ok (.invokevirtual 55, 3) := by decide +kernel
theorem dX4_readClause_29 : decode cX4_readClause 29 = .ok (.ireturn, 1) := by decide +kernel
theorem dX4_readClause_30 : decode cX4_readClause 30 = .ok (.iload_n 1, 1) := by decide +kernel
theorem dX4_readClause_31 : decode cX4_readClause 31 = .ok (.bipush 12, 2) := by decide +kernel
theorem dX4_readClause_33 : decode cX4_readClause 33 = .ok (.if_icmp .lt 12, 3) := by decide +kernel
theorem dX4_readClause_36 : decode cX4_readClause 36 = .ok (.aload_n 0, 1) := by decide +kernel
theorem dX4_readClause_37 : decode cX4_readClause 37 = .ok (.getfield 9, 3) := by decide +kernel
theorem dX4_readClause_40 : decode cX4_readClause 40 = .ok (.iconst 4, 1) := by decide +kernel
theorem dX4_readClause_41 : decode cX4_readClause 41 = .ok (.invokevirtual 55, 3) := by decide +kernel
theorem dX4_readClause_44 : decode cX4_readClause 44 = .ok (.ireturn, 1) := by decide +kernel
theorem dX4_readClause_45 : decode cX4_readClause 45 = .ok (.aload_n 0, 1) := by decide +kernel
theorem dX4_readClause_46 : decode cX4_readClause 46 = .ok (.getfield 9, 3) := by decide +kernel
theorem dX4_readClause_49 : decode cX4_readClause 49 = .ok (.invokevirtual 58, 3) := by decide +kernel
theorem dX4_readClause_52 : decode cX4_readClause 52 = .ok (.aload_n 0, 1) := by decide +kernel
theorem dX4_readClause_53 : decode cX4_readClause 53 = .ok (.getfield 15, 3) := by decide +kernel
theorem dX4_readClause_56 : decode cX4_readClause 56 = .ok (.getfield 61, 3) := by decide +kernel
theorem dX4_readClause_59 : decode cX4_readClause 59 = .ok (.istore_n 3, 1) := by decide +kernel
theorem dX4_readClause_60 : decode cX4_readClause 60 = .ok (.aload_n 0, 1) := by decide +kernel
theorem dX4_readClause_61 : decode cX4_readClause 61 = .ok (.iconst 0, 1) := by decide +kernel
theorem dX4_readClause_62 : decode cX4_readClause 62 = .ok (.invokevirtual 64, 3) := by decide +kernel
theorem dX4_readClause_65 : decode cX4_readClause 65 = .ok (.ifCond .ne 5, 3) := by decide +kernel
theorem dX4_readClause_68 : decode cX4_readClause 68 = .ok (.iconst 0, 1) := by decide +kernel
theorem dX4_readClause_69 : decode cX4_readClause 69 = .ok (.ireturn, 1) := by decide +kernel
theorem dX4_readClause_70 : decode cX4_readClause 70 = .ok (.aload_n 0, 1) := by decide +kernel
theorem dX4_readClause_71 : decode cX4_readClause 71 = .ok (.getfield 15, 3) := by decide +kernel
theorem dX4_readClause_74 : decode cX4_readClause 74 = .ok (.getfield 61, 3) := by decide +kernel
theorem dX4_readClause_77 : decode cX4_readClause 77 = .ok (.istore 4, 2) := by decide +kernel
theorem dX4_readClause_79 : decode cX4_readClause 79 = .ok (.aload_n 0, 1) := by decide +kernel
theorem dX4_readClause_80 : decode cX4_readClause 80 = .ok (.getfield 9, 3) := by decide +kernel
theorem dX4_readClause_83 : decode cX4_readClause 83 = .ok (.bipush 40, 2) := by decide +kernel
theorem dX4_readClause_85 : decode cX4_readClause 85 = .ok (.invokevirtual 42, 3) := by decide +kernel
theorem dX4_readClause_88 : decode cX4_readClause 88 = .ok (.ifCond .eq 23, 3) := by decide +kernel
theorem dX4_readClause_91 : decode cX4_readClause 91 = .ok (.aload_n 0, 1) := by decide +kernel
theorem dX4_readClause_92 : decode cX4_readClause 92 = .ok (.iconst 1, 1) := by decide +kernel
theorem dX4_readClause_93 : decode cX4_readClause 93 = .ok (.invokevirtual 67, 3) := by decide +kernel
theorem dX4_readClause_96 : decode cX4_readClause 96 = .ok (.ifCond .eq 15, 3) := by decide +kernel
theorem dX4_readClause_99 : decode cX4_readClause 99 = .ok (.aload_n 0, 1) := by decide +kernel
theorem dX4_readClause_100 : decode cX4_readClause 100 = .ok (.getfield 9, 3) := by decide +kernel
theorem dX4_readClause_103 : decode cX4_readClause 103 = .ok (.bipush 41, 2) := by decide +kernel
theorem dX4_readClause_105 : decode cX4_readClause 105 = .ok (.invokevirtual 42, 3) := by decide +kernel
theorem dX4_readClause_108 : decode cX4_readClause 108 = .ok (.ifCond .ne 5, 3) := by decide +kernel
theorem dX4_readClause_111 : decode cX4_readClause 111 = .ok (.iconst 0, 1) := by decide +kernel
theorem dX4_readClause_112 : decode cX4_readClause 112 = .ok (.ireturn, 1) := by decide +kernel
theorem dX4_readClause_113 : decode cX4_readClause 113 = .ok (.aload_n 0, 1) := by decide +kernel
theorem dX4_readClause_114 : decode cX4_readClause 114 = .ok (.getfield 15, 3) := by decide +kernel
theorem dX4_readClause_117 : decode cX4_readClause 117 = .ok (.iload_n 2, 1) := by decide +kernel
theorem dX4_readClause_118 : decode cX4_readClause 118 = .ok (.iload_n 3, 1) := by decide +kernel
theorem dX4_readClause_119 : decode cX4_readClause 119 = .ok (.iload 4, 2) := by decide +kernel
theorem dX4_readClause_121 : decode cX4_readClause 121 = .ok (.invokevirtual 70, 3) := by decide +kernel
theorem dX4_readClause_124 : decode cX4_readClause 124 = .ok (.iconst 1, 1) := by decide +kernel
theorem dX4_readClause_125 : decode cX4_readClause 125 = .ok (.ireturn, 1) := by decide +kernel
theorem dX4_readCondition_0 : decode cX4_readCondition 0 = .ok (.iconst (-1), 1) := by decide +kernel
theorem dX4_readCondition_1 : decode cX4_readCondition 1 = .ok (.istore_n 2, 1) := by decide +kernel
theorem dX4_readCondition_2 : decode cX4_readCondition 2 = .ok (.iconst 0, 1) := by decide +kernel
theorem dX4_readCondition_3 : decode cX4_readCondition 3 = .ok (.istore_n 3, 1) := by decide +kernel
theorem dX4_readCondition_4 : decode cX4_readCondition 4 = .ok (.iload_n 3, 1) := by decide +kernel
theorem dX4_readCondition_5 : decode cX4_readCondition 5 = .ok (.sipush 160, 3) := by decide +kernel
theorem dX4_readCondition_8 : decode cX4_readCondition 8 = .ok (.if_icmp .ge 52, 3) := by decide +kernel
theorem dX4_readCondition_11 : decode cX4_readCondition 11 = .ok (.aload_n 0, 1) := by decide +kernel
theorem dX4_readCondition_12 : decode cX4_readCondition 12 = .ok (.iload_n 1, 1) := by decide +kernel
theorem dX4_readCondition_13 : decode cX4_readCondition 13 = .ok (.invokevirtual 74, 3) := by decide +kernel
theorem dX4_readCondition_16 : decode cX4_readCondition 16 = .ok (.ifCond .ne 5, 3) := by decide +kernel
theorem dX4_readCondition_19 : decode cX4_readCondition 19 = .ok (.iconst 0, 1) := by decide +kernel
theorem dX4_readCondition_20 : decode cX4_readCondition 20 = .ok (.ireturn, 1) := by decide +kernel
theorem dX4_readCondition_21 : decode cX4_readCondition 21 = .ok (.aload_n 0, 1) := by decide +kernel
theorem dX4_readCondition_22 : decode cX4_readCondition 22 = .ok (.getfield 9, 3) := by decide +kernel
theorem dX4_readCondition_25 : decode cX4_readCondition 25 = .ok (.getfield 46, 3) := by decide +kernel
theorem dX4_readCondition_28 : decode cX4_readCondition 28 = .ok (.bipush 124, 2) := by decide +kernel
theorem dX4_readCondition_30 : decode cX4_readCondition 30 = .ok (.if_icmp .eq 6, 3) := by decide +kernel
theorem dX4_readCondition_33 : decode cX4_readCondition 33 = .ok (.goto 27, 3) := by decide +kernel
theorem dX4_readCondition_36 : decode cX4_readCondition 36 = .ok (.aload_n 0, 1) := by decide +kernel
theorem dX4_readCondition_37 : decode cX4_readCondition 37 = .ok (.getfield 9, 3) := by decide +kernel
theorem dX4_readCondition_40 : decode cX4_readCondition 40 = .ok (.invokevirtual 58, 3) := by decide +kernel
theorem dX4_readCondition_43 : decode cX4_readCondition 43 = .ok (.aload_n 0, 1) := by decide +kernel
theorem dX4_readCondition_44 : decode cX4_readCondition 44 = .ok (.getfield 15, 3) := by decide +kernel
theorem dX4_readCondition_47 : decode cX4_readCondition 47 = .ok (.bipush 124, 2) := by decide +kernel
theorem dX4_readCondition_49 : decode cX4_readCondition 49 = .ok (.iload_n 2, 1) := by decide +kernel
theorem dX4_readCondition_50 : decode cX4_readCondition 50 = .ok (.invokevirtual 77, 3) := by decide +kernel
theorem dX4_readCondition_53 : decode cX4_readCondition 53 = .ok (.istore_n 2, 1) := by decide +kernel
theorem dX4_readCondition_54 : decode cX4_readCondition 54 = .ok (.iinc 3 1, 3) := by decide +kernel
theorem dX4_readCondition_57 : decode cX4_readCondition 57 = .ok (.goto (-53), 3) := by decide +kernel
theorem dX4_readCondition_60 : decode cX4_readCondition 60 = .ok (.aload_n 0, 1) := by decide +kernel
theorem dX4_readCondition_61 : decode cX4_readCondition 61 = .ok (.getfield 15, 3) := by decide +kernel
theorem dX4_readCondition_64 : decode cX4_readCondition 64 = .ok (.iload_n 2, 1) := by decide +kernel
theorem dX4_readCondition_65 : decode cX4_readCondition 65 = .ok (.invokevirtual 81, 3) := by decide +kernel
theorem dX4_readCondition_68 : decode cX4_readCondition 68 = .ok (.iconst 1, 1) := by decide +kernel
theorem dX4_readCondition_69 : decode cX4_readCondition 69 = .ok (.ireturn, 1) := by decide +kernel
theorem dX4_readPieces_0 : decode cX4_readPieces 0 = .ok (.iconst (-1), 1) := by decide +kernel
theorem dX4_readPieces_1 : decode cX4_readPieces 1 = .ok (.istore_n 2, 1) := by decide +kernel
theorem dX4_readPieces_2 : decode cX4_readPieces 2 = .ok (.iconst 0, 1) := by decide +kernel
theorem dX4_readPieces_3 : decode cX4_readPieces 3 = .ok (.istore_n 3, 1) := by decide +kernel
theorem dX4_readPieces_4 : decode cX4_readPieces 4 = .ok (.iload_n 3, 1) := by decide +kernel
theorem dX4_readPieces_5 : decode cX4_readPieces 5 = .ok (.sipush 160, 3) := by decide +kernel
theorem dX4_readPieces_8 : decode cX4_readPieces 8 = .ok (.if_icmp .ge 52, 3) := by decide +kernel
theorem dX4_readPieces_11 : decode cX4_readPieces 11 = .ok (.aload_n 0, 1) := by decide +kernel
theorem dX4_readPieces_12 : decode cX4_readPieces 12 = .ok (.iload_n 1, 1) := by decide +kernel
theorem dX4_readPieces_13 : decode cX4_readPieces 13 = .ok (.invokevirtual 84, 3) := by decide +kernel
theorem dX4_readPieces_16 : decode cX4_readPieces 16 = .ok (.ifCond .ne 5, 3) := by decide +kernel
theorem dX4_readPieces_19 : decode cX4_readPieces 19 = .ok (.iconst 0, 1) := by decide +kernel
theorem dX4_readPieces_20 : decode cX4_readPieces 20 = .ok (.ireturn, 1) := by decide +kernel
theorem dX4_readPieces_21 : decode cX4_readPieces 21 = .ok (.aload_n 0, 1) := by decide +kernel
theorem dX4_readPieces_22 : decode cX4_readPieces 22 = .ok (.getfield 9, 3) := by decide +kernel
theorem dX4_readPieces_25 : decode cX4_readPieces 25 = .ok (.getfield 46, 3) := by decide +kernel
theorem dX4_readPieces_28 : decode cX4_readPieces 28 = .ok (.bipush 38, 2) := by decide +kernel
theorem dX4_readPieces_30 : decode cX4_readPieces 30 = .ok (.if_icmp .eq 6, 3) := by decide +kernel
theorem dX4_readPieces_33 : decode cX4_readPieces 33 = .ok (.goto 27, 3) := by decide +kernel
theorem dX4_readPieces_36 : decode cX4_readPieces 36 = .ok (.aload_n 0, 1) := by decide +kernel
theorem dX4_readPieces_37 : decode cX4_readPieces 37 = .ok (.getfield 9, 3) := by decide +kernel
theorem dX4_readPieces_40 : decode cX4_readPieces 40 = .ok (.invokevirtual 58, 3) := by decide +kernel
theorem dX4_readPieces_43 : decode cX4_readPieces 43 = .ok (.aload_n 0, 1) := by decide +kernel
theorem dX4_readPieces_44 : decode cX4_readPieces 44 = .ok (.getfield 15, 3) := by decide +kernel
theorem dX4_readPieces_47 : decode cX4_readPieces 47 = .ok (.bipush 38, 2) := by decide +kernel
theorem dX4_readPieces_49 : decode cX4_readPieces 49 = .ok (.iload_n 2, 1) := by decide +kernel
theorem dX4_readPieces_50 : decode cX4_readPieces 50 = .ok (.invokevirtual 77, 3) := by decide +kernel
theorem dX4_readPieces_53 : decode cX4_readPieces 53 = .ok (.istore_n 2, 1) := by decide +kernel
theorem dX4_readPieces_54 : decode cX4_readPieces 54 = .ok (.iinc 3 1, 3) := by decide +kernel
theorem dX4_readPieces_57 : decode cX4_readPieces 57 = .ok (.goto (-53), 3) := by decide +kernel
theorem dX4_readPieces_60 : decode cX4_readPieces 60 = .ok (.aload_n 0, 1) := by decide +kernel
theorem dX4_readPieces_61 : decode cX4_readPieces 61 = .ok (.getfield 15, 3) := by decide +kernel
theorem dX4_readPieces_64 : decode cX4_readPieces 64 = .ok (.iload_n 2, 1) := by decide +kernel
theorem dX4_readPieces_65 : decode cX4_readPieces 65 = .ok (.invokevirtual 81, 3) := by decide +kernel
theorem dX4_readPieces_68 : decode cX4_readPieces 68 = .ok (.iconst 1, 1) := by decide +kernel
theorem dX4_readPieces_69 : decode cX4_readPieces 69 = .ok (.ireturn, 1) := by decide +kernel
theorem dX4_readPiece_0 : decode cX4_readPiece 0 = .ok (.aload_n 0, 1) := by decide +kernel
theorem dX4_readPiece_1 : decode cX4_readPiece 1 = .ok (.getfield 9, 3) := by decide +kernel
theorem dX4_readPiece_4 : decode cX4_readPiece 4 = .ok (.getfield 46, 3) := by decide +kernel
theorem dX4_readPiece_7 : decode cX4_readPiece 7 = .ok (.bipush 33, 2) := by decide +kernel
theorem dX4_readPiece_9 : decode cX4_readPiece 9 = .ok (.if_icmp .ne 35, 3) := by decide +kernel
theorem dX4_readPiece_12 : decode cX4_readPiece 12 = .ok (.aload_n 0, 1) := by decide +kernel
theorem dX4_readPiece_13 : decode cX4_readPiece 13 = .ok (.iload_n 1, 1) := by decide +kernel
theorem dX4_readPiece_14 : decode cX4_readPiece 14 = .ok (.invokevirtual 87, 3) := by decide +kernel
theorem dX4_readPiece_17 : decode cX4_readPiece 17 = .ok (.ifCond .eq 13, 3) := by decide +kernel
theorem dX4_readPiece_20 : decode cX4_readPiece 20 = .ok (.aload_n 0, 1) := by decide +kernel
theorem dX4_readPiece_21 : decode cX4_readPiece 21 = .ok (.iload_n 1, 1) := by decide +kernel
theorem dX4_readPiece_22 : decode cX4_readPiece 22 = .ok (.iconst 1, 1) := by decide +kernel
theorem dX4_readPiece_23 : decode cX4_readPiece 23 = .ok (.iadd, 1) := by decide +kernel
theorem dX4_readPiece_24 : decode cX4_readPiece 24 = .ok (.invokevirtual 84, 3) := by decide +kernel
theorem dX4_readPiece_27 : decode cX4_readPiece 27 = .ok (.ifCond .ne 5, 3) := by decide +kernel
theorem dX4_readPiece_30 : decode cX4_readPiece 30 = .ok (.iconst 0, 1) := by decide +kernel
theorem dX4_readPiece_31 : decode cX4_readPiece 31 = .ok (.ireturn, 1) := by decide +kernel
theorem dX4_readPiece_32 : decode cX4_readPiece 32 = .ok (.aload_n 0, 1) := by decide +kernel
theorem dX4_readPiece_33 : decode cX4_readPiece 33 = .ok (.getfield 15, 3) := by decide +kernel
theorem dX4_readPiece_36 : decode cX4_readPiece 36 = .ok (.bipush 33, 2) := by decide +kernel
theorem dX4_readPiece_38 : decode cX4_readPiece 38 = .ok (.iconst 0, 1) := by decide +kernel
theorem dX4_readPiece_39 : decode cX4_readPiece 39 = .ok (.invokevirtual 90, 3) := by decide +kernel
theorem dX4_readPiece_42 : decode cX4_readPiece 42 = .ok (.iconst 1, 1) := by decide +kernel
theorem dX4_readPiece_43 : decode cX4_readPiece 43 = .ok (.ireturn, 1) := by decide +kernel
theorem dX4_readPiece_44 : decode cX4_readPiece 44 = .ok (.aload_n 0, 1) := by decide +kernel
theorem dX4_readPiece_45 : decode cX4_readPiece 45 = .ok (.getfield 9, 3) := by decide +kernel
theorem dX4_readPiece_48 : decode cX4_readPiece 48 = .ok (.getfield 46, 3) := by decide +kernel
theorem dX4_readPiece_51 : decode cX4_readPiece 51 = .ok (.bipush 40, 2) := by decide +kernel
theorem dX4_readPiece_53 : decode cX4_readPiece 53 = .ok (.if_icmp .ne 39, 3) := by decide +kernel
theorem dX4_readPiece_56 : decode cX4_readPiece 56 = .ok (.aload_n 0, 1) := by decide +kernel
theorem dX4_readPiece_57 : decode cX4_readPiece 57 = .ok (.iload_n 1, 1) := by decide +kernel
theorem dX4_readPiece_58 : decode cX4_readPiece 58 = .ok (.invokevirtual 87, 3) := by decide +kernel
theorem dX4_readPiece_61 : decode cX4_readPiece 61 = .ok (.ifCond .eq 29, 3) := by decide +kernel
theorem dX4_readPiece_64 : decode cX4_readPiece 64 = .ok (.aload_n 0, 1) := by decide +kernel
theorem dX4_readPiece_65 : decode cX4_readPiece 65 = .ok (.iload_n 1, 1) := by decide +kernel
theorem dX4_readPiece_66 : decode cX4_readPiece 66 = .ok (.iconst 1, 1) := by decide +kernel
theorem dX4_readPiece_67 : decode cX4_readPiece 67 = .ok (.iadd, 1) := by decide +kernel
theorem dX4_readPiece_68 : decode cX4_readPiece 68 = .ok (.invokevirtual 67, 3) := by decide +kernel
theorem dX4_readPiece_71 : decode cX4_readPiece 71 = .ok (.ifCond .eq 19, 3) := by decide +kernel
theorem dX4_readPiece_74 : decode cX4_readPiece 74 = .ok (.aload_n 0, 1) := by decide +kernel
theorem dX4_readPiece_75 : decode cX4_readPiece 75 = .ok (.getfield 9, 3) := by decide +kernel
theorem dX4_readPiece_78 : decode cX4_readPiece 78 = .ok (.bipush 41, 2) := by decide +kernel
theorem dX4_readPiece_80 : decode cX4_readPiece 80 = .ok (.invokevirtual 42, 3) := by decide +kernel
theorem dX4_readPiece_83 : decode cX4_readPiece 83 = .ok (.ifCond .eq 7, 3) := by decide +kernel
theorem dX4_readPiece_86 : decode cX4_readPiece 86 = .ok (.iconst 1, 1) := by decide +kernel
theorem dX4_readPiece_87 : decode cX4_readPiece 87 = .ok (.goto 4, 3) := by decide +kernel
theorem dX4_readPiece_90 : decode cX4_readPiece 90 = .ok (.iconst 0, 1) := by decide +kernel
theorem dX4_readPiece_91 : decode cX4_readPiece 91 = .ok (.ireturn, 1) := by decide +kernel
theorem dX4_readPiece_92 : decode cX4_readPiece 92 = .ok (.aload_n 0, 1) := by decide +kernel
theorem dX4_readPiece_93 : decode cX4_readPiece 93 = .ok (.iload_n 1, 1) := by decide +kernel
theorem dX4_readPiece_94 : decode cX4_readPiece 94 = .ok (.invokevirtual 94, 3) := by decide +kernel
theorem dX4_readPiece_97 : decode cX4_readPiece 97 = .ok (.ireturn, 1) := by decide +kernel
theorem dX4_readComparison_0 : decode cX4_readComparison 0 = .ok (.aload_n 0, 1) := by decide +kernel
theorem dX4_readComparison_1 : decode cX4_readComparison 1 = .ok (.iload_n 1, 1) := by decide +kernel
theorem dX4_readComparison_2 : decode cX4_readComparison 2 = .ok (.invokevirtual 64, 3) := by decide +kernel
theorem dX4_readComparison_5 : decode cX4_readComparison 5 = .ok (.ifCond .ne 5, 3) := by decide +kernel
theorem dX4_readComparison_8 : decode cX4_readComparison 8 = .ok (.iconst 0, 1) := by decide +kernel
theorem dX4_readComparison_9 : decode cX4_readComparison 9 = .ok (.ireturn, 1) := by decide +kernel
theorem dX4_readComparison_10 : decode cX4_readComparison 10 = .ok (.aload_n 0, 1) := by decide +kernel
theorem dX4_readComparison_11 : decode cX4_readComparison 11 = .ok (.getfield 9, 3) := by decide +kernel
theorem dX4_readComparison_14 : decode cX4_readComparison 14 = .ok (.getfield 46, 3) := by decide +kernel
theorem dX4_readComparison_17 : decode cX4_readComparison 17 = .ok (.istore_n 2, 1) := by decide +kernel
theorem dX4_readComparison_18 : decode cX4_readComparison 18 = .ok (.aload_n 0, 1) := by decide +kernel
theorem dX4_readComparison_19 : decode cX4_readComparison 19 = .ok (.getfield 9, 3) := by decide +kernel
theorem dX4_readComparison_22 : decode cX4_readComparison 22 = .ok (.ldc 97, 2) := by decide +kernel
theorem dX4_readComparison_24 : decode cX4_readComparison 24 = .ok (.invokevirtual 51, 3) := by decide +kernel
theorem dX4_readComparison_27 : decode cX4_readComparison 27 = .ok (.iconst (-1), 1) := by decide +kernel
theorem dX4_readComparison_28 : decode cX4_readComparison 28 = .ok (.if_icmp .ne 12, 3) := by decide +kernel
theorem dX4_readComparison_31 : decode cX4_readComparison 31 = .ok (.aload_n 0, 1) := by decide +kernel
theorem dX4_readComparison_32 : decode cX4_readComparison 32 = .ok (.getfield 9, 3) := by decide +kernel
theorem dX4_readComparison_35 : decode cX4_readComparison 35 = .ok (.iconst 1, 1) := by decide +kernel
theorem dX4_readComparison_36 : decode cX4_readComparison 36 = .ok (.invokevirtual 55, 3) := by decide +kernel
theorem dX4_readComparison_39 : decode cX4_readComparison 39 = .ok (.ireturn, 1) := by decide +kernel
theorem dX4_readComparison_40 : decode cX4_readComparison 40 = .ok (.aload_n 0, 1) := by decide +kernel
theorem dX4_readComparison_41 : decode cX4_readComparison 41 = .ok (.getfield 9, 3) := by decide +kernel
theorem dX4_readComparison_44 : decode cX4_readComparison 44 = .ok (.invokevirtual 58, 3) := by decide +kernel
theorem dX4_readComparison_47 : decode cX4_readComparison 47 = .ok (.aload_n 0, 1) := by decide +kernel
theorem dX4_readComparison_48 : decode cX4_readComparison 48 = .ok (.iload_n 1, 1) := by decide +kernel
theorem dX4_readComparison_49 : decode cX4_readComparison 49 = .ok (.invokevirtual 64, 3) := by decide +kernel
theorem dX4_readComparison_52 : decode cX4_readComparison 52 = .ok (.ifCond .ne 5, 3) := by decide +kernel
theorem dX4_readComparison_55 : decode cX4_readComparison 55 = .ok (.iconst 0, 1) := by decide +kernel
theorem dX4_readComparison_56 : decode cX4_readComparison 56 = .ok (.ireturn, 1) := by decide +kernel
theorem dX4_readComparison_57 : decode cX4_readComparison 57 = .ok (.aload_n 0, 1) := by decide +kernel
theorem dX4_readComparison_58 : decode cX4_readComparison 58 = .ok (.getfield 15, 3) := by decide +kernel
theorem dX4_readComparison_61 : decode cX4_readComparison 61 = .ok (.iload_n 2, 1) := by decide +kernel
theorem dX4_readComparison_62 : decode cX4_readComparison 62 = .ok (.iconst 0, 1) := by decide +kernel
theorem dX4_readComparison_63 : decode cX4_readComparison 63 = .ok (.invokevirtual 90, 3) := by decide +kernel
theorem dX4_readComparison_66 : decode cX4_readComparison 66 = .ok (.iconst 1, 1) := by decide +kernel
theorem dX4_readComparison_67 : decode cX4_readComparison 67 = .ok (.ireturn, 1) := by decide +kernel
theorem dX4_readSum_0 : decode cX4_readSum 0 = .ok (.aload_n 0, 1) := by decide +kernel
theorem dX4_readSum_1 : decode cX4_readSum 1 = .ok (.iload_n 1, 1) := by decide +kernel
theorem dX4_readSum_2 : decode cX4_readSum 2 = .ok (.invokevirtual 99, 3) := by decide +kernel
theorem dX4_readSum_5 : decode cX4_readSum 5 = .ok (.ifCond .ne 5, 3) := by decide +kernel
theorem dX4_readSum_8 : decode cX4_readSum 8 = .ok (.iconst 0, 1) := by decide +kernel
theorem dX4_readSum_9 : decode cX4_readSum 9 = .ok (.ireturn, 1) := by decide +kernel
theorem dX4_readSum_10 : decode cX4_readSum 10 = .ok (.iconst 0, 1) := by decide +kernel
theorem dX4_readSum_11 : decode cX4_readSum 11 = .ok (.istore_n 2, 1) := by decide +kernel
theorem dX4_readSum_12 : decode cX4_readSum 12 = .ok (.iload_n 2, 1) := by decide +kernel
theorem dX4_readSum_13 : decode cX4_readSum 13 = .ok (.sipush 160, 3) := by decide +kernel
theorem dX4_readSum_16 : decode cX4_readSum 16 = .ok (.if_icmp .ge 56, 3) := by decide +kernel
theorem dX4_readSum_19 : decode cX4_readSum 19 = .ok (.aload_n 0, 1) := by decide +kernel
theorem dX4_readSum_20 : decode cX4_readSum 20 = .ok (.getfield 9, 3) := by decide +kernel
theorem dX4_readSum_23 : decode cX4_readSum 23 = .ok (.ldc 102, 2) := by decide +kernel
theorem dX4_readSum_25 : decode cX4_readSum 25 = .ok (.invokevirtual 51, 3) := by decide +kernel
theorem dX4_readSum_28 : decode cX4_readSum 28 = .ok (.iconst (-1), 1) := by decide +kernel
theorem dX4_readSum_29 : decode cX4_readSum 29 = .ok (.if_icmp .eq 43, 3) := by decide +kernel
theorem dX4_readSum_32 : decode cX4_readSum 32 = .ok (.aload_n 0, 1) := by decide +kernel
theorem dX4_readSum_33 : decode cX4_readSum 33 = .ok (.getfield 9, 3) := by decide +kernel
theorem dX4_readSum_36 : decode cX4_readSum 36 = .ok (.getfield 46, 3) := by decide +kernel
theorem dX4_readSum_39 : decode cX4_readSum 39 = .ok (.istore_n 3, 1) := by decide +kernel
theorem dX4_readSum_40 : decode cX4_readSum 40 = .ok (.aload_n 0, 1) := by decide +kernel
theorem dX4_readSum_41 : decode cX4_readSum 41 = .ok (.getfield 9, 3) := by decide +kernel
theorem dX4_readSum_44 : decode cX4_readSum 44 = .ok (.invokevirtual 58, 3) := by decide +kernel
theorem dX4_readSum_47 : decode cX4_readSum 47 = .ok (.aload_n 0, 1) := by decide +kernel
theorem dX4_readSum_48 : decode cX4_readSum 48 = .ok (.iload_n 1, 1) := by decide +kernel
theorem dX4_readSum_49 : decode cX4_readSum 49 = .ok (.invokevirtual 99, 3) := by decide +kernel
theorem dX4_readSum_52 : decode cX4_readSum 52 = .ok (.ifCond .ne 5, 3) := by decide +kernel
theorem dX4_readSum_55 : decode cX4_readSum 55 = .ok (.iconst 0, 1) := by decide +kernel
theorem dX4_readSum_56 : decode cX4_readSum 56 = .ok (.ireturn, 1) := by decide +kernel
theorem dX4_readSum_57 : decode cX4_readSum 57 = .ok (.aload_n 0, 1) := by decide +kernel
theorem dX4_readSum_58 : decode cX4_readSum 58 = .ok (.getfield 15, 3) := by decide +kernel
theorem dX4_readSum_61 : decode cX4_readSum 61 = .ok (.iload_n 3, 1) := by decide +kernel
theorem dX4_readSum_62 : decode cX4_readSum 62 = .ok (.iconst 0, 1) := by decide +kernel
theorem dX4_readSum_63 : decode cX4_readSum 63 = .ok (.invokevirtual 90, 3) := by decide +kernel
theorem dX4_readSum_66 : decode cX4_readSum 66 = .ok (.iinc 2 1, 3) := by decide +kernel
theorem dX4_readSum_69 : decode cX4_readSum 69 = .ok (.goto (-57), 3) := by decide +kernel
theorem dX4_readSum_72 : decode cX4_readSum 72 = .ok (.iconst 1, 1) := by decide +kernel
theorem dX4_readSum_73 : decode cX4_readSum 73 = .ok (.ireturn, 1) := by decide +kernel
theorem dX4_readTerm_0 : decode cX4_readTerm 0 = .ok (.aload_n 0, 1) := by decide +kernel
theorem dX4_readTerm_1 : decode cX4_readTerm 1 = .ok (.iload_n 1, 1) := by decide +kernel
theorem dX4_readTerm_2 : decode cX4_readTerm 2 = .ok (.invokevirtual 104, 3) := by decide +kernel
theorem dX4_readTerm_5 : decode cX4_readTerm 5 = .ok (.ifCond .ne 5, 3) := by decide +kernel
theorem dX4_readTerm_8 : decode cX4_readTerm 8 = .ok (.iconst 0, 1) := by decide +kernel
theorem dX4_readTerm_9 : decode cX4_readTerm 9 = .ok (.ireturn, 1) := by decide +kernel
theorem dX4_readTerm_10 : decode cX4_readTerm 10 = .ok (.iconst 0, 1) := by decide +kernel
theorem dX4_readTerm_11 : decode cX4_readTerm 11 = .ok (.istore_n 2, 1) := by decide +kernel
theorem dX4_readTerm_12 : decode cX4_readTerm 12 = .ok (.iload_n 2, 1) := by decide +kernel
theorem dX4_readTerm_13 : decode cX4_readTerm 13 = .ok (.sipush 160, 3) := by decide +kernel
theorem dX4_readTerm_16 : decode cX4_readTerm 16 = .ok (.if_icmp .ge 56, 3) := by decide +kernel
theorem dX4_readTerm_19 : decode cX4_readTerm 19 = .ok (.aload_n 0, 1) := by decide +kernel
theorem dX4_readTerm_20 : decode cX4_readTerm 20 = .ok (.getfield 9, 3) := by decide +kernel
theorem dX4_readTerm_23 : decode cX4_readTerm 23 = .ok (.ldc 107, 2) := by decide +kernel
theorem dX4_readTerm_25 : decode cX4_readTerm 25 = .ok (.invokevirtual 51, 3) := by decide +kernel
theorem dX4_readTerm_28 : decode cX4_readTerm 28 = .ok (.iconst (-1), 1) := by decide +kernel
theorem dX4_readTerm_29 : decode cX4_readTerm 29 = .ok (.if_icmp .eq 43, 3) := by decide +kernel
theorem dX4_readTerm_32 : decode cX4_readTerm 32 = .ok (.aload_n 0, 1) := by decide +kernel
theorem dX4_readTerm_33 : decode cX4_readTerm 33 = .ok (.getfield 9, 3) := by decide +kernel
theorem dX4_readTerm_36 : decode cX4_readTerm 36 = .ok (.getfield 46, 3) := by decide +kernel
theorem dX4_readTerm_39 : decode cX4_readTerm 39 = .ok (.istore_n 3, 1) := by decide +kernel
theorem dX4_readTerm_40 : decode cX4_readTerm 40 = .ok (.aload_n 0, 1) := by decide +kernel
theorem dX4_readTerm_41 : decode cX4_readTerm 41 = .ok (.getfield 9, 3) := by decide +kernel
theorem dX4_readTerm_44 : decode cX4_readTerm 44 = .ok (.invokevirtual 58, 3) := by decide +kernel
theorem dX4_readTerm_47 : decode cX4_readTerm 47 = .ok (.aload_n 0, 1) := by decide +kernel
theorem dX4_readTerm_48 : decode cX4_readTerm 48 = .ok (.iload_n 1, 1) := by decide +kernel
theorem dX4_readTerm_49 : decode cX4_readTerm 49 = .ok (.invokevirtual 104, 3) := by decide +kernel
theorem dX4_readTerm_52 : decode cX4_readTerm 52 = .ok (.ifCond .ne 5, 3) := by decide +kernel
theorem dX4_readTerm_55 : decode cX4_readTerm 55 = .ok (.iconst 0, 1) := by decide +kernel
theorem dX4_readTerm_56 : decode cX4_readTerm 56 = .ok (.ireturn, 1) := by decide +kernel
theorem dX4_readTerm_57 : decode cX4_readTerm 57 = .ok (.aload_n 0, 1) := by decide +kernel
theorem dX4_readTerm_58 : decode cX4_readTerm 58 = .ok (.getfield 15, 3) := by decide +kernel
theorem dX4_readTerm_61 : decode cX4_readTerm 61 = .ok (.iload_n 3, 1) := by decide +kernel
theorem dX4_readTerm_62 : decode cX4_readTerm 62 = .ok (.iconst 0, 1) := by decide +kernel
theorem dX4_readTerm_63 : decode cX4_readTerm 63 = .ok (.invokevirtual 90, 3) := by decide +kernel
theorem dX4_readTerm_66 : decode cX4_readTerm 66 = .ok (.iinc 2 1, 3) := by decide +kernel
theorem dX4_readTerm_69 : decode cX4_readTerm 69 = .ok (.goto (-57), 3) := by decide +kernel
theorem dX4_readTerm_72 : decode cX4_readTerm 72 = .ok (.iconst 1, 1) := by decide +kernel
theorem dX4_readTerm_73 : decode cX4_readTerm 73 = .ok (.ireturn, 1) := by decide +kernel
theorem dX4_readFactor_0 : decode cX4_readFactor 0 = .ok (.aload_n 0, 1) := by decide +kernel
theorem dX4_readFactor_1 : decode cX4_readFactor 1 = .ok (.getfield 9, 3) := by decide +kernel
theorem dX4_readFactor_4 : decode cX4_readFactor 4 = .ok (.getfield 46, 3) := by decide +kernel
theorem dX4_readFactor_7 : decode cX4_readFactor 7 = .ok (.bipush 91, 2) := by decide +kernel
theorem dX4_readFactor_9 : decode cX4_readFactor 9 = .ok (.if_icmp .ne 39, 3) := by decide +kernel
theorem dX4_readFactor_12 : decode cX4_readFactor 12 = .ok (.aload_n 0, 1) := by decide +kernel
theorem dX4_readFactor_13 : decode cX4_readFactor 13 = .ok (.iload_n 1, 1) := by decide +kernel
theorem dX4_readFactor_14 : decode cX4_readFactor 14 = .ok (.invokevirtual 87, 3) := by decide +kernel
theorem dX4_readFactor_17 : decode cX4_readFactor 17 = .ok (.ifCond .eq 29, 3) := by decide +kernel
theorem dX4_readFactor_20 : decode cX4_readFactor 20 = .ok (.aload_n 0, 1) := by decide +kernel
theorem dX4_readFactor_21 : decode cX4_readFactor 21 = .ok (.iload_n 1, 1) := by decide +kernel
theorem dX4_readFactor_22 : decode cX4_readFactor 22 = .ok (.iconst 1, 1) := by decide +kernel
theorem dX4_readFactor_23 : decode cX4_readFactor 23 = .ok (.iadd, 1) := by decide +kernel
theorem dX4_readFactor_24 : decode cX4_readFactor 24 = .ok (.invokevirtual 64, 3) := by decide +kernel
theorem dX4_readFactor_27 : decode cX4_readFactor 27 = .ok (.ifCond .eq 19, 3) := by decide +kernel
theorem dX4_readFactor_30 : decode cX4_readFactor 30 = .ok (.aload_n 0, 1) := by decide +kernel
theorem dX4_readFactor_31 : decode cX4_readFactor 31 = .ok (.getfield 9, 3) := by decide +kernel
theorem dX4_readFactor_34 : decode cX4_readFactor 34 = .ok (.bipush 93, 2) := by decide +kernel
theorem dX4_readFactor_36 : decode cX4_readFactor 36 = .ok (.invokevirtual 42, 3) := by decide +kernel
theorem dX4_readFactor_39 : decode cX4_readFactor 39 = .ok (.ifCond .eq 7, 3) := by decide +kernel
theorem dX4_readFactor_42 : decode cX4_readFactor 42 = .ok (.iconst 1, 1) := by decide +kernel
theorem dX4_readFactor_43 : decode cX4_readFactor 43 = .ok (.goto 4, 3) := by decide +kernel
theorem dX4_readFactor_46 : decode cX4_readFactor 46 = .ok (.iconst 0, 1) := by decide +kernel
theorem dX4_readFactor_47 : decode cX4_readFactor 47 = .ok (.ireturn, 1) := by decide +kernel
theorem dX4_readFactor_48 : decode cX4_readFactor 48 = .ok (.aload_n 0, 1) := by decide +kernel
theorem dX4_readFactor_49 : decode cX4_readFactor 49 = .ok (.getfield 9, 3) := by decide +kernel
theorem dX4_readFactor_52 : decode cX4_readFactor 52 = .ok (.ldc 109, 2) := by decide +kernel
theorem dX4_readFactor_54 : decode cX4_readFactor 54 = .ok (.invokevirtual 51, 3) := by decide +kernel
theorem dX4_readFactor_57 : decode cX4_readFactor 57 = .ok (.istore_n 2, 1) := by decide +kernel
theorem dX4_readFactor_58 : decode cX4_readFactor 58 = .ok (.iload_n 2, 1) := by decide +kernel
theorem dX4_readFactor_59 : decode cX4_readFactor 59 = .ok (.iconst (-1), 1) := by decide +kernel
theorem dX4_readFactor_60 : decode cX4_readFactor 60 = .ok (.if_icmp .eq 22, 3) := by decide +kernel
theorem dX4_readFactor_63 : decode cX4_readFactor 63 = .ok (.aload_n 0, 1) := by decide +kernel
theorem dX4_readFactor_64 : decode cX4_readFactor 64 = .ok (.getfield 9, 3) := by decide +kernel
theorem dX4_readFactor_67 : decode cX4_readFactor 67 = .ok (.invokevirtual 58, 3) := by decide +kernel
theorem dX4_readFactor_70 : decode cX4_readFactor 70 = .ok (.aload_n 0, 1) := by decide +kernel
theorem dX4_readFactor_71 : decode cX4_readFactor 71 = .ok (.getfield 15, 3) := by decide +kernel
theorem dX4_readFactor_74 : decode cX4_readFactor 74 = .ok (.bipush 76, 2) := by decide +kernel
theorem dX4_readFactor_76 : decode cX4_readFactor 76 = .ok (.iload_n 2, 1) := by decide +kernel
theorem dX4_readFactor_77 : decode cX4_readFactor 77 = .ok (.invokevirtual 90, 3) := by decide +kernel
theorem dX4_readFactor_80 : decode cX4_readFactor 80 = .ok (.iconst 1, 1) := by decide +kernel
theorem dX4_readFactor_81 : decode cX4_readFactor 81 = .ok (.ireturn, 1) := by decide +kernel
theorem dX4_readFactor_82 : decode cX4_readFactor 82 = .ok (.aload_n 0, 1) := by decide +kernel
theorem dX4_readFactor_83 : decode cX4_readFactor 83 = .ok (.getfield 9, 3) := by decide +kernel
theorem dX4_readFactor_86 : decode cX4_readFactor 86 = .ok (.iconst 5, 1) := by decide +kernel
theorem dX4_readFactor_87 : decode cX4_readFactor 87 = .ok (.invokevirtual 111, 3) := by decide +kernel
theorem dX4_readFactor_90 : decode cX4_readFactor 90 = .ok (.istore_n 3, 1) := by decide +kernel
theorem dX4_readFactor_91 : decode cX4_readFactor 91 = .ok (.iload_n 3, 1) := by decide +kernel
theorem dX4_readFactor_92 : decode cX4_readFactor 92 = .ok (.iconst (-1), 1) := by decide +kernel
theorem dX4_readFactor_93 : decode cX4_readFactor 93 = .ok (.if_icmp .ne 5, 3) := by decide +kernel
theorem dX4_readFactor_96 : decode cX4_readFactor 96 = .ok (.iconst 0, 1) := by decide +kernel
theorem dX4_readFactor_97 : decode cX4_readFactor 97 = .ok (.ireturn, 1) := by decide +kernel
theorem dX4_readFactor_98 : decode cX4_readFactor 98 = .ok (.aload_n 0, 1) := by decide +kernel
theorem dX4_readFactor_99 : decode cX4_readFactor 99 = .ok (.getfield 9, 3) := by decide +kernel
theorem dX4_readFactor_102 : decode cX4_readFactor 102 = .ok (.invokevirtual 115, 3) := by decide +kernel
theorem dX4_readFactor_105 : decode cX4_readFactor 105 = .ok (.ifCond .eq 12, 3) := by decide +kernel
theorem dX4_readFactor_108 : decode cX4_readFactor 108 = .ok (.aload_n 0, 1) := by decide +kernel
theorem dX4_readFactor_109 : decode cX4_readFactor 109 = .ok (.getfield 9, 3) := by decide +kernel
theorem dX4_readFactor_112 : decode cX4_readFactor 112 = .ok (.iconst 2, 1) := by decide +kernel
theorem dX4_readFactor_113 : decode cX4_readFactor 113 = .ok (.invokevirtual 55, 3) := by decide +kernel
theorem dX4_readFactor_116 : decode cX4_readFactor 116 = .ok (.ireturn, 1) := by decide +kernel
theorem dX4_readFactor_117 : decode cX4_readFactor 117 = .ok (.aload_n 0, 1) := by decide +kernel
theorem dX4_readFactor_118 : decode cX4_readFactor 118 = .ok (.getfield 15, 3) := by decide +kernel
theorem dX4_readFactor_121 : decode cX4_readFactor 121 = .ok (.bipush 78, 2) := by decide +kernel
theorem dX4_readFactor_123 : decode cX4_readFactor 123 = .ok (.iload_n 3, 1) := by decide +kernel
theorem dX4_readFactor_124 : decode cX4_readFactor 124 = .ok (.invokevirtual 90, 3) := by decide +kernel
theorem dX4_readFactor_127 : decode cX4_readFactor 127 = .ok (.iconst 1, 1) := by decide +kernel
theorem dX4_readFactor_128 : decode cX4_readFactor 128 = .ok (.ireturn, 1) := by decide +kernel
theorem dX4_mayOpen_0 : decode cX4_mayOpen 0 = .ok (.iload_n 1, 1) := by decide +kernel
theorem dX4_mayOpen_1 : decode cX4_mayOpen 1 = .ok (.bipush 6, 2) := by decide +kernel
theorem dX4_mayOpen_3 : decode cX4_mayOpen 3 = .ok (.if_icmp .lt 12, 3) := by decide +kernel
theorem dX4_mayOpen_6 : decode cX4_mayOpen 6 = .ok (.aload_n 0, 1) := by decide +kernel
theorem dX4_mayOpen_7 : decode cX4_mayOpen 7 = .ok (.getfield 9, 3) := by decide +kernel
theorem dX4_mayOpen_10 : decode cX4_mayOpen 10 = .ok (.iconst 5, 1) := by decide +kernel
theorem dX4_mayOpen_11 : decode cX4_mayOpen 11 = .ok (.invokevirtual 55, 3) := by decide +kernel
theorem dX4_mayOpen_14 : decode cX4_mayOpen 14 = .ok (.ireturn, 1) := by decide +kernel
theorem dX4_mayOpen_15 : decode cX4_mayOpen 15 = .ok (.aload_n 0, 1) := by decide +kernel
theorem dX4_mayOpen_16 : decode cX4_mayOpen 16 = .ok (.getfield 9, 3) := by decide +kernel
theorem dX4_mayOpen_19 : decode cX4_mayOpen 19 = .ok (.invokevirtual 58, 3) := by decide +kernel
theorem dX4_mayOpen_22 : decode cX4_mayOpen 22 = .ok (.iconst 1, 1) := by decide +kernel
theorem dX4_mayOpen_23 : decode cX4_mayOpen 23 = .ok (.ireturn, 1) := by decide +kernel
theorem dX5_init_0 : decode cX5_init 0 = .ok (.aload_n 0, 1) := by decide +kernel
theorem dX5_init_1 : decode cX5_init 1 = .ok (.invokespecial 3, 3) := by decide +kernel
theorem dX5_init_4 : decode cX5_init 4 = .ok (.aload_n 0, 1) := by decide +kernel
theorem dX5_init_5 : decode cX5_init 5 = .ok (.bipush 10, 2) := by decide +kernel
theorem dX5_init_7 : decode cX5_init 7 = .ok (.bipush 72, 2) := by decide +kernel
theorem dX5_init_9 : decode cX5_init 9 = .ok (.multianewarray 9 2, 4) := by decide +kernel
theorem dX5_init_13 : decode cX5_init 13 = .ok (.putfield 11, 3) := by decide +kernel
theorem dX5_init_16 : decode cX5_init 16 = .ok (.aload_n 0, 1) := by decide +kernel
theorem dX5_init_17 : decode cX5_init 17 = .ok (.bipush 10, 2) := by decide +kernel
theorem dX5_init_19 : decode cX5_init 19 = .ok (.newarray .int, 2) := by decide +kernel
theorem dX5_init_21 : decode cX5_init 21 = .ok (.putfield 16, 3) := by decide +kernel
theorem dX5_init_24 : decode cX5_init 24 = .ok (.aload_n 0, 1) := by decide +kernel
theorem dX5_init_25 : decode cX5_init 25 = .ok (.bipush 72, 2) := by decide +kernel
theorem dX5_init_27 : decode cX5_init 27 = .ok (.newarray .int, 2) := by decide +kernel
theorem dX5_init_29 : decode cX5_init 29 = .ok (.putfield 20, 3) := by decide +kernel
theorem dX5_init_32 : decode cX5_init 32 = .ok (.aload_n 0, 1) := by decide +kernel
theorem dX5_init_33 : decode cX5_init 33 = .ok (.bipush 96, 2) := by decide +kernel
theorem dX5_init_35 : decode cX5_init 35 = .ok (.newarray .int, 2) := by decide +kernel
theorem dX5_init_37 : decode cX5_init 37 = .ok (.putfield 23, 3) := by decide +kernel
theorem dX5_init_40 : decode cX5_init 40 = .ok (.aload_n 0, 1) := by decide +kernel
theorem dX5_init_41 : decode cX5_init 41 = .ok (.aload_n 1, 1) := by decide +kernel
theorem dX5_init_42 : decode cX5_init 42 = .ok (.putfield 26, 3) := by decide +kernel
theorem dX5_init_45 : decode cX5_init 45 = .ok (.aload_n 0, 1) := by decide +kernel
theorem dX5_init_46 : decode cX5_init 46 = .ok (.aload_n 2, 1) := by decide +kernel
theorem dX5_init_47 : decode cX5_init 47 = .ok (.putfield 30, 3) := by decide +kernel
theorem dX5_init_50 : decode cX5_init 50 = .ok (.aload_n 0, 1) := by decide +kernel
theorem dX5_init_51 : decode cX5_init 51 = .ok (.aload_n 3, 1) := by decide +kernel
theorem dX5_init_52 : decode cX5_init 52 = .ok (.putfield 34, 3) := by decide +kernel
theorem dX5_init_55 : decode cX5_init 55 = .ok (.return_, 1) := by decide +kernel
theorem dX5_begin_0 : decode cX5_begin 0 = .ok (.aload_n 0, 1) := by decide +kernel
theorem dX5_begin_1 : decode cX5_begin 1 = .ok (.iconst 0, 1) := by decide +kernel
theorem dX5_begin_2 : decode cX5_begin 2 = .ok (.putfield 38, 3) := by decide +kernel
theorem dX5_begin_5 : decode cX5_begin 5 = .ok (.aload_n 0, 1) := by decide +kernel
theorem dX5_begin_6 : decode cX5_begin 6 = .ok (.getfield 20, 3) := by decide +kernel
theorem dX5_begin_9 : decode cX5_begin 9 = .ok (.iconst 0, 1) := by decide +kernel
theorem dX5_begin_10 : decode cX5_begin 10 = .ok (.invokestatic 42, 3) := by decide +kernel
theorem dX5_begin_13 : decode cX5_begin 13 = .ok (.aload_n 0, 1) := by decide +kernel
theorem dX5_begin_14 : decode cX5_begin 14 = .ok (.getfield 23, 3) := by decide +kernel
theorem dX5_begin_17 : decode cX5_begin 17 = .ok (.iconst 0, 1) := by decide +kernel
theorem dX5_begin_18 : decode cX5_begin 18 = .ok (.invokestatic 42, 3) := by decide +kernel
theorem dX5_begin_21 : decode cX5_begin 21 = .ok (.iconst 0, 1) := by decide +kernel
theorem dX5_begin_22 : decode cX5_begin 22 = .ok (.istore_n 1, 1) := by decide +kernel
theorem dX5_begin_23 : decode cX5_begin 23 = .ok (.iload_n 1, 1) := by decide +kernel
theorem dX5_begin_24 : decode cX5_begin 24 = .ok (.bipush 10, 2) := by decide +kernel
theorem dX5_begin_26 : decode cX5_begin 26 = .ok (.if_icmp .ge 56, 3) := by decide +kernel
theorem dX5_begin_29 : decode cX5_begin 29 = .ok (.aload_n 0, 1) := by decide +kernel
theorem dX5_begin_30 : decode cX5_begin 30 = .ok (.getfield 30, 3) := by decide +kernel
theorem dX5_begin_33 : decode cX5_begin 33 = .ok (.iload_n 1, 1) := by decide +kernel
theorem dX5_begin_34 : decode cX5_begin 34 = .ok (.invokevirtual 48, 3) := by decide +kernel
theorem dX5_begin_37 : decode cX5_begin 37 = .ok (.ifCond .eq 39, 3) := by decide +kernel
theorem dX5_begin_40 : decode cX5_begin 40 = .ok (.aload_n 0, 1) := by decide +kernel
theorem dX5_begin_41 : decode cX5_begin 41 = .ok (.iload_n 1, 1) := by decide +kernel
theorem dX5_begin_42 : decode cX5_begin 42 = .ok (.aload_n 0, 1) := by decide +kernel
theorem dX5_begin_43 : decode cX5_begin 43 = .ok (.getfield 26, 3) := by decide +kernel
theorem dX5_begin_46 : decode cX5_begin 46 = .ok (.getfield 54, 3) := by decide +kernel
theorem dX5_begin_49 : decode cX5_begin 49 = .ok (.aload_n 0, 1) := by decide +kernel
theorem dX5_begin_50 : decode cX5_begin 50 = .ok (.getfield 30, 3) := by decide +kernel
theorem dX5_begin_53 : decode cX5_begin 53 = .ok (.getfield 57, 3) := by decide +kernel
theorem dX5_begin_56 : decode cX5_begin 56 = .ok (.iload_n 1, 1) := by decide +kernel
theorem dX5_begin_57 : decode cX5_begin 57 = .ok (.iaload, 1) := by decide +kernel
theorem dX5_begin_58 : decode cX5_begin 58 = .ok (.iaload, 1) := by decide +kernel
theorem dX5_begin_59 : decode cX5_begin 59 = .ok (.invokevirtual 60, 3) := by decide +kernel
theorem dX5_begin_62 : decode cX5_begin 62 = .ok (.aload_n 0, 1) := by decide +kernel
theorem dX5_begin_63 : decode cX5_begin 63 = .ok (.iload_n 1, 1) := by decide +kernel
theorem dX5_begin_64 : decode cX5_begin 64 = .ok (.aload_n 0, 1) := by decide +kernel
theorem dX5_begin_65 : decode cX5_begin 65 = .ok (.getfield 30, 3) := by decide +kernel
theorem dX5_begin_68 : decode cX5_begin 68 = .ok (.getfield 64, 3) := by decide +kernel
theorem dX5_begin_71 : decode cX5_begin 71 = .ok (.iload_n 1, 1) := by decide +kernel
theorem dX5_begin_72 : decode cX5_begin 72 = .ok (.iaload, 1) := by decide +kernel
theorem dX5_begin_73 : decode cX5_begin 73 = .ok (.invokevirtual 67, 3) := by decide +kernel
theorem dX5_begin_76 : decode cX5_begin 76 = .ok (.iinc 1 1, 3) := by decide +kernel
theorem dX5_begin_79 : decode cX5_begin 79 = .ok (.goto (-56), 3) := by decide +kernel
theorem dX5_begin_82 : decode cX5_begin 82 = .ok (.return_, 1) := by decide +kernel
theorem dX5_setFloor_0 : decode cX5_setFloor 0 = .ok (.aload_n 0, 1) := by decide +kernel
theorem dX5_setFloor_1 : decode cX5_setFloor 1 = .ok (.getfield 16, 3) := by decide +kernel
theorem dX5_setFloor_4 : decode cX5_setFloor 4 = .ok (.iload_n 1, 1) := by decide +kernel
theorem dX5_setFloor_5 : decode cX5_setFloor 5 = .ok (.iload_n 2, 1) := by decide +kernel
theorem dX5_setFloor_6 : decode cX5_setFloor 6 = .ok (.iastore, 1) := by decide +kernel
theorem dX5_setFloor_7 : decode cX5_setFloor 7 = .ok (.return_, 1) := by decide +kernel
theorem dX5_setShift_0 : decode cX5_setShift 0 = .ok (.aload_n 0, 1) := by decide +kernel
theorem dX5_setShift_1 : decode cX5_setShift 1 = .ok (.getfield 34, 3) := by decide +kernel
theorem dX5_setShift_4 : decode cX5_setShift 4 = .ok (.aload_n 0, 1) := by decide +kernel
theorem dX5_setShift_5 : decode cX5_setShift 5 = .ok (.getfield 30, 3) := by decide +kernel
theorem dX5_setShift_8 : decode cX5_setShift 8 = .ok (.getfield 70, 3) := by decide +kernel
theorem dX5_setShift_11 : decode cX5_setShift 11 = .ok (.iload_n 1, 1) := by decide +kernel
theorem dX5_setShift_12 : decode cX5_setShift 12 = .ok (.iaload, 1) := by decide +kernel
theorem dX5_setShift_13 : decode cX5_setShift 13 = .ok (.invokevirtual 73, 3) := by decide +kernel
theorem dX5_setShift_16 : decode cX5_setShift 16 = .ok (.astore_n 3, 1) := by decide +kernel
theorem dX5_setShift_17 : decode cX5_setShift 17 = .ok (.iconst 0, 1) := by decide +kernel
theorem dX5_setShift_18 : decode cX5_setShift 18 = .ok (.istore 4, 2) := by decide +kernel
theorem dX5_setShift_20 : decode cX5_setShift 20 = .ok (.iload 4, 2) := by decide +kernel
theorem dX5_setShift_22 : decode cX5_setShift 22 = .ok (.bipush 24, 2) := by decide +kernel
theorem dX5_setShift_24 : decode cX5_setShift 24 = .ok (.if_icmp .ge 60, 3) := by decide +kernel
theorem dX5_setShift_27 : decode cX5_setShift 27 = .ok (.iload 4, 2) := by decide +kernel
theorem dX5_setShift_29 : decode cX5_setShift 29 = .ok (.iload_n 2, 1) := by decide +kernel
theorem dX5_setShift_30 : decode cX5_setShift 30 = .ok (.iadd, 1) := by decide +kernel
theorem dX5_setShift_31 : decode cX5_setShift 31 = .ok (.bipush 24, 2) := by decide +kernel
theorem dX5_setShift_33 : decode cX5_setShift 33 = .ok (.invokestatic 79, 3) := by decide +kernel
theorem dX5_setShift_36 : decode cX5_setShift 36 = .ok (.istore 5, 2) := by decide +kernel
theorem dX5_setShift_38 : decode cX5_setShift 38 = .ok (.iconst 0, 1) := by decide +kernel
theorem dX5_setShift_39 : decode cX5_setShift 39 = .ok (.istore 6, 2) := by decide +kernel
theorem dX5_setShift_41 : decode cX5_setShift 41 = .ok (.iload 6, 2) := by decide +kernel
theorem dX5_setShift_43 : decode cX5_setShift 43 = .ok (.iconst 3, 1) := by decide +kernel
theorem dX5_setShift_44 : decode cX5_setShift 44 = .ok (.if_icmp .ge 34, 3) := by decide +kernel
theorem dX5_setShift_47 : decode cX5_setShift 47 = .ok (.aload_n 0, 1) := by decide +kernel
theorem dX5_setShift_48 : decode cX5_setShift 48 = .ok (.getfield 11, 3) := by decide +kernel
theorem dX5_setShift_51 : decode cX5_setShift 51 = .ok (.iload_n 1, 1) := by decide +kernel
theorem dX5_setShift_52 : decode cX5_setShift 52 = .ok (.aaload, 1) := by decide +kernel
theorem dX5_setShift_53 : decode cX5_setShift 53 = .ok (.iload 6, 2) := by decide +kernel
theorem dX5_setShift_55 : decode cX5_setShift 55 = .ok (.bipush 24, 2) := by decide +kernel
theorem dX5_setShift_57 : decode cX5_setShift 57 = .ok (.imul, 1) := by decide +kernel
theorem dX5_setShift_58 : decode cX5_setShift 58 = .ok (.iload 5, 2) := by decide +kernel
theorem dX5_setShift_60 : decode cX5_setShift 60 = .ok (.iadd, 1) := by decide +kernel
theorem dX5_setShift_61 : decode cX5_setShift 61 = .ok (.aload_n 3, 1) := by decide +kernel
theorem dX5_setShift_62 : decode cX5_setShift 62 = .ok (.iload 6, 2) := by decide +kernel
theorem dX5_setShift_64 : decode cX5_setShift 64 = .ok (.bipush 24, 2) := by decide +kernel
theorem dX5_setShift_66 : decode cX5_setShift 66 = .ok (.imul, 1) := by decide +kernel
theorem dX5_setShift_67 : decode cX5_setShift 67 = .ok (.iload 4, 2) := by decide +kernel
theorem dX5_setShift_69 : decode cX5_setShift 69 = .ok (.iadd, 1) := by decide +kernel
theorem dX5_setShift_70 : decode cX5_setShift 70 = .ok (.iaload, 1) := by decide +kernel
theorem dX5_setShift_71 : decode cX5_setShift 71 = .ok (.iastore, 1) := by decide +kernel
theorem dX5_setShift_72 : decode cX5_setShift 72 = .ok (.iinc 6 1, 3) := by decide +kernel
theorem dX5_setShift_75 : decode cX5_setShift 75 = .ok (.goto (-34), 3) := by decide +kernel
theorem dX5_setShift_78 : decode cX5_setShift 78 = .ok (.iinc 4 1, 3) := by decide +kernel
theorem dX5_setShift_81 : decode cX5_setShift 81 = .ok (.goto (-61), 3) := by decide +kernel
theorem dX5_setShift_84 : decode cX5_setShift 84 = .ok (.return_, 1) := by decide +kernel
theorem dX5_turnTo_0 : decode cX5_turnTo 0 = .ok (.aload_n 0, 1) := by decide +kernel
theorem dX5_turnTo_1 : decode cX5_turnTo 1 = .ok (.getfield 38, 3) := by decide +kernel
theorem dX5_turnTo_4 : decode cX5_turnTo 4 = .ok (.iload_n 1, 1) := by decide +kernel
theorem dX5_turnTo_5 : decode cX5_turnTo 5 = .ok (.ixor, 1) := by decide +kernel
theorem dX5_turnTo_6 : decode cX5_turnTo 6 = .ok (.istore_n 2, 1) := by decide +kernel
theorem dX5_turnTo_7 : decode cX5_turnTo 7 = .ok (.iconst 0, 1) := by decide +kernel
theorem dX5_turnTo_8 : decode cX5_turnTo 8 = .ok (.istore_n 3, 1) := by decide +kernel
theorem dX5_turnTo_9 : decode cX5_turnTo 9 = .ok (.iload_n 3, 1) := by decide +kernel
theorem dX5_turnTo_10 : decode cX5_turnTo 10 = .ok (.bipush 10, 2) := by decide +kernel
theorem dX5_turnTo_12 : decode cX5_turnTo 12 = .ok (.if_icmp .ge 35, 3) := by decide +kernel
theorem dX5_turnTo_15 : decode cX5_turnTo 15 = .ok (.iload_n 2, 1) := by decide +kernel
theorem dX5_turnTo_16 : decode cX5_turnTo 16 = .ok (.iload_n 3, 1) := by decide +kernel
theorem dX5_turnTo_17 : decode cX5_turnTo 17 = .ok (.invokestatic 85, 3) := by decide +kernel
theorem dX5_turnTo_20 : decode cX5_turnTo 20 = .ok (.ifCond .eq 21, 3) := by decide +kernel
theorem dX5_turnTo_23 : decode cX5_turnTo 23 = .ok (.aload_n 0, 1) := by decide +kernel
theorem dX5_turnTo_24 : decode cX5_turnTo 24 = .ok (.iload_n 3, 1) := by decide +kernel
theorem dX5_turnTo_25 : decode cX5_turnTo 25 = .ok (.iload_n 1, 1) := by decide +kernel
theorem dX5_turnTo_26 : decode cX5_turnTo 26 = .ok (.iload_n 3, 1) := by decide +kernel
theorem dX5_turnTo_27 : decode cX5_turnTo 27 = .ok (.invokestatic 85, 3) := by decide +kernel
theorem dX5_turnTo_30 : decode cX5_turnTo 30 = .ok (.ifCond .eq 7, 3) := by decide +kernel
theorem dX5_turnTo_33 : decode cX5_turnTo 33 = .ok (.iconst 1, 1) := by decide +kernel
theorem dX5_turnTo_34 : decode cX5_turnTo 34 = .ok (.goto 4, 3) := by decide +kernel
theorem dX5_turnTo_37 : decode cX5_turnTo 37 = .ok (.iconst (-1), 1) := by decide +kernel
theorem dX5_turnTo_38 : decode cX5_turnTo 38 = .ok (.invokevirtual 89, 3) := by decide +kernel
theorem dX5_turnTo_41 : decode cX5_turnTo 41 = .ok (.iinc 3 1, 3) := by decide +kernel
theorem dX5_turnTo_44 : decode cX5_turnTo 44 = .ok (.goto (-35), 3) := by decide +kernel
theorem dX5_turnTo_47 : decode cX5_turnTo 47 = .ok (.aload_n 0, 1) := by decide +kernel
theorem dX5_turnTo_48 : decode cX5_turnTo 48 = .ok (.iload_n 1, 1) := by decide +kernel
theorem dX5_turnTo_49 : decode cX5_turnTo 49 = .ok (.putfield 38, 3) := by decide +kernel
theorem dX5_turnTo_52 : decode cX5_turnTo 52 = .ok (.return_, 1) := by decide +kernel
theorem dX5_include_0 : decode cX5_include 0 = .ok (.aload_n 0, 1) := by decide +kernel
theorem dX5_include_1 : decode cX5_include 1 = .ok (.aload_n 0, 1) := by decide +kernel
theorem dX5_include_2 : decode cX5_include 2 = .ok (.getfield 38, 3) := by decide +kernel
theorem dX5_include_5 : decode cX5_include 5 = .ok (.iconst 1, 1) := by decide +kernel
theorem dX5_include_6 : decode cX5_include 6 = .ok (.iload_n 1, 1) := by decide +kernel
theorem dX5_include_7 : decode cX5_include 7 = .ok (.ishl, 1) := by decide +kernel
theorem dX5_include_8 : decode cX5_include 8 = .ok (.ior, 1) := by decide +kernel
theorem dX5_include_9 : decode cX5_include 9 = .ok (.invokevirtual 92, 3) := by decide +kernel
theorem dX5_include_12 : decode cX5_include 12 = .ok (.return_, 1) := by decide +kernel
theorem dX5_exclude_0 : decode cX5_exclude 0 = .ok (.aload_n 0, 1) := by decide +kernel
theorem dX5_exclude_1 : decode cX5_exclude 1 = .ok (.aload_n 0, 1) := by decide +kernel
theorem dX5_exclude_2 : decode cX5_exclude 2 = .ok (.getfield 38, 3) := by decide +kernel
theorem dX5_exclude_5 : decode cX5_exclude 5 = .ok (.iconst 1, 1) := by decide +kernel
theorem dX5_exclude_6 : decode cX5_exclude 6 = .ok (.iload_n 1, 1) := by decide +kernel
theorem dX5_exclude_7 : decode cX5_exclude 7 = .ok (.ishl, 1) := by decide +kernel
theorem dX5_exclude_8 : decode cX5_exclude 8 = .ok (.iconst (-1), 1) := by decide +kernel
theorem dX5_exclude_9 : decode cX5_exclude 9 = .ok (.ixor, 1) := by decide +kernel
theorem dX5_exclude_10 : decode cX5_exclude 10 = .ok (.iand, 1) := by decide +kernel
theorem dX5_exclude_11 : decode cX5_exclude 11 = .ok (.invokevirtual 92, 3) := by decide +kernel
theorem dX5_exclude_14 : decode cX5_exclude 14 = .ok (.return_, 1) := by decide +kernel
theorem dX5_change_0 : decode cX5_change 0 = .ok (.aload_n 0, 1) := by decide +kernel
theorem dX5_change_1 : decode cX5_change 1 = .ok (.getfield 11, 3) := by decide +kernel
theorem dX5_change_4 : decode cX5_change 4 = .ok (.iload_n 1, 1) := by decide +kernel
theorem dX5_change_5 : decode cX5_change 5 = .ok (.aaload, 1) := by decide +kernel
theorem dX5_change_6 : decode cX5_change 6 = .ok (.astore_n 3, 1) := by decide +kernel
theorem dX5_change_7 : decode cX5_change 7 = .ok (.aload_n 0, 1) := by decide +kernel
theorem dX5_change_8 : decode cX5_change 8 = .ok (.getfield 16, 3) := by decide +kernel
theorem dX5_change_11 : decode cX5_change 11 = .ok (.iload_n 1, 1) := by decide +kernel
theorem dX5_change_12 : decode cX5_change 12 = .ok (.iaload, 1) := by decide +kernel
theorem dX5_change_13 : decode cX5_change 13 = .ok (.bipush 24, 2) := by decide +kernel
theorem dX5_change_15 : decode cX5_change 15 = .ok (.imul, 1) := by decide +kernel
theorem dX5_change_16 : decode cX5_change 16 = .ok (.istore 4, 2) := by decide +kernel
theorem dX5_change_18 : decode cX5_change 18 = .ok (.iconst 0, 1) := by decide +kernel
theorem dX5_change_19 : decode cX5_change 19 = .ok (.istore 5, 2) := by decide +kernel
theorem dX5_change_21 : decode cX5_change 21 = .ok (.iload 5, 2) := by decide +kernel
theorem dX5_change_23 : decode cX5_change 23 = .ok (.bipush 72, 2) := by decide +kernel
theorem dX5_change_25 : decode cX5_change 25 = .ok (.if_icmp .ge 25, 3) := by decide +kernel
theorem dX5_change_28 : decode cX5_change 28 = .ok (.aload_n 0, 1) := by decide +kernel
theorem dX5_change_29 : decode cX5_change 29 = .ok (.getfield 20, 3) := by decide +kernel
theorem dX5_change_32 : decode cX5_change 32 = .ok (.iload 5, 2) := by decide +kernel
theorem dX5_change_34 : decode cX5_change 34 = .ok (.dup2, 1) := by decide +kernel
theorem dX5_change_35 : decode cX5_change 35 = .ok (.iaload, 1) := by decide +kernel
theorem dX5_change_36 : decode cX5_change 36 = .ok (.iload_n 2, 1) := by decide +kernel
theorem dX5_change_37 : decode cX5_change 37 = .ok (.aload_n 3, 1) := by decide +kernel
theorem dX5_change_38 : decode cX5_change 38 = .ok (.iload 5, 2) := by decide +kernel
theorem dX5_change_40 : decode cX5_change 40 = .ok (.iaload, 1) := by decide +kernel
theorem dX5_change_41 : decode cX5_change 41 = .ok (.imul, 1) := by decide +kernel
theorem dX5_change_42 : decode cX5_change 42 = .ok (.iadd, 1) := by decide +kernel
theorem dX5_change_43 : decode cX5_change 43 = .ok (.iastore, 1) := by decide +kernel
theorem dX5_change_44 : decode cX5_change 44 = .ok (.iinc 5 1, 3) := by decide +kernel
theorem dX5_change_47 : decode cX5_change 47 = .ok (.goto (-26), 3) := by decide +kernel
theorem dX5_change_50 : decode cX5_change 50 = .ok (.iconst 0, 1) := by decide +kernel
theorem dX5_change_51 : decode cX5_change 51 = .ok (.istore 5, 2) := by decide +kernel
theorem dX5_change_53 : decode cX5_change 53 = .ok (.iload 5, 2) := by decide +kernel
theorem dX5_change_55 : decode cX5_change 55 = .ok (.bipush 24, 2) := by decide +kernel
theorem dX5_change_57 : decode cX5_change 57 = .ok (.if_icmp .ge 28, 3) := by decide +kernel
theorem dX5_change_60 : decode cX5_change 60 = .ok (.aload_n 0, 1) := by decide +kernel
theorem dX5_change_61 : decode cX5_change 61 = .ok (.getfield 23, 3) := by decide +kernel
theorem dX5_change_64 : decode cX5_change 64 = .ok (.iload 4, 2) := by decide +kernel
theorem dX5_change_66 : decode cX5_change 66 = .ok (.iload 5, 2) := by decide +kernel
theorem dX5_change_68 : decode cX5_change 68 = .ok (.iadd, 1) := by decide +kernel
theorem dX5_change_69 : decode cX5_change 69 = .ok (.dup2, 1) := by decide +kernel
theorem dX5_change_70 : decode cX5_change 70 = .ok (.iaload, 1) := by decide +kernel
theorem dX5_change_71 : decode cX5_change 71 = .ok (.iload_n 2, 1) := by decide +kernel
theorem dX5_change_72 : decode cX5_change 72 = .ok (.aload_n 3, 1) := by decide +kernel
theorem dX5_change_73 : decode cX5_change 73 = .ok (.iload 5, 2) := by decide +kernel
theorem dX5_change_75 : decode cX5_change 75 = .ok (.iaload, 1) := by decide +kernel
theorem dX5_change_76 : decode cX5_change 76 = .ok (.imul, 1) := by decide +kernel
theorem dX5_change_77 : decode cX5_change 77 = .ok (.iadd, 1) := by decide +kernel
theorem dX5_change_78 : decode cX5_change 78 = .ok (.iastore, 1) := by decide +kernel
theorem dX5_change_79 : decode cX5_change 79 = .ok (.iinc 5 1, 3) := by decide +kernel
theorem dX5_change_82 : decode cX5_change 82 = .ok (.goto (-29), 3) := by decide +kernel
theorem dX5_change_85 : decode cX5_change 85 = .ok (.return_, 1) := by decide +kernel
theorem dX5_fits_0 : decode cX5_fits 0 = .ok (.aload_n 0, 1) := by decide +kernel
theorem dX5_fits_1 : decode cX5_fits 1 = .ok (.iconst 0, 1) := by decide +kernel
theorem dX5_fits_2 : decode cX5_fits 2 = .ok (.invokevirtual 96, 3) := by decide +kernel
theorem dX5_fits_5 : decode cX5_fits 5 = .ok (.ireturn, 1) := by decide +kernel
theorem dX5_fitsButForPlant_0 : decode cX5_fitsButForPlant 0 = .ok (.aload_n 0, 1) := by decide +kernel
theorem dX5_fitsButForPlant_1 : decode cX5_fitsButForPlant 1 = .ok (.iconst 3, 1) := by decide +kernel
theorem dX5_fitsButForPlant_2 : decode cX5_fitsButForPlant 2 = .ok (.invokevirtual 96, 3) := by decide +kernel
theorem dX5_fitsButForPlant_5 : decode cX5_fitsButForPlant 5 = .ok (.ireturn, 1) := by decide +kernel
theorem dX5_fitsFrom_0 : decode cX5_fitsFrom 0 = .ok (.aload_n 0, 1) := by decide +kernel
theorem dX5_fitsFrom_1 : decode cX5_fitsFrom 1 = .ok (.getfield 26, 3) := by decide +kernel
theorem dX5_fitsFrom_4 : decode cX5_fitsFrom 4 = .ok (.getfield 99, 3) := by decide +kernel
theorem dX5_fitsFrom_7 : decode cX5_fitsFrom 7 = .ok (.istore_n 2, 1) := by decide +kernel
theorem dX5_fitsFrom_8 : decode cX5_fitsFrom 8 = .ok (.iconst 0, 1) := by decide +kernel
theorem dX5_fitsFrom_9 : decode cX5_fitsFrom 9 = .ok (.istore_n 3, 1) := by decide +kernel
theorem dX5_fitsFrom_10 : decode cX5_fitsFrom 10 = .ok (.iload_n 3, 1) := by decide +kernel
theorem dX5_fitsFrom_11 : decode cX5_fitsFrom 11 = .ok (.bipush 24, 2) := by decide +kernel
theorem dX5_fitsFrom_13 : decode cX5_fitsFrom 13 = .ok (.if_icmp .ge 57, 3) := by decide +kernel
theorem dX5_fitsFrom_16 : decode cX5_fitsFrom 16 = .ok (.aload_n 0, 1) := by decide +kernel
theorem dX5_fitsFrom_17 : decode cX5_fitsFrom 17 = .ok (.getfield 26, 3) := by decide +kernel
theorem dX5_fitsFrom_20 : decode cX5_fitsFrom 20 = .ok (.iload_n 2, 1) := by decide +kernel
theorem dX5_fitsFrom_21 : decode cX5_fitsFrom 21 = .ok (.invokevirtual 102, 3) := by decide +kernel
theorem dX5_fitsFrom_24 : decode cX5_fitsFrom 24 = .ok (.istore_n 2, 1) := by decide +kernel
theorem dX5_fitsFrom_25 : decode cX5_fitsFrom 25 = .ok (.aload_n 0, 1) := by decide +kernel
theorem dX5_fitsFrom_26 : decode cX5_fitsFrom 26 = .ok (.iload_n 3, 1) := by decide +kernel
theorem dX5_fitsFrom_27 : decode cX5_fitsFrom 27 = .ok (.iload_n 2, 1) := by decide +kernel
theorem dX5_fitsFrom_28 : decode cX5_fitsFrom 28 = .ok (.iload_n 1, 1) := by decide +kernel
theorem dX5_fitsFrom_29 : decode cX5_fitsFrom 29 = .ok (.invokevirtual 106, 3) := by decide +kernel
theorem dX5_fitsFrom_32 : decode cX5_fitsFrom 32 = .ok (.istore 4, 2) := by decide +kernel
theorem dX5_fitsFrom_34 : decode cX5_fitsFrom 34 = .ok (.iload 4, 2) := by decide +kernel
theorem dX5_fitsFrom_36 : decode cX5_fitsFrom 36 = .ok (.iconst (-1), 1) := by decide +kernel
theorem dX5_fitsFrom_37 : decode cX5_fitsFrom 37 = .ok (.if_icmp .eq 16, 3) := by decide +kernel
theorem dX5_fitsFrom_40 : decode cX5_fitsFrom 40 = .ok (.aload_n 0, 1) := by decide +kernel
theorem dX5_fitsFrom_41 : decode cX5_fitsFrom 41 = .ok (.iload_n 3, 1) := by decide +kernel
theorem dX5_fitsFrom_42 : decode cX5_fitsFrom 42 = .ok (.putfield 110, 3) := by decide +kernel
theorem dX5_fitsFrom_45 : decode cX5_fitsFrom 45 = .ok (.aload_n 0, 1) := by decide +kernel
theorem dX5_fitsFrom_46 : decode cX5_fitsFrom 46 = .ok (.iload 4, 2) := by decide +kernel
theorem dX5_fitsFrom_48 : decode cX5_fitsFrom 48 = .ok (.putfield 113, 3) := by decide +kernel
theorem dX5_fitsFrom_51 : decode cX5_fitsFrom 51 = .ok (.iconst 0, 1) := by decide +kernel
theorem dX5_fitsFrom_52 : decode cX5_fitsFrom 52 = .ok (.ireturn, 1) := by decide +kernel
theorem dX5_fitsFrom_53 : decode cX5_fitsFrom 53 = .ok (.iload_n 2, 1) := by decide +kernel
theorem dX5_fitsFrom_54 : decode cX5_fitsFrom 54 = .ok (.aload_n 0, 1) := by decide +kernel
theorem dX5_fitsFrom_55 : decode cX5_fitsFrom 55 = .ok (.getfield 20, 3) := by decide +kernel
theorem dX5_fitsFrom_58 : decode cX5_fitsFrom 58 = .ok (.iconst 0, 1) := by decide +kernel
theorem dX5_fitsFrom_59 : decode cX5_fitsFrom 59 = .ok (.iload_n 3, 1) := by decide +kernel
theorem dX5_fitsFrom_60 : decode cX5_fitsFrom 60 = .ok (.iadd, 1) := by decide +kernel
theorem dX5_fitsFrom_61 : decode cX5_fitsFrom 61 = .ok (.iaload, 1) := by decide +kernel
theorem dX5_fitsFrom_62 : decode cX5_fitsFrom 62 = .ok (.isub, 1) := by decide +kernel
theorem dX5_fitsFrom_63 : decode cX5_fitsFrom 63 = .ok (.istore_n 2, 1) := by decide +kernel
theorem dX5_fitsFrom_64 : decode cX5_fitsFrom 64 = .ok (.iinc 3 1, 3) := by decide +kernel
theorem dX5_fitsFrom_67 : decode cX5_fitsFrom 67 = .ok (.goto (-57), 3) := by decide +kernel
theorem dX5_fitsFrom_70 : decode cX5_fitsFrom 70 = .ok (.iconst 1, 1) := by decide +kernel
theorem dX5_fitsFrom_71 : decode cX5_fitsFrom 71 = .ok (.ireturn, 1) := by decide +kernel
theorem dX5_causeAt_0 : decode cX5_causeAt 0 = .ok (.iload_n 3, 1) := by decide +kernel
theorem dX5_causeAt_1 : decode cX5_causeAt 1 = .ok (.istore 4, 2) := by decide +kernel
theorem dX5_causeAt_3 : decode cX5_causeAt 3 = .ok (.iload 4, 2) := by decide +kernel
theorem dX5_causeAt_5 : decode cX5_causeAt 5 = .ok (.iconst 3, 1) := by decide +kernel
theorem dX5_causeAt_6 : decode cX5_causeAt 6 = .ok (.if_icmp .ge 37, 3) := by decide +kernel
theorem dX5_causeAt_9 : decode cX5_causeAt 9 = .ok (.aload_n 0, 1) := by decide +kernel
theorem dX5_causeAt_10 : decode cX5_causeAt 10 = .ok (.getfield 20, 3) := by decide +kernel
theorem dX5_causeAt_13 : decode cX5_causeAt 13 = .ok (.iload 4, 2) := by decide +kernel
theorem dX5_causeAt_15 : decode cX5_causeAt 15 = .ok (.bipush 24, 2) := by decide +kernel
theorem dX5_causeAt_17 : decode cX5_causeAt 17 = .ok (.imul, 1) := by decide +kernel
theorem dX5_causeAt_18 : decode cX5_causeAt 18 = .ok (.iload_n 1, 1) := by decide +kernel
theorem dX5_causeAt_19 : decode cX5_causeAt 19 = .ok (.iadd, 1) := by decide +kernel
theorem dX5_causeAt_20 : decode cX5_causeAt 20 = .ok (.iaload, 1) := by decide +kernel
