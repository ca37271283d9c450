theorem dX5_causeAt_21 : decode cX5_causeAt 21 = .ok (.aload_n 0, 1) := by decide +kernel
theorem dX5_causeAt_22 : decode cX5_causeAt 22 = .ok (.getfield 26, 3) := by decide +kernel
theorem dX5_causeAt_25 : decode cX5_causeAt 25 = .ok (.getfield 116, 3) := by decide +kernel
theorem dX5_causeAt_28 : decode cX5_causeAt 28 = .ok (.iload 4, 2) := by decide +kernel
theorem dX5_causeAt_30 : decode cX5_causeAt 30 = .ok (.iaload, 1) := by decide +kernel
theorem dX5_causeAt_31 : decode cX5_causeAt 31 = .ok (.if_icmp .le 6, 3) := by decide +kernel
theorem dX5_causeAt_34 : decode cX5_causeAt 34 = .ok (.iload 4, 2) := by decide +kernel
theorem dX5_causeAt_36 : decode cX5_causeAt 36 = .ok (.ireturn, 1) := by decide +kernel
theorem dX5_causeAt_37 : decode cX5_causeAt 37 = .ok (.iinc 4 1, 3) := by decide +kernel
theorem dX5_causeAt_40 : decode cX5_causeAt 40 = .ok (.goto (-37), 3) := by decide +kernel
theorem dX5_causeAt_43 : decode cX5_causeAt 43 = .ok (.iconst 0, 1) := by decide +kernel
theorem dX5_causeAt_44 : decode cX5_causeAt 44 = .ok (.istore 4, 2) := by decide +kernel
theorem dX5_causeAt_46 : decode cX5_causeAt 46 = .ok (.iload 4, 2) := by decide +kernel
theorem dX5_causeAt_48 : decode cX5_causeAt 48 = .ok (.iconst 4, 1) := by decide +kernel
theorem dX5_causeAt_49 : decode cX5_causeAt 49 = .ok (.if_icmp .ge 39, 3) := by decide +kernel
theorem dX5_causeAt_52 : decode cX5_causeAt 52 = .ok (.aload_n 0, 1) := by decide +kernel
theorem dX5_causeAt_53 : decode cX5_causeAt 53 = .ok (.getfield 23, 3) := by decide +kernel
theorem dX5_causeAt_56 : decode cX5_causeAt 56 = .ok (.iload 4, 2) := by decide +kernel
theorem dX5_causeAt_58 : decode cX5_causeAt 58 = .ok (.bipush 24, 2) := by decide +kernel
theorem dX5_causeAt_60 : decode cX5_causeAt 60 = .ok (.imul, 1) := by decide +kernel
theorem dX5_causeAt_61 : decode cX5_causeAt 61 = .ok (.iload_n 1, 1) := by decide +kernel
theorem dX5_causeAt_62 : decode cX5_causeAt 62 = .ok (.iadd, 1) := by decide +kernel
theorem dX5_causeAt_63 : decode cX5_causeAt 63 = .ok (.iaload, 1) := by decide +kernel
theorem dX5_causeAt_64 : decode cX5_causeAt 64 = .ok (.aload_n 0, 1) := by decide +kernel
theorem dX5_causeAt_65 : decode cX5_causeAt 65 = .ok (.getfield 26, 3) := by decide +kernel
theorem dX5_causeAt_68 : decode cX5_causeAt 68 = .ok (.getfield 119, 3) := by decide +kernel
theorem dX5_causeAt_71 : decode cX5_causeAt 71 = .ok (.iload 4, 2) := by decide +kernel
theorem dX5_causeAt_73 : decode cX5_causeAt 73 = .ok (.iaload, 1) := by decide +kernel
theorem dX5_causeAt_74 : decode cX5_causeAt 74 = .ok (.if_icmp .le 8, 3) := by decide +kernel
theorem dX5_causeAt_77 : decode cX5_causeAt 77 = .ok (.iconst 3, 1) := by decide +kernel
theorem dX5_causeAt_78 : decode cX5_causeAt 78 = .ok (.iload 4, 2) := by decide +kernel
theorem dX5_causeAt_80 : decode cX5_causeAt 80 = .ok (.iadd, 1) := by decide +kernel
theorem dX5_causeAt_81 : decode cX5_causeAt 81 = .ok (.ireturn, 1) := by decide +kernel
theorem dX5_causeAt_82 : decode cX5_causeAt 82 = .ok (.iinc 4 1, 3) := by decide +kernel
theorem dX5_causeAt_85 : decode cX5_causeAt 85 = .ok (.goto (-39), 3) := by decide +kernel
theorem dX5_causeAt_88 : decode cX5_causeAt 88 = .ok (.aload_n 0, 1) := by decide +kernel
theorem dX5_causeAt_89 : decode cX5_causeAt 89 = .ok (.getfield 20, 3) := by decide +kernel
theorem dX5_causeAt_92 : decode cX5_causeAt 92 = .ok (.iconst 0, 1) := by decide +kernel
theorem dX5_causeAt_93 : decode cX5_causeAt 93 = .ok (.iload_n 1, 1) := by decide +kernel
theorem dX5_causeAt_94 : decode cX5_causeAt 94 = .ok (.iadd, 1) := by decide +kernel
theorem dX5_causeAt_95 : decode cX5_causeAt 95 = .ok (.iaload, 1) := by decide +kernel
theorem dX5_causeAt_96 : decode cX5_causeAt 96 = .ok (.iload_n 2, 1) := by decide +kernel
theorem dX5_causeAt_97 : decode cX5_causeAt 97 = .ok (.if_icmp .le 8, 3) := by decide +kernel
theorem dX5_causeAt_100 : decode cX5_causeAt 100 = .ok (.bipush 7, 2) := by decide +kernel
theorem dX5_causeAt_102 : decode cX5_causeAt 102 = .ok (.goto 4, 3) := by decide +kernel
theorem dX5_causeAt_105 : decode cX5_causeAt 105 = .ok (.iconst (-1), 1) := by decide +kernel
theorem dX5_causeAt_106 : decode cX5_causeAt 106 = .ok (.ireturn, 1) := by decide +kernel
theorem dX5_peakOf_0 : decode cX5_peakOf 0 = .ok (.iconst 0, 1) := by decide +kernel
theorem dX5_peakOf_1 : decode cX5_peakOf 1 = .ok (.istore_n 2, 1) := by decide +kernel
theorem dX5_peakOf_2 : decode cX5_peakOf 2 = .ok (.iconst 0, 1) := by decide +kernel
theorem dX5_peakOf_3 : decode cX5_peakOf 3 = .ok (.istore_n 3, 1) := by decide +kernel
theorem dX5_peakOf_4 : decode cX5_peakOf 4 = .ok (.iload_n 3, 1) := by decide +kernel
theorem dX5_peakOf_5 : decode cX5_peakOf 5 = .ok (.bipush 24, 2) := by decide +kernel
theorem dX5_peakOf_7 : decode cX5_peakOf 7 = .ok (.if_icmp .ge 25, 3) := by decide +kernel
theorem dX5_peakOf_10 : decode cX5_peakOf 10 = .ok (.iload_n 2, 1) := by decide +kernel
theorem dX5_peakOf_11 : decode cX5_peakOf 11 = .ok (.aload_n 0, 1) := by decide +kernel
theorem dX5_peakOf_12 : decode cX5_peakOf 12 = .ok (.getfield 20, 3) := by decide +kernel
theorem dX5_peakOf_15 : decode cX5_peakOf 15 = .ok (.iload_n 1, 1) := by decide +kernel
theorem dX5_peakOf_16 : decode cX5_peakOf 16 = .ok (.bipush 24, 2) := by decide +kernel
theorem dX5_peakOf_18 : decode cX5_peakOf 18 = .ok (.imul, 1) := by decide +kernel
theorem dX5_peakOf_19 : decode cX5_peakOf 19 = .ok (.iload_n 3, 1) := by decide +kernel
theorem dX5_peakOf_20 : decode cX5_peakOf 20 = .ok (.iadd, 1) := by decide +kernel
theorem dX5_peakOf_21 : decode cX5_peakOf 21 = .ok (.iaload, 1) := by decide +kernel
theorem dX5_peakOf_22 : decode cX5_peakOf 22 = .ok (.invokestatic 122, 3) := by decide +kernel
theorem dX5_peakOf_25 : decode cX5_peakOf 25 = .ok (.istore_n 2, 1) := by decide +kernel
theorem dX5_peakOf_26 : decode cX5_peakOf 26 = .ok (.iinc 3 1, 3) := by decide +kernel
theorem dX5_peakOf_29 : decode cX5_peakOf 29 = .ok (.goto (-25), 3) := by decide +kernel
theorem dX5_peakOf_32 : decode cX5_peakOf 32 = .ok (.iload_n 2, 1) := by decide +kernel
theorem dX5_peakOf_33 : decode cX5_peakOf 33 = .ok (.ireturn, 1) := by decide +kernel
theorem dX5_throughPipes_0 : decode cX5_throughPipes 0 = .ok (.iconst 0, 1) := by decide +kernel
theorem dX5_throughPipes_1 : decode cX5_throughPipes 1 = .ok (.istore_n 2, 1) := by decide +kernel
theorem dX5_throughPipes_2 : decode cX5_throughPipes 2 = .ok (.iconst 0, 1) := by decide +kernel
theorem dX5_throughPipes_3 : decode cX5_throughPipes 3 = .ok (.istore_n 3, 1) := by decide +kernel
theorem dX5_throughPipes_4 : decode cX5_throughPipes 4 = .ok (.iload_n 3, 1) := by decide +kernel
theorem dX5_throughPipes_5 : decode cX5_throughPipes 5 = .ok (.iconst 4, 1) := by decide +kernel
theorem dX5_throughPipes_6 : decode cX5_throughPipes 6 = .ok (.if_icmp .ge 35, 3) := by decide +kernel
theorem dX5_throughPipes_9 : decode cX5_throughPipes 9 = .ok (.iload_n 2, 1) := by decide +kernel
theorem dX5_throughPipes_10 : decode cX5_throughPipes 10 = .ok (.aload_n 0, 1) := by decide +kernel
theorem dX5_throughPipes_11 : decode cX5_throughPipes 11 = .ok (.getfield 26, 3) := by decide +kernel
theorem dX5_throughPipes_14 : decode cX5_throughPipes 14 = .ok (.getfield 119, 3) := by decide +kernel
theorem dX5_throughPipes_17 : decode cX5_throughPipes 17 = .ok (.iload_n 3, 1) := by decide +kernel
theorem dX5_throughPipes_18 : decode cX5_throughPipes 18 = .ok (.iaload, 1) := by decide +kernel
theorem dX5_throughPipes_19 : decode cX5_throughPipes 19 = .ok (.aload_n 0, 1) := by decide +kernel
theorem dX5_throughPipes_20 : decode cX5_throughPipes 20 = .ok (.getfield 23, 3) := by decide +kernel
theorem dX5_throughPipes_23 : decode cX5_throughPipes 23 = .ok (.iload_n 3, 1) := by decide +kernel
theorem dX5_throughPipes_24 : decode cX5_throughPipes 24 = .ok (.bipush 24, 2) := by decide +kernel
theorem dX5_throughPipes_26 : decode cX5_throughPipes 26 = .ok (.imul, 1) := by decide +kernel
theorem dX5_throughPipes_27 : decode cX5_throughPipes 27 = .ok (.iload_n 1, 1) := by decide +kernel
theorem dX5_throughPipes_28 : decode cX5_throughPipes 28 = .ok (.iadd, 1) := by decide +kernel
theorem dX5_throughPipes_29 : decode cX5_throughPipes 29 = .ok (.iaload, 1) := by decide +kernel
theorem dX5_throughPipes_30 : decode cX5_throughPipes 30 = .ok (.invokestatic 125, 3) := by decide +kernel
theorem dX5_throughPipes_33 : decode cX5_throughPipes 33 = .ok (.iadd, 1) := by decide +kernel
theorem dX5_throughPipes_34 : decode cX5_throughPipes 34 = .ok (.istore_n 2, 1) := by decide +kernel
theorem dX5_throughPipes_35 : decode cX5_throughPipes 35 = .ok (.iinc 3 1, 3) := by decide +kernel
theorem dX5_throughPipes_38 : decode cX5_throughPipes 38 = .ok (.goto (-34), 3) := by decide +kernel
theorem dX5_throughPipes_41 : decode cX5_throughPipes 41 = .ok (.iload_n 2, 1) := by decide +kernel
theorem dX5_throughPipes_42 : decode cX5_throughPipes 42 = .ok (.ireturn, 1) := by decide +kernel
theorem dX6_init_0 : decode cX6_init 0 = .ok (.aload_n 0, 1) := by decide +kernel
theorem dX6_init_1 : decode cX6_init 1 = .ok (.invokespecial 3, 3) := by decide +kernel
theorem dX6_init_4 : decode cX6_init 4 = .ok (.aload_n 0, 1) := by decide +kernel
theorem dX6_init_5 : decode cX6_init 5 = .ok (.bipush 10, 2) := by decide +kernel
theorem dX6_init_7 : decode cX6_init 7 = .ok (.newarray .int, 2) := by decide +kernel
theorem dX6_init_9 : decode cX6_init 9 = .ok (.putfield 9, 3) := by decide +kernel
theorem dX6_init_12 : decode cX6_init 12 = .ok (.aload_n 0, 1) := by decide +kernel
theorem dX6_init_13 : decode cX6_init 13 = .ok (.bipush 10, 2) := by decide +kernel
theorem dX6_init_15 : decode cX6_init 15 = .ok (.newarray .int, 2) := by decide +kernel
theorem dX6_init_17 : decode cX6_init 17 = .ok (.putfield 15, 3) := by decide +kernel
theorem dX6_init_20 : decode cX6_init 20 = .ok (.aload_n 0, 1) := by decide +kernel
theorem dX6_init_21 : decode cX6_init 21 = .ok (.bipush 10, 2) := by decide +kernel
theorem dX6_init_23 : decode cX6_init 23 = .ok (.newarray .int, 2) := by decide +kernel
theorem dX6_init_25 : decode cX6_init 25 = .ok (.putfield 18, 3) := by decide +kernel
theorem dX6_init_28 : decode cX6_init 28 = .ok (.aload_n 0, 1) := by decide +kernel
theorem dX6_init_29 : decode cX6_init 29 = .ok (.aload_n 1, 1) := by decide +kernel
theorem dX6_init_30 : decode cX6_init 30 = .ok (.putfield 21, 3) := by decide +kernel
theorem dX6_init_33 : decode cX6_init 33 = .ok (.aload_n 0, 1) := by decide +kernel
theorem dX6_init_34 : decode cX6_init 34 = .ok (.aload_n 2, 1) := by decide +kernel
theorem dX6_init_35 : decode cX6_init 35 = .ok (.putfield 25, 3) := by decide +kernel
theorem dX6_init_38 : decode cX6_init 38 = .ok (.aload_n 0, 1) := by decide +kernel
theorem dX6_init_39 : decode cX6_init 39 = .ok (.aload_n 3, 1) := by decide +kernel
theorem dX6_init_40 : decode cX6_init 40 = .ok (.putfield 29, 3) := by decide +kernel
theorem dX6_init_43 : decode cX6_init 43 = .ok (.return_, 1) := by decide +kernel
theorem dX6_findRooms_0 : decode cX6_findRooms 0 = .ok (.aload_n 0, 1) := by decide +kernel
theorem dX6_findRooms_1 : decode cX6_findRooms 1 = .ok (.iload_n 1, 1) := by decide +kernel
theorem dX6_findRooms_2 : decode cX6_findRooms 2 = .ok (.putfield 33, 3) := by decide +kernel
theorem dX6_findRooms_5 : decode cX6_findRooms 5 = .ok (.aload_n 0, 1) := by decide +kernel
theorem dX6_findRooms_6 : decode cX6_findRooms 6 = .ok (.getfield 29, 3) := by decide +kernel
theorem dX6_findRooms_9 : decode cX6_findRooms 9 = .ok (.aload_n 0, 1) := by decide +kernel
theorem dX6_findRooms_10 : decode cX6_findRooms 10 = .ok (.getfield 25, 3) := by decide +kernel
theorem dX6_findRooms_13 : decode cX6_findRooms 13 = .ok (.getfield 37, 3) := by decide +kernel
theorem dX6_findRooms_16 : decode cX6_findRooms 16 = .ok (.iload_n 1, 1) := by decide +kernel
theorem dX6_findRooms_17 : decode cX6_findRooms 17 = .ok (.iconst (-1), 1) := by decide +kernel
theorem dX6_findRooms_18 : decode cX6_findRooms 18 = .ok (.ixor, 1) := by decide +kernel
theorem dX6_findRooms_19 : decode cX6_findRooms 19 = .ok (.iand, 1) := by decide +kernel
theorem dX6_findRooms_20 : decode cX6_findRooms 20 = .ok (.invokevirtual 42, 3) := by decide +kernel
theorem dX6_findRooms_23 : decode cX6_findRooms 23 = .ok (.aload_n 0, 1) := by decide +kernel
theorem dX6_findRooms_24 : decode cX6_findRooms 24 = .ok (.iconst 0, 1) := by decide +kernel
theorem dX6_findRooms_25 : decode cX6_findRooms 25 = .ok (.iload_n 2, 1) := by decide +kernel
theorem dX6_findRooms_26 : decode cX6_findRooms 26 = .ok (.invokevirtual 48, 3) := by decide +kernel
theorem dX6_findRooms_29 : decode cX6_findRooms 29 = .ok (.ireturn, 1) := by decide +kernel
theorem dX6_findRoomsFrom_0 : decode cX6_findRoomsFrom 0 = .ok (.iload_n 1, 1) := by decide +kernel
theorem dX6_findRoomsFrom_1 : decode cX6_findRoomsFrom 1 = .ok (.bipush 10, 2) := by decide +kernel
theorem dX6_findRoomsFrom_3 : decode cX6_findRoomsFrom 3 = .ok (.if_icmp .lt 5, 3) := by decide +kernel
theorem dX6_findRoomsFrom_6 : decode cX6_findRoomsFrom 6 = .ok (.iconst 1, 1) := by decide +kernel
theorem dX6_findRoomsFrom_7 : decode cX6_findRoomsFrom 7 = .ok (.ireturn, 1) := by decide +kernel
theorem dX6_findRoomsFrom_8 : decode cX6_findRoomsFrom 8 = .ok (.aload_n 0, 1) := by decide +kernel
theorem dX6_findRoomsFrom_9 : decode cX6_findRoomsFrom 9 = .ok (.getfield 33, 3) := by decide +kernel
theorem dX6_findRoomsFrom_12 : decode cX6_findRoomsFrom 12 = .ok (.iload_n 1, 1) := by decide +kernel
theorem dX6_findRoomsFrom_13 : decode cX6_findRoomsFrom 13 = .ok (.invokestatic 52, 3) := by decide +kernel
theorem dX6_findRoomsFrom_16 : decode cX6_findRoomsFrom 16 = .ok (.ifCond .ne 12, 3) := by decide +kernel
theorem dX6_findRoomsFrom_19 : decode cX6_findRoomsFrom 19 = .ok (.aload_n 0, 1) := by decide +kernel
theorem dX6_findRoomsFrom_20 : decode cX6_findRoomsFrom 20 = .ok (.iload_n 1, 1) := by decide +kernel
theorem dX6_findRoomsFrom_21 : decode cX6_findRoomsFrom 21 = .ok (.iconst 1, 1) := by decide +kernel
theorem dX6_findRoomsFrom_22 : decode cX6_findRoomsFrom 22 = .ok (.iadd, 1) := by decide +kernel
theorem dX6_findRoomsFrom_23 : decode cX6_findRoomsFrom 23 = .ok (.iload_n 2, 1) := by decide +kernel
theorem dX6_findRoomsFrom_24 : decode cX6_findRoomsFrom 24 = .ok (.invokevirtual 48, 3) := by decide +kernel
theorem dX6_findRoomsFrom_27 : decode cX6_findRoomsFrom 27 = .ok (.ireturn, 1) := by decide +kernel
theorem dX6_findRoomsFrom_28 : decode cX6_findRoomsFrom 28 = .ok (.iconst 0, 1) := by decide +kernel
theorem dX6_findRoomsFrom_29 : decode cX6_findRoomsFrom 29 = .ok (.istore_n 3, 1) := by decide +kernel
theorem dX6_findRoomsFrom_30 : decode cX6_findRoomsFrom 30 = .ok (.iconst 0, 1) := by decide +kernel
theorem dX6_findRoomsFrom_31 : decode cX6_findRoomsFrom 31 = .ok (.istore 4, 2) := by decide +kernel
theorem dX6_findRoomsFrom_33 : decode cX6_findRoomsFrom 33 = .ok (.iload 4, 2) := by decide +kernel
theorem dX6_findRoomsFrom_35 : decode cX6_findRoomsFrom 35 = .ok (.bipush 10, 2) := by decide +kernel
theorem dX6_findRoomsFrom_37 : decode cX6_findRoomsFrom 37 = .ok (.if_icmp .ge 110, 3) := by decide +kernel
theorem dX6_findRoomsFrom_40 : decode cX6_findRoomsFrom 40 = .ok (.aload_n 0, 1) := by decide +kernel
theorem dX6_findRoomsFrom_41 : decode cX6_findRoomsFrom 41 = .ok (.getfield 21, 3) := by decide +kernel
theorem dX6_findRoomsFrom_44 : decode cX6_findRoomsFrom 44 = .ok (.getfield 55, 3) := by decide +kernel
theorem dX6_findRoomsFrom_47 : decode cX6_findRoomsFrom 47 = .ok (.iload 4, 2) := by decide +kernel
theorem dX6_findRoomsFrom_49 : decode cX6_findRoomsFrom 49 = .ok (.iaload, 1) := by decide +kernel
theorem dX6_findRoomsFrom_50 : decode cX6_findRoomsFrom 50 = .ok (.istore 5, 2) := by decide +kernel
theorem dX6_findRoomsFrom_52 : decode cX6_findRoomsFrom 52 = .ok (.iload_n 2, 1) := by decide +kernel
theorem dX6_findRoomsFrom_53 : decode cX6_findRoomsFrom 53 = .ok (.iload 4, 2) := by decide +kernel
theorem dX6_findRoomsFrom_55 : decode cX6_findRoomsFrom 55 = .ok (.invokestatic 52, 3) := by decide +kernel
theorem dX6_findRoomsFrom_58 : decode cX6_findRoomsFrom 58 = .ok (.ifCond .eq 83, 3) := by decide +kernel
theorem dX6_findRoomsFrom_61 : decode cX6_findRoomsFrom 61 = .ok (.iload_n 3, 1) := by decide +kernel
theorem dX6_findRoomsFrom_62 : decode cX6_findRoomsFrom 62 = .ok (.iload 5, 2) := by decide +kernel
theorem dX6_findRoomsFrom_64 : decode cX6_findRoomsFrom 64 = .ok (.invokestatic 52, 3) := by decide +kernel
theorem dX6_findRoomsFrom_67 : decode cX6_findRoomsFrom 67 = .ok (.ifCond .ne 74, 3) := by decide +kernel
theorem dX6_findRoomsFrom_70 : decode cX6_findRoomsFrom 70 = .ok (.iload_n 3, 1) := by decide +kernel
theorem dX6_findRoomsFrom_71 : decode cX6_findRoomsFrom 71 = .ok (.iconst 1, 1) := by decide +kernel
theorem dX6_findRoomsFrom_72 : decode cX6_findRoomsFrom 72 = .ok (.iload 5, 2) := by decide +kernel
theorem dX6_findRoomsFrom_74 : decode cX6_findRoomsFrom 74 = .ok (.ishl, 1) := by decide +kernel
theorem dX6_findRoomsFrom_75 : decode cX6_findRoomsFrom 75 = .ok (.ior, 1) := by decide +kernel
theorem dX6_findRoomsFrom_76 : decode cX6_findRoomsFrom 76 = .ok (.istore_n 3, 1) := by decide +kernel
theorem dX6_findRoomsFrom_77 : decode cX6_findRoomsFrom 77 = .ok (.aload_n 0, 1) := by decide +kernel
theorem dX6_findRoomsFrom_78 : decode cX6_findRoomsFrom 78 = .ok (.getfield 9, 3) := by decide +kernel
theorem dX6_findRoomsFrom_81 : decode cX6_findRoomsFrom 81 = .ok (.iload_n 1, 1) := by decide +kernel
theorem dX6_findRoomsFrom_82 : decode cX6_findRoomsFrom 82 = .ok (.iload 4, 2) := by decide +kernel
theorem dX6_findRoomsFrom_84 : decode cX6_findRoomsFrom 84 = .ok (.iastore, 1) := by decide +kernel
theorem dX6_findRoomsFrom_85 : decode cX6_findRoomsFrom 85 = .ok (.aload_n 0, 1) := by decide +kernel
theorem dX6_findRoomsFrom_86 : decode cX6_findRoomsFrom 86 = .ok (.getfield 29, 3) := by decide +kernel
theorem dX6_findRoomsFrom_89 : decode cX6_findRoomsFrom 89 = .ok (.iload_n 1, 1) := by decide +kernel
theorem dX6_findRoomsFrom_90 : decode cX6_findRoomsFrom 90 = .ok (.iload 5, 2) := by decide +kernel
theorem dX6_findRoomsFrom_92 : decode cX6_findRoomsFrom 92 = .ok (.invokevirtual 60, 3) := by decide +kernel
theorem dX6_findRoomsFrom_95 : decode cX6_findRoomsFrom 95 = .ok (.aload_n 0, 1) := by decide +kernel
theorem dX6_findRoomsFrom_96 : decode cX6_findRoomsFrom 96 = .ok (.getfield 29, 3) := by decide +kernel
theorem dX6_findRoomsFrom_99 : decode cX6_findRoomsFrom 99 = .ok (.iload_n 1, 1) := by decide +kernel
theorem dX6_findRoomsFrom_100 : decode cX6_findRoomsFrom 100 = .ok (.invokevirtual 64, 3) := by decide +kernel
theorem dX6_findRoomsFrom_103 : decode cX6_findRoomsFrom 103 = .ok (.aload_n 0, 1) := by decide +kernel
theorem dX6_findRoomsFrom_104 : decode cX6_findRoomsFrom 104 = .ok (.getfield 29, 3) := by decide +kernel
theorem dX6_findRoomsFrom_107 : decode cX6_findRoomsFrom 107 = .ok (.invokevirtual 67, 3) := by decide +kernel
theorem dX6_findRoomsFrom_110 : decode cX6_findRoomsFrom 110 = .ok (.ifCond .eq 23, 3) := by decide +kernel
theorem dX6_findRoomsFrom_113 : decode cX6_findRoomsFrom 113 = .ok (.aload_n 0, 1) := by decide +kernel
theorem dX6_findRoomsFrom_114 : decode cX6_findRoomsFrom 114 = .ok (.iload_n 1, 1) := by decide +kernel
theorem dX6_findRoomsFrom_115 : decode cX6_findRoomsFrom 115 = .ok (.iconst 1, 1) := by decide +kernel
theorem dX6_findRoomsFrom_116 : decode cX6_findRoomsFrom 116 = .ok (.iadd, 1) := by decide +kernel
theorem dX6_findRoomsFrom_117 : decode cX6_findRoomsFrom 117 = .ok (.iload_n 2, 1) := by decide +kernel
theorem dX6_findRoomsFrom_118 : decode cX6_findRoomsFrom 118 = .ok (.iconst 1, 1) := by decide +kernel
theorem dX6_findRoomsFrom_119 : decode cX6_findRoomsFrom 119 = .ok (.iload 4, 2) := by decide +kernel
theorem dX6_findRoomsFrom_121 : decode cX6_findRoomsFrom 121 = .ok (.ishl, 1) := by decide +kernel
theorem dX6_findRoomsFrom_122 : decode cX6_findRoomsFrom 122 = .ok (.iconst (-1), 1) := by decide +kernel
theorem dX6_findRoomsFrom_123 : decode cX6_findRoomsFrom 123 = .ok (.ixor, 1) := by decide +kernel
theorem dX6_findRoomsFrom_124 : decode cX6_findRoomsFrom 124 = .ok (.iand, 1) := by decide +kernel
theorem dX6_findRoomsFrom_125 : decode cX6_findRoomsFrom 125 = .ok (.invokevirtual 48, 3) := by decide +kernel
theorem dX6_findRoomsFrom_128 : decode cX6_findRoomsFrom 128 = .ok (.ifCond .eq 5, 3) := by decide +kernel
theorem dX6_findRoomsFrom_131 : decode cX6_findRoomsFrom 131 = .ok (.iconst 1, 1) := by decide +kernel
theorem dX6_findRoomsFrom_132 : decode cX6_findRoomsFrom 132 = .ok (.ireturn, 1) := by decide +kernel
theorem dX6_findRoomsFrom_133 : decode cX6_findRoomsFrom 133 = .ok (.aload_n 0, 1) := by decide +kernel
theorem dX6_findRoomsFrom_134 : decode cX6_findRoomsFrom 134 = .ok (.getfield 29, 3) := by decide +kernel
theorem dX6_findRoomsFrom_137 : decode cX6_findRoomsFrom 137 = .ok (.iload_n 1, 1) := by decide +kernel
theorem dX6_findRoomsFrom_138 : decode cX6_findRoomsFrom 138 = .ok (.invokevirtual 71, 3) := by decide +kernel
theorem dX6_findRoomsFrom_141 : decode cX6_findRoomsFrom 141 = .ok (.iinc 4 1, 3) := by decide +kernel
theorem dX6_findRoomsFrom_144 : decode cX6_findRoomsFrom 144 = .ok (.goto (-111), 3) := by decide +kernel
theorem dX6_findRoomsFrom_147 : decode cX6_findRoomsFrom 147 = .ok (.iconst 0, 1) := by decide +kernel
theorem dX6_findRoomsFrom_148 : decode cX6_findRoomsFrom 148 = .ok (.ireturn, 1) := by decide +kernel
theorem dX6_moveIn_0 : decode cX6_moveIn 0 = .ok (.iconst 0, 1) := by decide +kernel
theorem dX6_moveIn_1 : decode cX6_moveIn 1 = .ok (.istore_n 2, 1) := by decide +kernel
theorem dX6_moveIn_2 : decode cX6_moveIn 2 = .ok (.iload_n 2, 1) := by decide +kernel
theorem dX6_moveIn_3 : decode cX6_moveIn 3 = .ok (.bipush 10, 2) := by decide +kernel
theorem dX6_moveIn_5 : decode cX6_moveIn 5 = .ok (.if_icmp .ge 32, 3) := by decide +kernel
theorem dX6_moveIn_8 : decode cX6_moveIn 8 = .ok (.iload_n 1, 1) := by decide +kernel
theorem dX6_moveIn_9 : decode cX6_moveIn 9 = .ok (.iload_n 2, 1) := by decide +kernel
theorem dX6_moveIn_10 : decode cX6_moveIn 10 = .ok (.invokestatic 52, 3) := by decide +kernel
theorem dX6_moveIn_13 : decode cX6_moveIn 13 = .ok (.ifCond .eq 18, 3) := by decide +kernel
theorem dX6_moveIn_16 : decode cX6_moveIn 16 = .ok (.aload_n 0, 1) := by decide +kernel
theorem dX6_moveIn_17 : decode cX6_moveIn 17 = .ok (.getfield 25, 3) := by decide +kernel
theorem dX6_moveIn_20 : decode cX6_moveIn 20 = .ok (.getfield 74, 3) := by decide +kernel
theorem dX6_moveIn_23 : decode cX6_moveIn 23 = .ok (.iload_n 2, 1) := by decide +kernel
theorem dX6_moveIn_24 : decode cX6_moveIn 24 = .ok (.aload_n 0, 1) := by decide +kernel
theorem dX6_moveIn_25 : decode cX6_moveIn 25 = .ok (.getfield 9, 3) := by decide +kernel
theorem dX6_moveIn_28 : decode cX6_moveIn 28 = .ok (.iload_n 2, 1) := by decide +kernel
theorem dX6_moveIn_29 : decode cX6_moveIn 29 = .ok (.iaload, 1) := by decide +kernel
theorem dX6_moveIn_30 : decode cX6_moveIn 30 = .ok (.iastore, 1) := by decide +kernel
theorem dX6_moveIn_31 : decode cX6_moveIn 31 = .ok (.iinc 2 1, 3) := by decide +kernel
theorem dX6_moveIn_34 : decode cX6_moveIn 34 = .ok (.goto (-32), 3) := by decide +kernel
theorem dX6_moveIn_37 : decode cX6_moveIn 37 = .ok (.return_, 1) := by decide +kernel
theorem dX6_findShifts_0 : decode cX6_findShifts 0 = .ok (.aload_n 0, 1) := by decide +kernel
theorem dX6_findShifts_1 : decode cX6_findShifts 1 = .ok (.iload_n 1, 1) := by decide +kernel
theorem dX6_findShifts_2 : decode cX6_findShifts 2 = .ok (.putfield 33, 3) := by decide +kernel
theorem dX6_findShifts_5 : decode cX6_findShifts 5 = .ok (.aload_n 0, 1) := by decide +kernel
theorem dX6_findShifts_6 : decode cX6_findShifts 6 = .ok (.iload_n 2, 1) := by decide +kernel
theorem dX6_findShifts_7 : decode cX6_findShifts 7 = .ok (.putfield 77, 3) := by decide +kernel
theorem dX6_findShifts_10 : decode cX6_findShifts 10 = .ok (.aload_n 0, 1) := by decide +kernel
theorem dX6_findShifts_11 : decode cX6_findShifts 11 = .ok (.bipush 11, 2) := by decide +kernel
theorem dX6_findShifts_13 : decode cX6_findShifts 13 = .ok (.putfield 80, 3) := by decide +kernel
theorem dX6_findShifts_16 : decode cX6_findShifts 16 = .ok (.aload_n 0, 1) := by decide +kernel
theorem dX6_findShifts_17 : decode cX6_findShifts 17 = .ok (.getfield 29, 3) := by decide +kernel
theorem dX6_findShifts_20 : decode cX6_findShifts 20 = .ok (.aload_n 0, 1) := by decide +kernel
theorem dX6_findShifts_21 : decode cX6_findShifts 21 = .ok (.getfield 25, 3) := by decide +kernel
theorem dX6_findShifts_24 : decode cX6_findShifts 24 = .ok (.getfield 37, 3) := by decide +kernel
theorem dX6_findShifts_27 : decode cX6_findShifts 27 = .ok (.iload_n 1, 1) := by decide +kernel
theorem dX6_findShifts_28 : decode cX6_findShifts 28 = .ok (.iconst (-1), 1) := by decide +kernel
theorem dX6_findShifts_29 : decode cX6_findShifts 29 = .ok (.ixor, 1) := by decide +kernel
theorem dX6_findShifts_30 : decode cX6_findShifts 30 = .ok (.iand, 1) := by decide +kernel
theorem dX6_findShifts_31 : decode cX6_findShifts 31 = .ok (.invokevirtual 42, 3) := by decide +kernel
theorem dX6_findShifts_34 : decode cX6_findShifts 34 = .ok (.aload_n 0, 1) := by decide +kernel
theorem dX6_findShifts_35 : decode cX6_findShifts 35 = .ok (.iconst 0, 1) := by decide +kernel
theorem dX6_findShifts_36 : decode cX6_findShifts 36 = .ok (.iconst 0, 1) := by decide +kernel
theorem dX6_findShifts_37 : decode cX6_findShifts 37 = .ok (.invokevirtual 83, 3) := by decide +kernel
theorem dX6_findShifts_40 : decode cX6_findShifts 40 = .ok (.aload_n 0, 1) := by decide +kernel
theorem dX6_findShifts_41 : decode cX6_findShifts 41 = .ok (.getfield 80, 3) := by decide +kernel
theorem dX6_findShifts_44 : decode cX6_findShifts 44 = .ok (.bipush 11, 2) := by decide +kernel
theorem dX6_findShifts_46 : decode cX6_findShifts 46 = .ok (.if_icmp .ge 7, 3) := by decide +kernel
theorem dX6_findShifts_49 : decode cX6_findShifts 49 = .ok (.iconst 1, 1) := by decide +kernel
theorem dX6_findShifts_50 : decode cX6_findShifts 50 = .ok (.goto 4, 3) := by decide +kernel
theorem dX6_findShifts_53 : decode cX6_findShifts 53 = .ok (.iconst 0, 1) := by decide +kernel
theorem dX6_findShifts_54 : decode cX6_findShifts 54 = .ok (.ireturn, 1) := by decide +kernel
theorem dX6_findShiftsFrom_0 : decode cX6_findShiftsFrom 0 = .ok (.iload_n 1, 1) := by decide +kernel
theorem dX6_findShiftsFrom_1 : decode cX6_findShiftsFrom 1 = .ok (.bipush 10, 2) := by decide +kernel
theorem dX6_findShiftsFrom_3 : decode cX6_findShiftsFrom 3 = .ok (.if_icmp .lt 24, 3) := by decide +kernel
theorem dX6_findShiftsFrom_6 : decode cX6_findShiftsFrom 6 = .ok (.aload_n 0, 1) := by decide +kernel
theorem dX6_findShiftsFrom_7 : decode cX6_findShiftsFrom 7 = .ok (.iload_n 2, 1) := by decide +kernel
theorem dX6_findShiftsFrom_8 : decode cX6_findShiftsFrom 8 = .ok (.putfield 80, 3) := by decide +kernel
theorem dX6_findShiftsFrom_11 : decode cX6_findShiftsFrom 11 = .ok (.aload_n 0, 1) := by decide +kernel
theorem dX6_findShiftsFrom_12 : decode cX6_findShiftsFrom 12 = .ok (.getfield 18, 3) := by decide +kernel
theorem dX6_findShiftsFrom_15 : decode cX6_findShiftsFrom 15 = .ok (.iconst 0, 1) := by decide +kernel
theorem dX6_findShiftsFrom_16 : decode cX6_findShiftsFrom 16 = .ok (.aload_n 0, 1) := by decide +kernel
theorem dX6_findShiftsFrom_17 : decode cX6_findShiftsFrom 17 = .ok (.getfield 15, 3) := by decide +kernel
theorem dX6_findShiftsFrom_20 : decode cX6_findShiftsFrom 20 = .ok (.iconst 0, 1) := by decide +kernel
theorem dX6_findShiftsFrom_21 : decode cX6_findShiftsFrom 21 = .ok (.bipush 10, 2) := by decide +kernel
theorem dX6_findShiftsFrom_23 : decode cX6_findShiftsFrom 23 = .ok (.invokestatic 86, 3) := by decide +kernel
theorem dX6_findShiftsFrom_26 : decode cX6_findShiftsFrom 26 = .ok (.return_, 1) := by decide +kernel
theorem dX6_findShiftsFrom_27 : decode cX6_findShiftsFrom 27 = .ok (.aload_n 0, 1) := by decide +kernel
theorem dX6_findShiftsFrom_28 : decode cX6_findShiftsFrom 28 = .ok (.getfield 33, 3) := by decide +kernel
theorem dX6_findShiftsFrom_31 : decode cX6_findShiftsFrom 31 = .ok (.iload_n 1, 1) := by decide +kernel
theorem dX6_findShiftsFrom_32 : decode cX6_findShiftsFrom 32 = .ok (.invokestatic 52, 3) := by decide +kernel
theorem dX6_findShiftsFrom_35 : decode cX6_findShiftsFrom 35 = .ok (.ifCond .ne 12, 3) := by decide +kernel
theorem dX6_findShiftsFrom_38 : decode cX6_findShiftsFrom 38 = .ok (.aload_n 0, 1) := by decide +kernel
theorem dX6_findShiftsFrom_39 : decode cX6_findShiftsFrom 39 = .ok (.iload_n 1, 1) := by decide +kernel
theorem dX6_findShiftsFrom_40 : decode cX6_findShiftsFrom 40 = .ok (.iconst 1, 1) := by decide +kernel
theorem dX6_findShiftsFrom_41 : decode cX6_findShiftsFrom 41 = .ok (.iadd, 1) := by decide +kernel
theorem dX6_findShiftsFrom_42 : decode cX6_findShiftsFrom 42 = .ok (.iload_n 2, 1) := by decide +kernel
theorem dX6_findShiftsFrom_43 : decode cX6_findShiftsFrom 43 = .ok (.invokevirtual 83, 3) := by decide +kernel
theorem dX6_findShiftsFrom_46 : decode cX6_findShiftsFrom 46 = .ok (.return_, 1) := by decide +kernel
theorem dX6_findShiftsFrom_47 : decode cX6_findShiftsFrom 47 = .ok (.aload_n 0, 1) := by decide +kernel
theorem dX6_findShiftsFrom_48 : decode cX6_findShiftsFrom 48 = .ok (.getfield 77, 3) := by decide +kernel
theorem dX6_findShiftsFrom_51 : decode cX6_findShiftsFrom 51 = .ok (.ineg, 1) := by decide +kernel
theorem dX6_findShiftsFrom_52 : decode cX6_findShiftsFrom 52 = .ok (.istore_n 3, 1) := by decide +kernel
theorem dX6_findShiftsFrom_53 : decode cX6_findShiftsFrom 53 = .ok (.iload_n 3, 1) := by decide +kernel
theorem dX6_findShiftsFrom_54 : decode cX6_findShiftsFrom 54 = .ok (.aload_n 0, 1) := by decide +kernel
theorem dX6_findShiftsFrom_55 : decode cX6_findShiftsFrom 55 = .ok (.getfield 77, 3) := by decide +kernel
theorem dX6_findShiftsFrom_58 : decode cX6_findShiftsFrom 58 = .ok (.if_icmp .gt 101, 3) := by decide +kernel
theorem dX6_findShiftsFrom_61 : decode cX6_findShiftsFrom 61 = .ok (.aload_n 0, 1) := by decide +kernel
theorem dX6_findShiftsFrom_62 : decode cX6_findShiftsFrom 62 = .ok (.getfield 25, 3) := by decide +kernel
theorem dX6_findShiftsFrom_65 : decode cX6_findShiftsFrom 65 = .ok (.getfield 92, 3) := by decide +kernel
theorem dX6_findShiftsFrom_68 : decode cX6_findShiftsFrom 68 = .ok (.iload_n 1, 1) := by decide +kernel
theorem dX6_findShiftsFrom_69 : decode cX6_findShiftsFrom 69 = .ok (.iaload, 1) := by decide +kernel
theorem dX6_findShiftsFrom_70 : decode cX6_findShiftsFrom 70 = .ok (.iload_n 3, 1) := by decide +kernel
theorem dX6_findShiftsFrom_71 : decode cX6_findShiftsFrom 71 = .ok (.iadd, 1) := by decide +kernel
theorem dX6_findShiftsFrom_72 : decode cX6_findShiftsFrom 72 = .ok (.istore 4, 2) := by decide +kernel
theorem dX6_findShiftsFrom_74 : decode cX6_findShiftsFrom 74 = .ok (.iload_n 2, 1) := by decide +kernel
theorem dX6_findShiftsFrom_75 : decode cX6_findShiftsFrom 75 = .ok (.iload_n 3, 1) := by decide +kernel
theorem dX6_findShiftsFrom_76 : decode cX6_findShiftsFrom 76 = .ok (.invokestatic 95, 3) := by decide +kernel
theorem dX6_findShiftsFrom_79 : decode cX6_findShiftsFrom 79 = .ok (.iadd, 1) := by decide +kernel
theorem dX6_findShiftsFrom_80 : decode cX6_findShiftsFrom 80 = .ok (.istore 5, 2) := by decide +kernel
theorem dX6_findShiftsFrom_82 : decode cX6_findShiftsFrom 82 = .ok (.iload 4, 2) := by decide +kernel
theorem dX6_findShiftsFrom_84 : decode cX6_findShiftsFrom 84 = .ok (.invokestatic 95, 3) := by decide +kernel
theorem dX6_findShiftsFrom_87 : decode cX6_findShiftsFrom 87 = .ok (.iconst 3, 1) := by decide +kernel
theorem dX6_findShiftsFrom_88 : decode cX6_findShiftsFrom 88 = .ok (.if_icmp .gt 65, 3) := by decide +kernel
theorem dX6_findShiftsFrom_91 : decode cX6_findShiftsFrom 91 = .ok (.iload 5, 2) := by decide +kernel
theorem dX6_findShiftsFrom_93 : decode cX6_findShiftsFrom 93 = .ok (.aload_n 0, 1) := by decide +kernel
theorem dX6_findShiftsFrom_94 : decode cX6_findShiftsFrom 94 = .ok (.getfield 80, 3) := by decide +kernel
theorem dX6_findShiftsFrom_97 : decode cX6_findShiftsFrom 97 = .ok (.if_icmp .ge 56, 3) := by decide +kernel
theorem dX6_findShiftsFrom_100 : decode cX6_findShiftsFrom 100 = .ok (.aload_n 0, 1) := by decide +kernel
theorem dX6_findShiftsFrom_101 : decode cX6_findShiftsFrom 101 = .ok (.getfield 18, 3) := by decide +kernel
theorem dX6_findShiftsFrom_104 : decode cX6_findShiftsFrom 104 = .ok (.iload_n 1, 1) := by decide +kernel
theorem dX6_findShiftsFrom_105 : decode cX6_findShiftsFrom 105 = .ok (.iload 4, 2) := by decide +kernel
theorem dX6_findShiftsFrom_107 : decode cX6_findShiftsFrom 107 = .ok (.iastore, 1) := by decide +kernel
theorem dX6_findShiftsFrom_108 : decode cX6_findShiftsFrom 108 = .ok (.aload_n 0, 1) := by decide +kernel
theorem dX6_findShiftsFrom_109 : decode cX6_findShiftsFrom 109 = .ok (.getfield 29, 3) := by decide +kernel
theorem dX6_findShiftsFrom_112 : decode cX6_findShiftsFrom 112 = .ok (.iload_n 1, 1) := by decide +kernel
theorem dX6_findShiftsFrom_113 : decode cX6_findShiftsFrom 113 = .ok (.iload 4, 2) := by decide +kernel
theorem dX6_findShiftsFrom_115 : decode cX6_findShiftsFrom 115 = .ok (.invokevirtual 101, 3) := by decide +kernel
theorem dX6_findShiftsFrom_118 : decode cX6_findShiftsFrom 118 = .ok (.aload_n 0, 1) := by decide +kernel
theorem dX6_findShiftsFrom_119 : decode cX6_findShiftsFrom 119 = .ok (.getfield 29, 3) := by decide +kernel
theorem dX6_findShiftsFrom_122 : decode cX6_findShiftsFrom 122 = .ok (.iload_n 1, 1) := by decide +kernel
theorem dX6_findShiftsFrom_123 : decode cX6_findShiftsFrom 123 = .ok (.invokevirtual 64, 3) := by decide +kernel
theorem dX6_findShiftsFrom_126 : decode cX6_findShiftsFrom 126 = .ok (.aload_n 0, 1) := by decide +kernel
theorem dX6_findShiftsFrom_127 : decode cX6_findShiftsFrom 127 = .ok (.getfield 29, 3) := by decide +kernel
theorem dX6_findShiftsFrom_130 : decode cX6_findShiftsFrom 130 = .ok (.invokevirtual 67, 3) := by decide +kernel
theorem dX6_findShiftsFrom_133 : decode cX6_findShiftsFrom 133 = .ok (.ifCond .eq 12, 3) := by decide +kernel
theorem dX6_findShiftsFrom_136 : decode cX6_findShiftsFrom 136 = .ok (.aload_n 0, 1) := by decide +kernel
theorem dX6_findShiftsFrom_137 : decode cX6_findShiftsFrom 137 = .ok (.iload_n 1, 1) := by decide +kernel
theorem dX6_findShiftsFrom_138 : decode cX6_findShiftsFrom 138 = .ok (.iconst 1, 1) := by decide +kernel
theorem dX6_findShiftsFrom_139 : decode cX6_findShiftsFrom 139 = .ok (.iadd, 1) := by decide +kernel
theorem dX6_findShiftsFrom_140 : decode cX6_findShiftsFrom 140 = .ok (.iload 5, 2) := by decide +kernel
theorem dX6_findShiftsFrom_142 : decode cX6_findShiftsFrom 142 = .ok (.invokevirtual 83, 3) := by decide +kernel
theorem dX6_findShiftsFrom_145 : decode cX6_findShiftsFrom 145 = .ok (.aload_n 0, 1) := by decide +kernel
theorem dX6_findShiftsFrom_146 : decode cX6_findShiftsFrom 146 = .ok (.getfield 29, 3) := by decide +kernel
theorem dX6_findShiftsFrom_149 : decode cX6_findShiftsFrom 149 = .ok (.iload_n 1, 1) := by decide +kernel
theorem dX6_findShiftsFrom_150 : decode cX6_findShiftsFrom 150 = .ok (.invokevirtual 71, 3) := by decide +kernel
theorem dX6_findShiftsFrom_153 : decode cX6_findShiftsFrom 153 = .ok (.iinc 3 1, 3) := by decide +kernel
theorem dX6_findShiftsFrom_156 : decode cX6_findShiftsFrom 156 = .ok (.goto (-103), 3) := by decide +kernel
theorem dX6_findShiftsFrom_159 : decode cX6_findShiftsFrom 159 = .ok (.return_, 1) := by decide +kernel
theorem dX6_shiftAll_0 : decode cX6_shiftAll 0 = .ok (.iconst 0, 1) := by decide +kernel
theorem dX6_shiftAll_1 : decode cX6_shiftAll 1 = .ok (.istore_n 2, 1) := by decide +kernel
theorem dX6_shiftAll_2 : decode cX6_shiftAll 2 = .ok (.iload_n 2, 1) := by decide +kernel
theorem dX6_shiftAll_3 : decode cX6_shiftAll 3 = .ok (.bipush 10, 2) := by decide +kernel
theorem dX6_shiftAll_5 : decode cX6_shiftAll 5 = .ok (.if_icmp .ge 32, 3) := by decide +kernel
theorem dX6_shiftAll_8 : decode cX6_shiftAll 8 = .ok (.iload_n 1, 1) := by decide +kernel
theorem dX6_shiftAll_9 : decode cX6_shiftAll 9 = .ok (.iload_n 2, 1) := by decide +kernel
theorem dX6_shiftAll_10 : decode cX6_shiftAll 10 = .ok (.invokestatic 52, 3) := by decide +kernel
theorem dX6_shiftAll_13 : decode cX6_shiftAll 13 = .ok (.ifCond .eq 18, 3) := by decide +kernel
theorem dX6_shiftAll_16 : decode cX6_shiftAll 16 = .ok (.aload_n 0, 1) := by decide +kernel
theorem dX6_shiftAll_17 : decode cX6_shiftAll 17 = .ok (.getfield 25, 3) := by decide +kernel
theorem dX6_shiftAll_20 : decode cX6_shiftAll 20 = .ok (.getfield 92, 3) := by decide +kernel
theorem dX6_shiftAll_23 : decode cX6_shiftAll 23 = .ok (.iload_n 2, 1) := by decide +kernel
theorem dX6_shiftAll_24 : decode cX6_shiftAll 24 = .ok (.aload_n 0, 1) := by decide +kernel
theorem dX6_shiftAll_25 : decode cX6_shiftAll 25 = .ok (.getfield 15, 3) := by decide +kernel
theorem dX6_shiftAll_28 : decode cX6_shiftAll 28 = .ok (.iload_n 2, 1) := by decide +kernel
theorem dX6_shiftAll_29 : decode cX6_shiftAll 29 = .ok (.iaload, 1) := by decide +kernel
theorem dX6_shiftAll_30 : decode cX6_shiftAll 30 = .ok (.iastore, 1) := by decide +kernel
theorem dX6_shiftAll_31 : decode cX6_shiftAll 31 = .ok (.iinc 2 1, 3) := by decide +kernel
theorem dX6_shiftAll_34 : decode cX6_shiftAll 34 = .ok (.goto (-32), 3) := by decide +kernel
theorem dX6_shiftAll_37 : decode cX6_shiftAll 37 = .ok (.return_, 1) := by decide +kernel
theorem dX7_init_0 : decode cX7_init 0 = .ok (.aload_n 0, 1) := by decide +kernel
theorem dX7_init_1 : decode cX7_init 1 = .ok (.invokespecial 3, 3) := by decide +kernel
theorem dX7_init_4 : decode cX7_init 4 = .ok (.aload_n 0, 1) := by decide +kernel
theorem dX7_init_5 : decode cX7_init 5 = .ok (.bipush 10, 2) := by decide +kernel
theorem dX7_init_7 : decode cX7_init 7 = .ok (.newarray .int, 2) := by decide +kernel
theorem dX7_init_9 : decode cX7_init 9 = .ok (.putfield 9, 3) := by decide +kernel
theorem dX7_init_12 : decode cX7_init 12 = .ok (.aload_n 0, 1) := by decide +kernel
theorem dX7_init_13 : decode cX7_init 13 = .ok (.bipush 10, 2) := by decide +kernel
theorem dX7_init_15 : decode cX7_init 15 = .ok (.newarray .int, 2) := by decide +kernel
theorem dX7_init_17 : decode cX7_init 17 = .ok (.putfield 15, 3) := by decide +kernel
theorem dX7_init_20 : decode cX7_init 20 = .ok (.aload_n 0, 1) := by decide +kernel
theorem dX7_init_21 : decode cX7_init 21 = .ok (.bipush 10, 2) := by decide +kernel
theorem dX7_init_23 : decode cX7_init 23 = .ok (.newarray .int, 2) := by decide +kernel
theorem dX7_init_25 : decode cX7_init 25 = .ok (.putfield 18, 3) := by decide +kernel
theorem dX7_init_28 : decode cX7_init 28 = .ok (.aload_n 0, 1) := by decide +kernel
theorem dX7_init_29 : decode cX7_init 29 = .ok (.bipush 10, 2) := by decide +kernel
theorem dX7_init_31 : decode cX7_init 31 = .ok (.newarray .int, 2) := by decide +kernel
theorem dX7_init_33 : decode cX7_init 33 = .ok (.putfield 21, 3) := by decide +kernel
theorem dX7_init_36 : decode cX7_init 36 = .ok (.aload_n 0, 1) := by decide +kernel
theorem dX7_init_37 : decode cX7_init 37 = .ok (.iconst 1, 1) := by decide +kernel
theorem dX7_init_38 : decode cX7_init 38 = .ok (.putfield 24, 3) := by decide +kernel
theorem dX7_init_41 : decode cX7_init 41 = .ok (.return_, 1) := by decide +kernel
theorem dX7_has_0 : decode cX7_has 0 = .ok (.aload_n 0, 1) := by decide +kernel
theorem dX7_has_1 : decode cX7_has 1 = .ok (.getfield 28, 3) := by decide +kernel
theorem dX7_has_4 : decode cX7_has 4 = .ok (.iload_n 1, 1) := by decide +kernel
theorem dX7_has_5 : decode cX7_has 5 = .ok (.invokestatic 31, 3) := by decide +kernel
theorem dX7_has_8 : decode cX7_has 8 = .ok (.ireturn, 1) := by decide +kernel
theorem dX7_write_0 : decode cX7_write 0 = .ok (.aload_n 0, 1) := by decide +kernel
theorem dX7_write_1 : decode cX7_write 1 = .ok (.dup, 1) := by decide +kernel
theorem dX7_write_2 : decode cX7_write 2 = .ok (.getfield 28, 3) := by decide +kernel
theorem dX7_write_5 : decode cX7_write 5 = .ok (.iconst 1, 1) := by decide +kernel
theorem dX7_write_6 : decode cX7_write 6 = .ok (.iload_n 1, 1) := by decide +kernel
theorem dX7_write_7 : decode cX7_write 7 = .ok (.ishl, 1) := by decide +kernel
theorem dX7_write_8 : decode cX7_write 8 = .ok (.ior, 1) := by decide +kernel
theorem dX7_write_9 : decode cX7_write 9 = .ok (.putfield 28, 3) := by decide +kernel
theorem dX7_write_12 : decode cX7_write 12 = .ok (.aload_n 0, 1) := by decide +kernel
theorem dX7_write_13 : decode cX7_write 13 = .ok (.getfield 9, 3) := by decide +kernel
theorem dX7_write_16 : decode cX7_write 16 = .ok (.iload_n 1, 1) := by decide +kernel
theorem dX7_write_17 : decode cX7_write 17 = .ok (.iload_n 2, 1) := by decide +kernel
theorem dX7_write_18 : decode cX7_write 18 = .ok (.iastore, 1) := by decide +kernel
theorem dX7_write_19 : decode cX7_write 19 = .ok (.aload_n 0, 1) := by decide +kernel
theorem dX7_write_20 : decode cX7_write 20 = .ok (.getfield 15, 3) := by decide +kernel
theorem dX7_write_23 : decode cX7_write 23 = .ok (.iload_n 1, 1) := by decide +kernel
theorem dX7_write_24 : decode cX7_write 24 = .ok (.iload_n 3, 1) := by decide +kernel
theorem dX7_write_25 : decode cX7_write 25 = .ok (.iastore, 1) := by decide +kernel
theorem dX7_write_26 : decode cX7_write 26 = .ok (.aload_n 0, 1) := by decide +kernel
theorem dX7_write_27 : decode cX7_write 27 = .ok (.getfield 18, 3) := by decide +kernel
theorem dX7_write_30 : decode cX7_write 30 = .ok (.iload_n 1, 1) := by decide +kernel
theorem dX7_write_31 : decode cX7_write 31 = .ok (.iload 4, 2) := by decide +kernel
theorem dX7_write_33 : decode cX7_write 33 = .ok (.iastore, 1) := by decide +kernel
theorem dX7_write_34 : decode cX7_write 34 = .ok (.aload_n 0, 1) := by decide +kernel
theorem dX7_write_35 : decode cX7_write 35 = .ok (.getfield 21, 3) := by decide +kernel
theorem dX7_write_38 : decode cX7_write 38 = .ok (.iload_n 1, 1) := by decide +kernel
theorem dX7_write_39 : decode cX7_write 39 = .ok (.iconst 0, 1) := by decide +kernel
theorem dX7_write_40 : decode cX7_write 40 = .ok (.iastore, 1) := by decide +kernel
theorem dX7_write_41 : decode cX7_write 41 = .ok (.return_, 1) := by decide +kernel
theorem dX7_holderOf_0 : decode cX7_holderOf 0 = .ok (.iconst 0, 1) := by decide +kernel
theorem dX7_holderOf_1 : decode cX7_holderOf 1 = .ok (.istore_n 2, 1) := by decide +kernel
theorem dX7_holderOf_2 : decode cX7_holderOf 2 = .ok (.iload_n 2, 1) := by decide +kernel
theorem dX7_holderOf_3 : decode cX7_holderOf 3 = .ok (.bipush 10, 2) := by decide +kernel
theorem dX7_holderOf_5 : decode cX7_holderOf 5 = .ok (.if_icmp .ge 29, 3) := by decide +kernel
theorem dX7_holderOf_8 : decode cX7_holderOf 8 = .ok (.aload_n 0, 1) := by decide +kernel
theorem dX7_holderOf_9 : decode cX7_holderOf 9 = .ok (.iload_n 2, 1) := by decide +kernel
theorem dX7_holderOf_10 : decode cX7_holderOf 10 = .ok (.invokevirtual 35, 3) := by decide +kernel
theorem dX7_holderOf_13 : decode cX7_holderOf 13 = .ok (.ifCond .eq 15, 3) := by decide +kernel
theorem dX7_holderOf_16 : decode cX7_holderOf 16 = .ok (.aload_n 0, 1) := by decide +kernel
theorem dX7_holderOf_17 : decode cX7_holderOf 17 = .ok (.getfield 9, 3) := by decide +kernel
theorem dX7_holderOf_20 : decode cX7_holderOf 20 = .ok (.iload_n 2, 1) := by decide +kernel
theorem dX7_holderOf_21 : decode cX7_holderOf 21 = .ok (.iaload, 1) := by decide +kernel
theorem dX7_holderOf_22 : decode cX7_holderOf 22 = .ok (.iload_n 1, 1) := by decide +kernel
theorem dX7_holderOf_23 : decode cX7_holderOf 23 = .ok (.if_icmp .ne 5, 3) := by decide +kernel
theorem dX7_holderOf_26 : decode cX7_holderOf 26 = .ok (.iload_n 2, 1) := by decide +kernel
theorem dX7_holderOf_27 : decode cX7_holderOf 27 = .ok (.ireturn, 1) := by decide +kernel
theorem dX7_holderOf_28 : decode cX7_holderOf 28 = .ok (.iinc 2 1, 3) := by decide +kernel
theorem dX7_holderOf_31 : decode cX7_holderOf 31 = .ok (.goto (-29), 3) := by decide +kernel
theorem dX7_holderOf_34 : decode cX7_holderOf 34 = .ok (.iconst (-1), 1) := by decide +kernel
theorem dX7_holderOf_35 : decode cX7_holderOf 35 = .ok (.ireturn, 1) := by decide +kernel
theorem dX7_pricesOf_0 : decode cX7_pricesOf 0 = .ok (.iconst 0, 1) := by decide +kernel
theorem dX7_pricesOf_1 : decode cX7_pricesOf 1 = .ok (.istore_n 2, 1) := by decide +kernel
theorem dX7_pricesOf_2 : decode cX7_pricesOf 2 = .ok (.iconst 0, 1) := by decide +kernel
theorem dX7_pricesOf_3 : decode cX7_pricesOf 3 = .ok (.istore_n 3, 1) := by decide +kernel
theorem dX7_pricesOf_4 : decode cX7_pricesOf 4 = .ok (.iload_n 3, 1) := by decide +kernel
theorem dX7_pricesOf_5 : decode cX7_pricesOf 5 = .ok (.bipush 10, 2) := by decide +kernel
theorem dX7_pricesOf_7 : decode cX7_pricesOf 7 = .ok (.if_icmp .ge 26, 3) := by decide +kernel
theorem dX7_pricesOf_10 : decode cX7_pricesOf 10 = .ok (.iload_n 1, 1) := by decide +kernel
theorem dX7_pricesOf_11 : decode cX7_pricesOf 11 = .ok (.iload_n 3, 1) := by decide +kernel
theorem dX7_pricesOf_12 : decode cX7_pricesOf 12 = .ok (.invokestatic 31, 3) := by decide +kernel
theorem dX7_pricesOf_15 : decode cX7_pricesOf 15 = .ok (.ifCond .eq 12, 3) := by decide +kernel
theorem dX7_pricesOf_18 : decode cX7_pricesOf 18 = .ok (.iload_n 2, 1) := by decide +kernel
theorem dX7_pricesOf_19 : decode cX7_pricesOf 19 = .ok (.aload_n 0, 1) := by decide +kernel
theorem dX7_pricesOf_20 : decode cX7_pricesOf 20 = .ok (.getfield 18, 3) := by decide +kernel
theorem dX7_pricesOf_23 : decode cX7_pricesOf 23 = .ok (.iload_n 3, 1) := by decide +kernel
theorem dX7_pricesOf_24 : decode cX7_pricesOf 24 = .ok (.iaload, 1) := by decide +kernel
theorem dX7_pricesOf_25 : decode cX7_pricesOf 25 = .ok (.iadd, 1) := by decide +kernel
theorem dX7_pricesOf_26 : decode cX7_pricesOf 26 = .ok (.istore_n 2, 1) := by decide +kernel
theorem dX7_pricesOf_27 : decode cX7_pricesOf 27 = .ok (.iinc 3 1, 3) := by decide +kernel
theorem dX7_pricesOf_30 : decode cX7_pricesOf 30 = .ok (.goto (-26), 3) := by decide +kernel
theorem dX7_pricesOf_33 : decode cX7_pricesOf 33 = .ok (.iload_n 2, 1) := by decide +kernel
theorem dX7_pricesOf_34 : decode cX7_pricesOf 34 = .ok (.ireturn, 1) := by decide +kernel
theorem dX7_copyFrom_0 : decode cX7_copyFrom 0 = .ok (.aload_n 0, 1) := by decide +kernel
theorem dX7_copyFrom_1 : decode cX7_copyFrom 1 = .ok (.aload_n 1, 1) := by decide +kernel
theorem dX7_copyFrom_2 : decode cX7_copyFrom 2 = .ok (.getfield 28, 3) := by decide +kernel
theorem dX7_copyFrom_5 : decode cX7_copyFrom 5 = .ok (.putfield 28, 3) := by decide +kernel
theorem dX7_copyFrom_8 : decode cX7_copyFrom 8 = .ok (.aload_n 0, 1) := by decide +kernel
theorem dX7_copyFrom_9 : decode cX7_copyFrom 9 = .ok (.aload_n 1, 1) := by decide +kernel
theorem dX7_copyFrom_10 : decode cX7_copyFrom 10 = .ok (.getfield 24, 3) := by decide +kernel
theorem dX7_copyFrom_13 : decode cX7_copyFrom 13 = .ok (.putfield 24, 3) := by decide +kernel
theorem dX7_copyFrom_16 : decode cX7_copyFrom 16 = .ok (.aload_n 1, 1) := by decide +kernel
theorem dX7_copyFrom_17 : decode cX7_copyFrom 17 = .ok (.getfield 9, 3) := by decide +kernel
theorem dX7_copyFrom_20 : decode cX7_copyFrom 20 = .ok (.iconst 0, 1) := by decide +kernel
theorem dX7_copyFrom_21 : decode cX7_copyFrom 21 = .ok (.aload_n 0, 1) := by decide +kernel
theorem dX7_copyFrom_22 : decode cX7_copyFrom 22 = .ok (.getfield 9, 3) := by decide +kernel
theorem dX7_copyFrom_25 : decode cX7_copyFrom 25 = .ok (.iconst 0, 1) := by decide +kernel
theorem dX7_copyFrom_26 : decode cX7_copyFrom 26 = .ok (.bipush 10, 2) := by decide +kernel
theorem dX7_copyFrom_28 : decode cX7_copyFrom 28 = .ok (.invokestatic 39, 3) := by decide +kernel
theorem dX7_copyFrom_31 : decode cX7_copyFrom 31 = .ok (.aload_n 1, 1) := by decide +kernel
theorem dX7_copyFrom_32 : decode cX7_copyFrom 32 = .ok (.getfield 15, 3) := by decide +kernel
theorem dX7_copyFrom_35 : decode cX7_copyFrom 35 = .ok (.iconst 0, 1) := by decide +kernel
theorem dX7_copyFrom_36 : decode cX7_copyFrom 36 = .ok (.aload_n 0, 1) := by decide +kernel
theorem dX7_copyFrom_37 : decode cX7_copyFrom 37 = .ok (.getfield 15, 3) := by decide +kernel
theorem dX7_copyFrom_40 : decode cX7_copyFrom 40 = .ok (.iconst 0, 1) := by decide +kernel
theorem dX7_copyFrom_41 : decode cX7_copyFrom 41 = .ok (.bipush 10, 2) := by decide +kernel
theorem dX7_copyFrom_43 : decode cX7_copyFrom 43 = .ok (.invokestatic 39, 3) := by decide +kernel
theorem dX7_copyFrom_46 : decode cX7_copyFrom 46 = .ok (.aload_n 1, 1) := by decide +kernel
theorem dX7_copyFrom_47 : decode cX7_copyFrom 47 = .ok (.getfield 18, 3) := by decide +kernel
theorem dX7_copyFrom_50 : decode cX7_copyFrom 50 = .ok (.iconst 0, 1) := by decide +kernel
theorem dX7_copyFrom_51 : decode cX7_copyFrom 51 = .ok (.aload_n 0, 1) := by decide +kernel
theorem dX7_copyFrom_52 : decode cX7_copyFrom 52 = .ok (.getfield 18, 3) := by decide +kernel
theorem dX7_copyFrom_55 : decode cX7_copyFrom 55 = .ok (.iconst 0, 1) := by decide +kernel
theorem dX7_copyFrom_56 : decode cX7_copyFrom 56 = .ok (.bipush 10, 2) := by decide +kernel
theorem dX7_copyFrom_58 : decode cX7_copyFrom 58 = .ok (.invokestatic 39, 3) := by decide +kernel
theorem dX7_copyFrom_61 : decode cX7_copyFrom 61 = .ok (.aload_n 1, 1) := by decide +kernel
theorem dX7_copyFrom_62 : decode cX7_copyFrom 62 = .ok (.getfield 21, 3) := by decide +kernel
theorem dX7_copyFrom_65 : decode cX7_copyFrom 65 = .ok (.iconst 0, 1) := by decide +kernel
theorem dX7_copyFrom_66 : decode cX7_copyFrom 66 = .ok (.aload_n 0, 1) := by decide +kernel
theorem dX7_copyFrom_67 : decode cX7_copyFrom 67 = .ok (.getfield 21, 3) := by decide +kernel
theorem dX7_copyFrom_70 : decode cX7_copyFrom 70 = .ok (.iconst 0, 1) := by decide +kernel
theorem dX7_copyFrom_71 : decode cX7_copyFrom 71 = .ok (.bipush 10, 2) := by decide +kernel
theorem dX7_copyFrom_73 : decode cX7_copyFrom 73 = .ok (.invokestatic 39, 3) := by decide +kernel
theorem dX7_copyFrom_76 : decode cX7_copyFrom 76 = .ok (.return_, 1) := by decide +kernel
theorem dX8_init_0 : decode cX8_init 0 = .ok (.aload_n 0, 1) := by decide +kernel
theorem dX8_init_1 : decode cX8_init 1 = .ok (.invokespecial 3, 3) := by decide +kernel
theorem dX8_init_4 : decode cX8_init 4 = .ok (.aload_n 0, 1) := by decide +kernel
theorem dX8_init_5 : decode cX8_init 5 = .ok (.bipush 10, 2) := by decide +kernel
theorem dX8_init_7 : decode cX8_init 7 = .ok (.bipush 72, 2) := by decide +kernel
theorem dX8_init_9 : decode cX8_init 9 = .ok (.multianewarray 9 2, 4) := by decide +kernel
theorem dX8_init_13 : decode cX8_init 13 = .ok (.putfield 11, 3) := by decide +kernel
theorem dX8_init_16 : decode cX8_init 16 = .ok (.aload_n 0, 1) := by decide +kernel
theorem dX8_init_17 : decode cX8_init 17 = .ok (.bipush 10, 2) := by decide +kernel
theorem dX8_init_19 : decode cX8_init 19 = .ok (.newarray .int, 2) := by decide +kernel
theorem dX8_init_21 : decode cX8_init 21 = .ok (.putfield 16, 3) := by decide +kernel
theorem dX8_init_24 : decode cX8_init 24 = .ok (.aload_n 0, 1) := by decide +kernel
theorem dX8_init_25 : decode cX8_init 25 = .ok (.bipush 10, 2) := by decide +kernel
theorem dX8_init_27 : decode cX8_init 27 = .ok (.newarray .int, 2) := by decide +kernel
theorem dX8_init_29 : decode cX8_init 29 = .ok (.putfield 20, 3) := by decide +kernel
theorem dX8_init_32 : decode cX8_init 32 = .ok (.aload_n 0, 1) := by decide +kernel
theorem dX8_init_33 : decode cX8_init 33 = .ok (.bipush 10, 2) := by decide +kernel
theorem dX8_init_35 : decode cX8_init 35 = .ok (.newarray .int, 2) := by decide +kernel
theorem dX8_init_37 : decode cX8_init 37 = .ok (.putfield 23, 3) := by decide +kernel
theorem dX8_init_40 : decode cX8_init 40 = .ok (.aload_n 0, 1) := by decide +kernel
theorem dX8_init_41 : decode cX8_init 41 = .ok (.iconst 3, 1) := by decide +kernel
theorem dX8_init_42 : decode cX8_init 42 = .ok (.newarray .int, 2) := by decide +kernel
theorem dX8_init_44 : decode cX8_init 44 = .ok (.putfield 26, 3) := by decide +kernel
theorem dX8_init_47 : decode cX8_init 47 = .ok (.aload_n 0, 1) := by decide +kernel
theorem dX8_init_48 : decode cX8_init 48 = .ok (.iconst 4, 1) := by decide +kernel
theorem dX8_init_49 : decode cX8_init 49 = .ok (.newarray .int, 2) := by decide +kernel
theorem dX8_init_51 : decode cX8_init 51 = .ok (.putfield 29, 3) := by decide +kernel
theorem dX8_init_54 : decode cX8_init 54 = .ok (.aload_n 0, 1) := by decide +kernel
theorem dX8_init_55 : decode cX8_init 55 = .ok (.bipush 24, 2) := by decide +kernel
theorem dX8_init_57 : decode cX8_init 57 = .ok (.newarray .int, 2) := by decide +kernel
theorem dX8_init_59 : decode cX8_init 59 = .ok (.putfield 32, 3) := by decide +kernel
theorem dX8_init_62 : decode cX8_init 62 = .ok (.aload_n 0, 1) := by decide +kernel
theorem dX8_init_63 : decode cX8_init 63 = .ok (.sipush 1024, 3) := by decide +kernel
theorem dX8_init_66 : decode cX8_init 66 = .ok (.newarray .int, 2) := by decide +kernel
theorem dX8_init_68 : decode cX8_init 68 = .ok (.putfield 35, 3) := by decide +kernel
theorem dX8_init_71 : decode cX8_init 71 = .ok (.aload_n 0, 1) := by decide +kernel
theorem dX8_init_72 : decode cX8_init 72 = .ok (.sipush 1024, 3) := by decide +kernel
theorem dX8_init_75 : decode cX8_init 75 = .ok (.newarray .int, 2) := by decide +kernel
theorem dX8_init_77 : decode cX8_init 77 = .ok (.putfield 38, 3) := by decide +kernel
theorem dX8_init_80 : decode cX8_init 80 = .ok (.aload_n 0, 1) := by decide +kernel
theorem dX8_init_81 : decode cX8_init 81 = .ok (.aload_n 1, 1) := by decide +kernel
theorem dX8_init_82 : decode cX8_init 82 = .ok (.putfield 41, 3) := by decide +kernel
theorem dX8_init_85 : decode cX8_init 85 = .ok (.aload_n 0, 1) := by decide +kernel
theorem dX8_init_86 : decode cX8_init 86 = .ok (.aload_n 2, 1) := by decide +kernel
theorem dX8_init_87 : decode cX8_init 87 = .ok (.putfield 45, 3) := by decide +kernel
theorem dX8_init_90 : decode cX8_init 90 = .ok (.aload_n 0, 1) := by decide +kernel
theorem dX8_init_91 : decode cX8_init 91 = .ok (.aload_n 3, 1) := by decide +kernel
theorem dX8_init_92 : decode cX8_init 92 = .ok (.putfield 49, 3) := by decide +kernel
theorem dX8_init_95 : decode cX8_init 95 = .ok (.aload_n 0, 1) := by decide +kernel
theorem dX8_init_96 : decode cX8_init 96 = .ok (.aload 4, 2) := by decide +kernel
theorem dX8_init_98 : decode cX8_init 98 = .ok (.putfield 53, 3) := by decide +kernel
theorem dX8_init_101 : decode cX8_init 101 = .ok (.return_, 1) := by decide +kernel
theorem dX8_serveAll_0 : decode cX8_serveAll 0 = .ok (.aload_n 0, 1) := by decide +kernel
theorem dX8_serveAll_1 : decode cX8_serveAll 1 = .ok (.getfield 53, 3) := by decide +kernel
theorem dX8_serveAll_4 : decode cX8_serveAll 4 = .ok (.invokevirtual 57, 3) := by decide +kernel
theorem dX8_serveAll_7 : decode cX8_serveAll 7 = .ok (.aload_n 0, 1) := by decide +kernel
theorem dX8_serveAll_8 : decode cX8_serveAll 8 = .ok (.iconst 0, 1) := by decide +kernel
theorem dX8_serveAll_9 : decode cX8_serveAll 9 = .ok (.putfield 62, 3) := by decide +kernel
theorem dX8_serveAll_12 : decode cX8_serveAll 12 = .ok (.aload_n 0, 1) := by decide +kernel
theorem dX8_serveAll_13 : decode cX8_serveAll 13 = .ok (.aload_n 0, 1) := by decide +kernel
theorem dX8_serveAll_14 : decode cX8_serveAll 14 = .ok (.getfield 41, 3) := by decide +kernel
theorem dX8_serveAll_17 : decode cX8_serveAll 17 = .ok (.getfield 66, 3) := by decide +kernel
theorem dX8_serveAll_20 : decode cX8_serveAll 20 = .ok (.putfield 71, 3) := by decide +kernel
theorem dX8_serveAll_23 : decode cX8_serveAll 23 = .ok (.aload_n 0, 1) := by decide +kernel
theorem dX8_serveAll_24 : decode cX8_serveAll 24 = .ok (.getfield 16, 3) := by decide +kernel
theorem dX8_serveAll_27 : decode cX8_serveAll 27 = .ok (.iconst 0, 1) := by decide +kernel
theorem dX8_serveAll_28 : decode cX8_serveAll 28 = .ok (.invokestatic 72, 3) := by decide +kernel
theorem dX8_serveAll_31 : decode cX8_serveAll 31 = .ok (.iconst 0, 1) := by decide +kernel
theorem dX8_serveAll_32 : decode cX8_serveAll 32 = .ok (.istore_n 1, 1) := by decide +kernel
theorem dX8_serveAll_33 : decode cX8_serveAll 33 = .ok (.iload_n 1, 1) := by decide +kernel
theorem dX8_serveAll_34 : decode cX8_serveAll 34 = .ok (.bipush 24, 2) := by decide +kernel
theorem dX8_serveAll_36 : decode cX8_serveAll 36 = .ok (.if_icmp .ge 14, 3) := by decide +kernel
theorem dX8_serveAll_39 : decode cX8_serveAll 39 = .ok (.aload_n 0, 1) := by decide +kernel
theorem dX8_serveAll_40 : decode cX8_serveAll 40 = .ok (.iload_n 1, 1) := by decide +kernel
theorem dX8_serveAll_41 : decode cX8_serveAll 41 = .ok (.invokevirtual 78, 3) := by decide +kernel
theorem dX8_serveAll_44 : decode cX8_serveAll 44 = .ok (.iinc 1 1, 3) := by decide +kernel
theorem dX8_serveAll_47 : decode cX8_serveAll 47 = .ok (.goto (-14), 3) := by decide +kernel
theorem dX8_serveAll_50 : decode cX8_serveAll 50 = .ok (.return_, 1) := by decide +kernel
theorem dX8_missedOfAll_0 : decode cX8_missedOfAll 0 = .ok (.iconst 0, 1) := by decide +kernel
theorem dX8_missedOfAll_1 : decode cX8_missedOfAll 1 = .ok (.istore_n 1, 1) := by decide +kernel
theorem dX8_missedOfAll_2 : decode cX8_missedOfAll 2 = .ok (.iconst 0, 1) := by decide +kernel
theorem dX8_missedOfAll_3 : decode cX8_missedOfAll 3 = .ok (.istore_n 2, 1) := by decide +kernel
theorem dX8_missedOfAll_4 : decode cX8_missedOfAll 4 = .ok (.iload_n 2, 1) := by decide +kernel
theorem dX8_missedOfAll_5 : decode cX8_missedOfAll 5 = .ok (.bipush 10, 2) := by decide +kernel
theorem dX8_missedOfAll_7 : decode cX8_missedOfAll 7 = .ok (.if_icmp .ge 18, 3) := by decide +kernel
theorem dX8_missedOfAll_10 : decode cX8_missedOfAll 10 = .ok (.iload_n 1, 1) := by decide +kernel
theorem dX8_missedOfAll_11 : decode cX8_missedOfAll 11 = .ok (.aload_n 0, 1) := by decide +kernel
theorem dX8_missedOfAll_12 : decode cX8_missedOfAll 12 = .ok (.getfield 16, 3) := by decide +kernel
theorem dX8_missedOfAll_15 : decode cX8_missedOfAll 15 = .ok (.iload_n 2, 1) := by decide +kernel
theorem dX8_missedOfAll_16 : decode cX8_missedOfAll 16 = .ok (.iaload, 1) := by decide +kernel
theorem dX8_missedOfAll_17 : decode cX8_missedOfAll 17 = .ok (.iadd, 1) := by decide +kernel
theorem dX8_missedOfAll_18 : decode cX8_missedOfAll 18 = .ok (.istore_n 1, 1) := by decide +kernel
theorem dX8_missedOfAll_19 : decode cX8_missedOfAll 19 = .ok (.iinc 2 1, 3) := by decide +kernel
theorem dX8_missedOfAll_22 : decode cX8_missedOfAll 22 = .ok (.goto (-18), 3) := by decide +kernel
theorem dX8_missedOfAll_25 : decode cX8_missedOfAll 25 = .ok (.iload_n 1, 1) := by decide +kernel
theorem dX8_missedOfAll_26 : decode cX8_missedOfAll 26 = .ok (.ireturn, 1) := by decide +kernel
theorem dX8_serveHour_0 : decode cX8_serveHour 0 = .ok (.aload_n 0, 1) := by decide +kernel
theorem dX8_serveHour_1 : decode cX8_serveHour 1 = .ok (.aload_n 0, 1) := by decide +kernel
theorem dX8_serveHour_2 : decode cX8_serveHour 2 = .ok (.getfield 41, 3) := by decide +kernel
theorem dX8_serveHour_5 : decode cX8_serveHour 5 = .ok (.aload_n 0, 1) := by decide +kernel
theorem dX8_serveHour_6 : decode cX8_serveHour 6 = .ok (.getfield 71, 3) := by decide +kernel
theorem dX8_serveHour_9 : decode cX8_serveHour 9 = .ok (.invokevirtual 82, 3) := by decide +kernel
theorem dX8_serveHour_12 : decode cX8_serveHour 12 = .ok (.putfield 71, 3) := by decide +kernel
theorem dX8_serveHour_15 : decode cX8_serveHour 15 = .ok (.aload_n 0, 1) := by decide +kernel
theorem dX8_serveHour_16 : decode cX8_serveHour 16 = .ok (.getfield 41, 3) := by decide +kernel
theorem dX8_serveHour_19 : decode cX8_serveHour 19 = .ok (.getfield 86, 3) := by decide +kernel
theorem dX8_serveHour_22 : decode cX8_serveHour 22 = .ok (.iconst 0, 1) := by decide +kernel
theorem dX8_serveHour_23 : decode cX8_serveHour 23 = .ok (.aload_n 0, 1) := by decide +kernel
theorem dX8_serveHour_24 : decode cX8_serveHour 24 = .ok (.getfield 26, 3) := by decide +kernel
theorem dX8_serveHour_27 : decode cX8_serveHour 27 = .ok (.iconst 0, 1) := by decide +kernel
theorem dX8_serveHour_28 : decode cX8_serveHour 28 = .ok (.iconst 3, 1) := by decide +kernel
theorem dX8_serveHour_29 : decode cX8_serveHour 29 = .ok (.invokestatic 89, 3) := by decide +kernel
theorem dX8_serveHour_32 : decode cX8_serveHour 32 = .ok (.aload_n 0, 1) := by decide +kernel
theorem dX8_serveHour_33 : decode cX8_serveHour 33 = .ok (.getfield 41, 3) := by decide +kernel
theorem dX8_serveHour_36 : decode cX8_serveHour 36 = .ok (.getfield 95, 3) := by decide +kernel
theorem dX8_serveHour_39 : decode cX8_serveHour 39 = .ok (.iconst 0, 1) := by decide +kernel
theorem dX8_serveHour_40 : decode cX8_serveHour 40 = .ok (.aload_n 0, 1) := by decide +kernel
theorem dX8_serveHour_41 : decode cX8_serveHour 41 = .ok (.getfield 29, 3) := by decide +kernel
theorem dX8_serveHour_44 : decode cX8_serveHour 44 = .ok (.iconst 0, 1) := by decide +kernel
theorem dX8_serveHour_45 : decode cX8_serveHour 45 = .ok (.iconst 4, 1) := by decide +kernel
theorem dX8_serveHour_46 : decode cX8_serveHour 46 = .ok (.invokestatic 89, 3) := by decide +kernel
theorem dX8_serveHour_49 : decode cX8_serveHour 49 = .ok (.aload_n 0, 1) := by decide +kernel
theorem dX8_serveHour_50 : decode cX8_serveHour 50 = .ok (.iload_n 1, 1) := by decide +kernel
theorem dX8_serveHour_51 : decode cX8_serveHour 51 = .ok (.invokevirtual 98, 3) := by decide +kernel
theorem dX8_serveHour_54 : decode cX8_serveHour 54 = .ok (.istore_n 2, 1) := by decide +kernel
theorem dX8_serveHour_55 : decode cX8_serveHour 55 = .ok (.iconst 0, 1) := by decide +kernel
theorem dX8_serveHour_56 : decode cX8_serveHour 56 = .ok (.istore_n 3, 1) := by decide +kernel
theorem dX8_serveHour_57 : decode cX8_serveHour 57 = .ok (.iload_n 3, 1) := by decide +kernel
theorem dX8_serveHour_58 : decode cX8_serveHour 58 = .ok (.iload_n 2, 1) := by decide +kernel
theorem dX8_serveHour_59 : decode cX8_serveHour 59 = .ok (.if_icmp .ge 20, 3) := by decide +kernel
theorem dX8_serveHour_62 : decode cX8_serveHour 62 = .ok (.aload_n 0, 1) := by decide +kernel
theorem dX8_serveHour_63 : decode cX8_serveHour 63 = .ok (.aload_n 0, 1) := by decide +kernel
theorem dX8_serveHour_64 : decode cX8_serveHour 64 = .ok (.getfield 20, 3) := by decide +kernel
theorem dX8_serveHour_67 : decode cX8_serveHour 67 = .ok (.iload_n 3, 1) := by decide +kernel
theorem dX8_serveHour_68 : decode cX8_serveHour 68 = .ok (.iaload, 1) := by decide +kernel
theorem dX8_serveHour_69 : decode cX8_serveHour 69 = .ok (.iload_n 1, 1) := by decide +kernel
theorem dX8_serveHour_70 : decode cX8_serveHour 70 = .ok (.invokevirtual 101, 3) := by decide +kernel
theorem dX8_serveHour_73 : decode cX8_serveHour 73 = .ok (.iinc 3 1, 3) := by decide +kernel
theorem dX8_serveHour_76 : decode cX8_serveHour 76 = .ok (.goto (-19), 3) := by decide +kernel
theorem dX8_serveHour_79 : decode cX8_serveHour 79 = .ok (.return_, 1) := by decide +kernel
theorem dX8_orderStays_0 : decode cX8_orderStays 0 = .ok (.iconst 0, 1) := by decide +kernel
theorem dX8_orderStays_1 : decode cX8_orderStays 1 = .ok (.istore_n 2, 1) := by decide +kernel
theorem dX8_orderStays_2 : decode cX8_orderStays 2 = .ok (.iconst 0, 1) := by decide +kernel
theorem dX8_orderStays_3 : decode cX8_orderStays 3 = .ok (.istore_n 3, 1) := by decide +kernel
theorem dX8_orderStays_4 : decode cX8_orderStays 4 = .ok (.iload_n 3, 1) := by decide +kernel
theorem dX8_orderStays_5 : decode cX8_orderStays 5 = .ok (.bipush 10, 2) := by decide +kernel
theorem dX8_orderStays_7 : decode cX8_orderStays 7 = .ok (.if_icmp .ge 126, 3) := by decide +kernel
theorem dX8_orderStays_10 : decode cX8_orderStays 10 = .ok (.aload_n 0, 1) := by decide +kernel
theorem dX8_orderStays_11 : decode cX8_orderStays 11 = .ok (.getfield 45, 3) := by decide +kernel
theorem dX8_orderStays_14 : decode cX8_orderStays 14 = .ok (.iload_n 3, 1) := by decide +kernel
theorem dX8_orderStays_15 : decode cX8_orderStays 15 = .ok (.invokevirtual 105, 3) := by decide +kernel
theorem dX8_orderStays_18 : decode cX8_orderStays 18 = .ok (.ifCond .eq 109, 3) := by decide +kernel
theorem dX8_orderStays_21 : decode cX8_orderStays 21 = .ok (.aload_n 0, 1) := by decide +kernel
theorem dX8_orderStays_22 : decode cX8_orderStays 22 = .ok (.getfield 49, 3) := by decide +kernel
theorem dX8_orderStays_25 : decode cX8_orderStays 25 = .ok (.iload_n 3, 1) := by decide +kernel
theorem dX8_orderStays_26 : decode cX8_orderStays 26 = .ok (.aload_n 0, 1) := by decide +kernel
theorem dX8_orderStays_27 : decode cX8_orderStays 27 = .ok (.getfield 45, 3) := by decide +kernel
theorem dX8_orderStays_30 : decode cX8_orderStays 30 = .ok (.aload_n 0, 1) := by decide +kernel
theorem dX8_orderStays_31 : decode cX8_orderStays 31 = .ok (.getfield 41, 3) := by decide +kernel
theorem dX8_orderStays_34 : decode cX8_orderStays 34 = .ok (.invokevirtual 111, 3) := by decide +kernel
theorem dX8_orderStays_37 : decode cX8_orderStays 37 = .ok (.aload_n 0, 1) := by decide +kernel
theorem dX8_orderStays_38 : decode cX8_orderStays 38 = .ok (.getfield 49, 3) := by decide +kernel
theorem dX8_orderStays_41 : decode cX8_orderStays 41 = .ok (.iload_n 1, 1) := by decide +kernel
theorem dX8_orderStays_42 : decode cX8_orderStays 42 = .ok (.iconst 0, 1) := by decide +kernel
theorem dX8_orderStays_43 : decode cX8_orderStays 43 = .ok (.iconst 0, 1) := by decide +kernel
theorem dX8_orderStays_44 : decode cX8_orderStays 44 = .ok (.iconst 0, 1) := by decide +kernel
theorem dX8_orderStays_45 : decode cX8_orderStays 45 = .ok (.invokevirtual 117, 3) := by decide +kernel
theorem dX8_orderStays_48 : decode cX8_orderStays 48 = .ok (.aload_n 0, 1) := by decide +kernel
theorem dX8_orderStays_49 : decode cX8_orderStays 49 = .ok (.getfield 23, 3) := by decide +kernel
theorem dX8_orderStays_52 : decode cX8_orderStays 52 = .ok (.iload_n 3, 1) := by decide +kernel
theorem dX8_orderStays_53 : decode cX8_orderStays 53 = .ok (.aload_n 0, 1) := by decide +kernel
theorem dX8_orderStays_54 : decode cX8_orderStays 54 = .ok (.getfield 49, 3) := by decide +kernel
theorem dX8_orderStays_57 : decode cX8_orderStays 57 = .ok (.bipush 112, 2) := by decide +kernel
theorem dX8_orderStays_59 : decode cX8_orderStays 59 = .ok (.invokevirtual 121, 3) := by decide +kernel
theorem dX8_orderStays_62 : decode cX8_orderStays 62 = .ok (.iastore, 1) := by decide +kernel
theorem dX8_orderStays_63 : decode cX8_orderStays 63 = .ok (.iload_n 2, 1) := by decide +kernel
theorem dX8_orderStays_64 : decode cX8_orderStays 64 = .ok (.istore 4, 2) := by decide +kernel
theorem dX8_orderStays_66 : decode cX8_orderStays 66 = .ok (.iload 4, 2) := by decide +kernel
theorem dX8_orderStays_68 : decode cX8_orderStays 68 = .ok (.ifCond .le 48, 3) := by decide +kernel
theorem dX8_orderStays_71 : decode cX8_orderStays 71 = .ok (.aload_n 0, 1) := by decide +kernel
theorem dX8_orderStays_72 : decode cX8_orderStays 72 = .ok (.getfield 23, 3) := by decide +kernel
theorem dX8_orderStays_75 : decode cX8_orderStays 75 = .ok (.aload_n 0, 1) := by decide +kernel
theorem dX8_orderStays_76 : decode cX8_orderStays 76 = .ok (.getfield 20, 3) := by decide +kernel
theorem dX8_orderStays_79 : decode cX8_orderStays 79 = .ok (.iload 4, 2) := by decide +kernel
theorem dX8_orderStays_81 : decode cX8_orderStays 81 = .ok (.iconst 1, 1) := by decide +kernel
theorem dX8_orderStays_82 : decode cX8_orderStays 82 = .ok (.isub, 1) := by decide +kernel
theorem dX8_orderStays_83 : decode cX8_orderStays 83 = .ok (.iaload, 1) := by decide +kernel
theorem dX8_orderStays_84 : decode cX8_orderStays 84 = .ok (.iaload, 1) := by decide +kernel
theorem dX8_orderStays_85 : decode cX8_orderStays 85 = .ok (.aload_n 0, 1) := by decide +kernel
theorem dX8_orderStays_86 : decode cX8_orderStays 86 = .ok (.getfield 23, 3) := by decide +kernel
theorem dX8_orderStays_89 : decode cX8_orderStays 89 = .ok (.iload_n 3, 1) := by decide +kernel
theorem dX8_orderStays_90 : decode cX8_orderStays 90 = .ok (.iaload, 1) := by decide +kernel
theorem dX8_orderStays_91 : decode cX8_orderStays 91 = .ok (.if_icmp .ge 25, 3) := by decide +kernel
theorem dX8_orderStays_94 : decode cX8_orderStays 94 = .ok (.aload_n 0, 1) := by decide +kernel
theorem dX8_orderStays_95 : decode cX8_orderStays 95 = .ok (.getfield 20, 3) := by decide +kernel
theorem dX8_orderStays_98 : decode cX8_orderStays 98 = .ok (.iload 4, 2) := by decide +kernel
theorem dX8_orderStays_100 : decode cX8_orderStays 100 = .ok (.aload_n 0, 1) := by decide +kernel
theorem dX8_orderStays_101 : decode cX8_orderStays 101 = .ok (.getfield 20, 3) := by decide +kernel
theorem dX8_orderStays_104 : decode cX8_orderStays 104 = .ok (.iload 4, 2) := by decide +kernel
theorem dX8_orderStays_106 : decode cX8_orderStays 106 = .ok (.iconst 1, 1) := by decide +kernel
theorem dX8_orderStays_107 : decode cX8_orderStays 107 = .ok (.isub, 1) := by decide +kernel
theorem dX8_orderStays_108 : decode cX8_orderStays 108 = .ok (.iaload, 1) := by decide +kernel
theorem dX8_orderStays_109 : decode cX8_orderStays 109 = .ok (.iastore, 1) := by decide +kernel
theorem dX8_orderStays_110 : decode cX8_orderStays 110 = .ok (.iinc 4 (-1), 3) := by decide +kernel
theorem dX8_orderStays_113 : decode cX8_orderStays 113 = .ok (.goto (-47), 3) := by decide +kernel
theorem dX8_orderStays_116 : decode cX8_orderStays 116 = .ok (.aload_n 0, 1) := by decide +kernel
theorem dX8_orderStays_117 : decode cX8_orderStays 117 = .ok (.getfield 20, 3) := by decide +kernel
theorem dX8_orderStays_120 : decode cX8_orderStays 120 = .ok (.iload 4, 2) := by decide +kernel
theorem dX8_orderStays_122 : decode cX8_orderStays 122 = .ok (.iload_n 3, 1) := by decide +kernel
theorem dX8_orderStays_123 : decode cX8_orderStays 123 = .ok (.iastore, 1) := by decide +kernel
theorem dX8_orderStays_124 : decode cX8_orderStays 124 = .ok (.iinc 2 1, 3) := by decide +kernel
theorem dX8_orderStays_127 : decode cX8_orderStays 127 = .ok (.iinc 3 1, 3) := by decide +kernel
theorem dX8_orderStays_130 : decode cX8_orderStays 130 = .ok (.goto (-126), 3) := by decide +kernel
theorem dX8_orderStays_133 : decode cX8_orderStays 133 = .ok (.iload_n 2, 1) := by decide +kernel
theorem dX8_orderStays_134 : decode cX8_orderStays 134 = .ok (.ireturn, 1) := by decide +kernel
theorem dX8_serve_0 : decode cX8_serve 0 = .ok (.iconst 0, 1) := by decide +kernel
theorem dX8_serve_1 : decode cX8_serve 1 = .ok (.istore_n 3, 1) := by decide +kernel
theorem dX8_serve_2 : decode cX8_serve 2 = .ok (.iload_n 3, 1) := by decide +kernel
theorem dX8_serve_3 : decode cX8_serve 3 = .ok (.iconst 3, 1) := by decide +kernel
theorem dX8_serve_4 : decode cX8_serve 4 = .ok (.if_icmp .ge 123, 3) := by decide +kernel
theorem dX8_serve_7 : decode cX8_serve 7 = .ok (.iload_n 3, 1) := by decide +kernel
theorem dX8_serve_8 : decode cX8_serve 8 = .ok (.bipush 24, 2) := by decide +kernel
theorem dX8_serve_10 : decode cX8_serve 10 = .ok (.imul, 1) := by decide +kernel
theorem dX8_serve_11 : decode cX8_serve 11 = .ok (.iload_n 2, 1) := by decide +kernel
theorem dX8_serve_12 : decode cX8_serve 12 = .ok (.iadd, 1) := by decide +kernel
theorem dX8_serve_13 : decode cX8_serve 13 = .ok (.istore 4, 2) := by decide +kernel
theorem dX8_serve_15 : decode cX8_serve 15 = .ok (.aload_n 0, 1) := by decide +kernel
theorem dX8_serve_16 : decode cX8_serve 16 = .ok (.getfield 53, 3) := by decide +kernel
theorem dX8_serve_19 : decode cX8_serve 19 = .ok (.getfield 125, 3) := by decide +kernel
theorem dX8_serve_22 : decode cX8_serve 22 = .ok (.iload_n 1, 1) := by decide +kernel
theorem dX8_serve_23 : decode cX8_serve 23 = .ok (.aaload, 1) := by decide +kernel
theorem dX8_serve_24 : decode cX8_serve 24 = .ok (.iload 4, 2) := by decide +kernel
theorem dX8_serve_26 : decode cX8_serve 26 = .ok (.iaload, 1) := by decide +kernel
theorem dX8_serve_27 : decode cX8_serve 27 = .ok (.istore 5, 2) := by decide +kernel
theorem dX8_serve_29 : decode cX8_serve 29 = .ok (.iload_n 3, 1) := by decide +kernel
theorem dX8_serve_30 : decode cX8_serve 30 = .ok (.ifCond .ne 21, 3) := by decide +kernel
theorem dX8_serve_33 : decode cX8_serve 33 = .ok (.aload_n 0, 1) := by decide +kernel
theorem dX8_serve_34 : decode cX8_serve 34 = .ok (.aload_n 0, 1) := by decide +kernel
theorem dX8_serve_35 : decode cX8_serve 35 = .ok (.getfield 53, 3) := by decide +kernel
theorem dX8_serve_38 : decode cX8_serve 38 = .ok (.getfield 128, 3) := by decide +kernel
theorem dX8_serve_41 : decode cX8_serve 41 = .ok (.iload_n 1, 1) := by decide +kernel
theorem dX8_serve_42 : decode cX8_serve 42 = .ok (.iaload, 1) := by decide +kernel
theorem dX8_serve_43 : decode cX8_serve 43 = .ok (.iload 5, 2) := by decide +kernel
theorem dX8_serve_45 : decode cX8_serve 45 = .ok (.invokevirtual 131, 3) := by decide +kernel
theorem dX8_serve_48 : decode cX8_serve 48 = .ok (.goto 14, 3) := by decide +kernel
theorem dX8_serve_51 : decode cX8_serve 51 = .ok (.iload 5, 2) := by decide +kernel
theorem dX8_serve_53 : decode cX8_serve 53 = .ok (.aload_n 0, 1) := by decide +kernel
theorem dX8_serve_54 : decode cX8_serve 54 = .ok (.getfield 26, 3) := by decide +kernel
theorem dX8_serve_57 : decode cX8_serve 57 = .ok (.iload_n 3, 1) := by decide +kernel
theorem dX8_serve_58 : decode cX8_serve 58 = .ok (.iaload, 1) := by decide +kernel
theorem dX8_serve_59 : decode cX8_serve 59 = .ok (.invokestatic 135, 3) := by decide +kernel
theorem dX8_serve_62 : decode cX8_serve 62 = .ok (.istore 6, 2) := by decide +kernel
theorem dX8_serve_64 : decode cX8_serve 64 = .ok (.aload_n 0, 1) := by decide +kernel
theorem dX8_serve_65 : decode cX8_serve 65 = .ok (.getfield 26, 3) := by decide +kernel
theorem dX8_serve_68 : decode cX8_serve 68 = .ok (.iload_n 3, 1) := by decide +kernel
theorem dX8_serve_69 : decode cX8_serve 69 = .ok (.dup2, 1) := by decide +kernel
theorem dX8_serve_70 : decode cX8_serve 70 = .ok (.iaload, 1) := by decide +kernel
theorem dX8_serve_71 : decode cX8_serve 71 = .ok (.iload 6, 2) := by decide +kernel
theorem dX8_serve_73 : decode cX8_serve 73 = .ok (.isub, 1) := by decide +kernel
theorem dX8_serve_74 : decode cX8_serve 74 = .ok (.iastore, 1) := by decide +kernel
theorem dX8_serve_75 : decode cX8_serve 75 = .ok (.aload_n 0, 1) := by decide +kernel
theorem dX8_serve_76 : decode cX8_serve 76 = .ok (.getfield 11, 3) := by decide +kernel
theorem dX8_serve_79 : decode cX8_serve 79 = .ok (.iload_n 1, 1) := by decide +kernel
theorem dX8_serve_80 : decode cX8_serve 80 = .ok (.aaload, 1) := by decide +kernel
theorem dX8_serve_81 : decode cX8_serve 81 = .ok (.iload 4, 2) := by decide +kernel
theorem dX8_serve_83 : decode cX8_serve 83 = .ok (.iload 6, 2) := by decide +kernel
theorem dX8_serve_85 : decode cX8_serve 85 = .ok (.iastore, 1) := by decide +kernel
theorem dX8_serve_86 : decode cX8_serve 86 = .ok (.aload_n 0, 1) := by decide +kernel
theorem dX8_serve_87 : decode cX8_serve 87 = .ok (.getfield 16, 3) := by decide +kernel
theorem dX8_serve_90 : decode cX8_serve 90 = .ok (.iload_n 1, 1) := by decide +kernel
theorem dX8_serve_91 : decode cX8_serve 91 = .ok (.dup2, 1) := by decide +kernel
theorem dX8_serve_92 : decode cX8_serve 92 = .ok (.iaload, 1) := by decide +kernel
theorem dX8_serve_93 : decode cX8_serve 93 = .ok (.iload 5, 2) := by decide +kernel
theorem dX8_serve_95 : decode cX8_serve 95 = .ok (.iload 6, 2) := by decide +kernel
theorem dX8_serve_97 : decode cX8_serve 97 = .ok (.isub, 1) := by decide +kernel
theorem dX8_serve_98 : decode cX8_serve 98 = .ok (.iadd, 1) := by decide +kernel
theorem dX8_serve_99 : decode cX8_serve 99 = .ok (.iastore, 1) := by decide +kernel
theorem dX8_serve_100 : decode cX8_serve 100 = .ok (.aload_n 0, 1) := by decide +kernel
theorem dX8_serve_101 : decode cX8_serve 101 = .ok (.dup, 1) := by decide +kernel
theorem dX8_serve_102 : decode cX8_serve 102 = .ok (.getfield 62, 3) := by decide +kernel
theorem dX8_serve_105 : decode cX8_serve 105 = .ok (.aload_n 0, 1) := by decide +kernel
theorem dX8_serve_106 : decode cX8_serve 106 = .ok (.iload_n 1, 1) := by decide +kernel
theorem dX8_serve_107 : decode cX8_serve 107 = .ok (.iload 4, 2) := by decide +kernel
theorem dX8_serve_109 : decode cX8_serve 109 = .ok (.iload 5, 2) := by decide +kernel
theorem dX8_serve_111 : decode cX8_serve 111 = .ok (.iload 6, 2) := by decide +kernel
theorem dX8_serve_113 : decode cX8_serve 113 = .ok (.isub, 1) := by decide +kernel
theorem dX8_serve_114 : decode cX8_serve 114 = .ok (.invokevirtual 140, 3) := by decide +kernel
theorem dX8_serve_117 : decode cX8_serve 117 = .ok (.iadd, 1) := by decide +kernel
theorem dX8_serve_118 : decode cX8_serve 118 = .ok (.putfield 62, 3) := by decide +kernel
theorem dX8_serve_121 : decode cX8_serve 121 = .ok (.iinc 3 1, 3) := by decide +kernel
theorem dX8_serve_124 : decode cX8_serve 124 = .ok (.goto (-122), 3) := by decide +kernel
theorem dX8_serve_127 : decode cX8_serve 127 = .ok (.return_, 1) := by decide +kernel
theorem dX8_giveRain_0 : decode cX8_giveRain 0 = .ok (.iload_n 2, 1) := by decide +kernel
theorem dX8_giveRain_1 : decode cX8_giveRain 1 = .ok (.aload_n 0, 1) := by decide +kernel
theorem dX8_giveRain_2 : decode cX8_giveRain 2 = .ok (.getfield 26, 3) := by decide +kernel
theorem dX8_giveRain_5 : decode cX8_giveRain 5 = .ok (.iconst 0, 1) := by decide +kernel
theorem dX8_giveRain_6 : decode cX8_giveRain 6 = .ok (.iaload, 1) := by decide +kernel
theorem dX8_giveRain_7 : decode cX8_giveRain 7 = .ok (.invokestatic 135, 3) := by decide +kernel
theorem dX8_giveRain_10 : decode cX8_giveRain 10 = .ok (.aload_n 0, 1) := by decide +kernel
theorem dX8_giveRain_11 : decode cX8_giveRain 11 = .ok (.getfield 29, 3) := by decide +kernel
theorem dX8_giveRain_14 : decode cX8_giveRain 14 = .ok (.iload_n 1, 1) := by decide +kernel
theorem dX8_giveRain_15 : decode cX8_giveRain 15 = .ok (.iaload, 1) := by decide +kernel
theorem dX8_giveRain_16 : decode cX8_giveRain 16 = .ok (.aload_n 0, 1) := by decide +kernel
theorem dX8_giveRain_17 : decode cX8_giveRain 17 = .ok (.getfield 71, 3) := by decide +kernel
theorem dX8_giveRain_20 : decode cX8_giveRain 20 = .ok (.invokestatic 135, 3) := by decide +kernel
theorem dX8_giveRain_23 : decode cX8_giveRain 23 = .ok (.invokestatic 135, 3) := by decide +kernel
theorem dX8_giveRain_26 : decode cX8_giveRain 26 = .ok (.istore_n 3, 1) := by decide +kernel
theorem dX8_giveRain_27 : decode cX8_giveRain 27 = .ok (.aload_n 0, 1) := by decide +kernel
theorem dX8_giveRain_28 : decode cX8_giveRain 28 = .ok (.getfield 29, 3) := by decide +kernel
theorem dX8_giveRain_31 : decode cX8_giveRain 31 = .ok (.iload_n 1, 1) := by decide +kernel
theorem dX8_giveRain_32 : decode cX8_giveRain 32 = .ok (.dup2, 1) := by decide +kernel
theorem dX8_giveRain_33 : decode cX8_giveRain 33 = .ok (.iaload, 1) := by decide +kernel
theorem dX8_giveRain_34 : decode cX8_giveRain 34 = .ok (.iload_n 3, 1) := by decide +kernel
theorem dX8_giveRain_35 : decode cX8_giveRain 35 = .ok (.isub, 1) := by decide +kernel
theorem dX8_giveRain_36 : decode cX8_giveRain 36 = .ok (.iastore, 1) := by decide +kernel
theorem dX8_giveRain_37 : decode cX8_giveRain 37 = .ok (.aload_n 0, 1) := by decide +kernel
theorem dX8_giveRain_38 : decode cX8_giveRain 38 = .ok (.dup, 1) := by decide +kernel
theorem dX8_giveRain_39 : decode cX8_giveRain 39 = .ok (.getfield 71, 3) := by decide +kernel
theorem dX8_giveRain_42 : decode cX8_giveRain 42 = .ok (.iload_n 3, 1) := by decide +kernel
theorem dX8_giveRain_43 : decode cX8_giveRain 43 = .ok (.isub, 1) := by decide +kernel
theorem dX8_giveRain_44 : decode cX8_giveRain 44 = .ok (.putfield 71, 3) := by decide +kernel
theorem dX8_giveRain_47 : decode cX8_giveRain 47 = .ok (.iload_n 3, 1) := by decide +kernel
theorem dX8_giveRain_48 : decode cX8_giveRain 48 = .ok (.ireturn, 1) := by decide +kernel
theorem dX8_harmOf_0 : decode cX8_harmOf 0 = .ok (.iload_n 3, 1) := by decide +kernel
theorem dX8_harmOf_1 : decode cX8_harmOf 1 = .ok (.ifCond .ne 5, 3) := by decide +kernel
theorem dX8_harmOf_4 : decode cX8_harmOf 4 = .ok (.iconst 0, 1) := by decide +kernel
theorem dX8_harmOf_5 : decode cX8_harmOf 5 = .ok (.ireturn, 1) := by decide +kernel
theorem dX8_harmOf_6 : decode cX8_harmOf 6 = .ok (.aload_n 0, 1) := by decide +kernel
theorem dX8_harmOf_7 : decode cX8_harmOf 7 = .ok (.getfield 49, 3) := by decide +kernel
theorem dX8_harmOf_10 : decode cX8_harmOf 10 = .ok (.iload_n 1, 1) := by decide +kernel
theorem dX8_harmOf_11 : decode cX8_harmOf 11 = .ok (.aload_n 0, 1) := by decide +kernel
theorem dX8_harmOf_12 : decode cX8_harmOf 12 = .ok (.getfield 45, 3) := by decide +kernel
theorem dX8_harmOf_15 : decode cX8_harmOf 15 = .ok (.aload_n 0, 1) := by decide +kernel
theorem dX8_harmOf_16 : decode cX8_harmOf 16 = .ok (.getfield 41, 3) := by decide +kernel
theorem dX8_harmOf_19 : decode cX8_harmOf 19 = .ok (.invokevirtual 111, 3) := by decide +kernel
theorem dX8_harmOf_22 : decode cX8_harmOf 22 = .ok (.aload_n 0, 1) := by decide +kernel
theorem dX8_harmOf_23 : decode cX8_harmOf 23 = .ok (.getfield 49, 3) := by decide +kernel
theorem dX8_harmOf_26 : decode cX8_harmOf 26 = .ok (.iload_n 2, 1) := by decide +kernel
theorem dX8_harmOf_27 : decode cX8_harmOf 27 = .ok (.bipush 24, 2) := by decide +kernel
theorem dX8_harmOf_29 : decode cX8_harmOf 29 = .ok (.irem, 1) := by decide +kernel
theorem dX8_harmOf_30 : decode cX8_harmOf 30 = .ok (.iload_n 2, 1) := by decide +kernel
theorem dX8_harmOf_31 : decode cX8_harmOf 31 = .ok (.bipush 24, 2) := by decide +kernel
theorem dX8_harmOf_33 : decode cX8_harmOf 33 = .ok (.idiv, 1) := by decide +kernel
theorem dX8_harmOf_34 : decode cX8_harmOf 34 = .ok (.aload_n 0, 1) := by decide +kernel
theorem dX8_harmOf_35 : decode cX8_harmOf 35 = .ok (.getfield 53, 3) := by decide +kernel
theorem dX8_harmOf_38 : decode cX8_harmOf 38 = .ok (.getfield 125, 3) := by decide +kernel
theorem dX8_harmOf_41 : decode cX8_harmOf 41 = .ok (.iload_n 1, 1) := by decide +kernel
theorem dX8_harmOf_42 : decode cX8_harmOf 42 = .ok (.aaload, 1) := by decide +kernel
theorem dX8_harmOf_43 : decode cX8_harmOf 43 = .ok (.iload_n 2, 1) := by decide +kernel
theorem dX8_harmOf_44 : decode cX8_harmOf 44 = .ok (.iaload, 1) := by decide +kernel
theorem dX8_harmOf_45 : decode cX8_harmOf 45 = .ok (.iload_n 3, 1) := by decide +kernel
theorem dX8_harmOf_46 : decode cX8_harmOf 46 = .ok (.invokevirtual 117, 3) := by decide +kernel
theorem dX8_harmOf_49 : decode cX8_harmOf 49 = .ok (.iload_n 3, 1) := by decide +kernel
theorem dX8_harmOf_50 : decode cX8_harmOf 50 = .ok (.aload_n 0, 1) := by decide +kernel
theorem dX8_harmOf_51 : decode cX8_harmOf 51 = .ok (.getfield 49, 3) := by decide +kernel
theorem dX8_harmOf_54 : decode cX8_harmOf 54 = .ok (.bipush 109, 2) := by decide +kernel
theorem dX8_harmOf_56 : decode cX8_harmOf 56 = .ok (.invokevirtual 121, 3) := by decide +kernel
theorem dX8_harmOf_59 : decode cX8_harmOf 59 = .ok (.imul, 1) := by decide +kernel
theorem dX8_harmOf_60 : decode cX8_harmOf 60 = .ok (.ireturn, 1) := by decide +kernel
theorem dX8_orderForDrought_0 : decode cX8_orderForDrought 0 = .ok (.aload_n 0, 1) := by decide +kernel
theorem dX8_orderForDrought_1 : decode cX8_orderForDrought 1 = .ok (.iload_n 1, 1) := by decide +kernel
theorem dX8_orderForDrought_2 : decode cX8_orderForDrought 2 = .ok (.invokevirtual 144, 3) := by decide +kernel
theorem dX8_orderForDrought_5 : decode cX8_orderForDrought 5 = .ok (.aload_n 0, 1) := by decide +kernel
theorem dX8_orderForDrought_6 : decode cX8_orderForDrought 6 = .ok (.getfield 35, 3) := by decide +kernel
theorem dX8_orderForDrought_9 : decode cX8_orderForDrought 9 = .ok (.iload_n 1, 1) := by decide +kernel
theorem dX8_orderForDrought_10 : decode cX8_orderForDrought 10 = .ok (.iconst 0, 1) := by decide +kernel
theorem dX8_orderForDrought_11 : decode cX8_orderForDrought 11 = .ok (.iastore, 1) := by decide +kernel
theorem dX8_orderForDrought_12 : decode cX8_orderForDrought 12 = .ok (.iload_n 1, 1) := by decide +kernel
theorem dX8_orderForDrought_13 : decode cX8_orderForDrought 13 = .ok (.iconst 1, 1) := by decide +kernel
theorem dX8_orderForDrought_14 : decode cX8_orderForDrought 14 = .ok (.isub, 1) := by decide +kernel
theorem dX8_orderForDrought_15 : decode cX8_orderForDrought 15 = .ok (.istore_n 2, 1) := by decide +kernel
theorem dX8_orderForDrought_16 : decode cX8_orderForDrought 16 = .ok (.iload_n 2, 1) := by decide +kernel
theorem dX8_orderForDrought_17 : decode cX8_orderForDrought 17 = .ok (.ifCond .lt 35, 3) := by decide +kernel
theorem dX8_orderForDrought_20 : decode cX8_orderForDrought 20 = .ok (.iload_n 2, 1) := by decide +kernel
theorem dX8_orderForDrought_21 : decode cX8_orderForDrought 21 = .ok (.iload_n 1, 1) := by decide +kernel
theorem dX8_orderForDrought_22 : decode cX8_orderForDrought 22 = .ok (.invokestatic 147, 3) := by decide +kernel
theorem dX8_orderForDrought_25 : decode cX8_orderForDrought 25 = .ok (.ifCond .eq 21, 3) := by decide +kernel
theorem dX8_orderForDrought_28 : decode cX8_orderForDrought 28 = .ok (.aload_n 0, 1) := by decide +kernel
theorem dX8_orderForDrought_29 : decode cX8_orderForDrought 29 = .ok (.getfield 53, 3) := by decide +kernel
theorem dX8_orderForDrought_32 : decode cX8_orderForDrought 32 = .ok (.iload_n 2, 1) := by decide +kernel
theorem dX8_orderForDrought_33 : decode cX8_orderForDrought 33 = .ok (.invokevirtual 151, 3) := by decide +kernel
theorem dX8_orderForDrought_36 : decode cX8_orderForDrought 36 = .ok (.aload_n 0, 1) := by decide +kernel
theorem dX8_orderForDrought_37 : decode cX8_orderForDrought 37 = .ok (.iload_n 2, 1) := by decide +kernel
theorem dX8_orderForDrought_38 : decode cX8_orderForDrought 38 = .ok (.iload_n 1, 1) := by decide +kernel
theorem dX8_orderForDrought_39 : decode cX8_orderForDrought 39 = .ok (.iload_n 2, 1) := by decide +kernel
theorem dX8_orderForDrought_40 : decode cX8_orderForDrought 40 = .ok (.iconst (-1), 1) := by decide +kernel
theorem dX8_orderForDrought_41 : decode cX8_orderForDrought 41 = .ok (.ixor, 1) := by decide +kernel
theorem dX8_orderForDrought_42 : decode cX8_orderForDrought 42 = .ok (.iand, 1) := by decide +kernel
theorem dX8_orderForDrought_43 : decode cX8_orderForDrought 43 = .ok (.invokevirtual 154, 3) := by decide +kernel
theorem dX8_orderForDrought_46 : decode cX8_orderForDrought 46 = .ok (.iinc 2 (-1), 3) := by decide +kernel
theorem dX8_orderForDrought_49 : decode cX8_orderForDrought 49 = .ok (.goto (-33), 3) := by decide +kernel
theorem dX8_orderForDrought_52 : decode cX8_orderForDrought 52 = .ok (.return_, 1) := by decide +kernel
theorem dX8_readRainTops_0 : decode cX8_readRainTops 0 = .ok (.aload_n 0, 1) := by decide +kernel
theorem dX8_readRainTops_1 : decode cX8_readRainTops 1 = .ok (.getfield 53, 3) := by decide +kernel
theorem dX8_readRainTops_4 : decode cX8_readRainTops 4 = .ok (.iload_n 1, 1) := by decide +kernel
theorem dX8_readRainTops_5 : decode cX8_readRainTops 5 = .ok (.invokevirtual 151, 3) := by decide +kernel
theorem dX8_readRainTops_8 : decode cX8_readRainTops 8 = .ok (.aload_n 0, 1) := by decide +kernel
theorem dX8_readRainTops_9 : decode cX8_readRainTops 9 = .ok (.getfield 41, 3) := by decide +kernel
theorem dX8_readRainTops_12 : decode cX8_readRainTops 12 = .ok (.getfield 66, 3) := by decide +kernel
theorem dX8_readRainTops_15 : decode cX8_readRainTops 15 = .ok (.istore_n 2, 1) := by decide +kernel
theorem dX8_readRainTops_16 : decode cX8_readRainTops 16 = .ok (.iconst 0, 1) := by decide +kernel
theorem dX8_readRainTops_17 : decode cX8_readRainTops 17 = .ok (.istore_n 3, 1) := by decide +kernel
theorem dX8_readRainTops_18 : decode cX8_readRainTops 18 = .ok (.iload_n 3, 1) := by decide +kernel
theorem dX8_readRainTops_19 : decode cX8_readRainTops 19 = .ok (.bipush 24, 2) := by decide +kernel
theorem dX8_readRainTops_21 : decode cX8_readRainTops 21 = .ok (.if_icmp .ge 57, 3) := by decide +kernel
theorem dX8_readRainTops_24 : decode cX8_readRainTops 24 = .ok (.aload_n 0, 1) := by decide +kernel
theorem dX8_readRainTops_25 : decode cX8_readRainTops 25 = .ok (.getfield 41, 3) := by decide +kernel
theorem dX8_readRainTops_28 : decode cX8_readRainTops 28 = .ok (.iload_n 2, 1) := by decide +kernel
theorem dX8_readRainTops_29 : decode cX8_readRainTops 29 = .ok (.invokevirtual 82, 3) := by decide +kernel
theorem dX8_readRainTops_32 : decode cX8_readRainTops 32 = .ok (.istore_n 2, 1) := by decide +kernel
theorem dX8_readRainTops_33 : decode cX8_readRainTops 33 = .ok (.aload_n 0, 1) := by decide +kernel
theorem dX8_readRainTops_34 : decode cX8_readRainTops 34 = .ok (.getfield 32, 3) := by decide +kernel
theorem dX8_readRainTops_37 : decode cX8_readRainTops 37 = .ok (.iload_n 3, 1) := by decide +kernel
theorem dX8_readRainTops_38 : decode cX8_readRainTops 38 = .ok (.aload_n 0, 1) := by decide +kernel
theorem dX8_readRainTops_39 : decode cX8_readRainTops 39 = .ok (.getfield 41, 3) := by decide +kernel
theorem dX8_readRainTops_42 : decode cX8_readRainTops 42 = .ok (.getfield 86, 3) := by decide +kernel
theorem dX8_readRainTops_45 : decode cX8_readRainTops 45 = .ok (.iconst 0, 1) := by decide +kernel
theorem dX8_readRainTops_46 : decode cX8_readRainTops 46 = .ok (.iaload, 1) := by decide +kernel
theorem dX8_readRainTops_47 : decode cX8_readRainTops 47 = .ok (.iload_n 2, 1) := by decide +kernel
theorem dX8_readRainTops_48 : decode cX8_readRainTops 48 = .ok (.invokestatic 135, 3) := by decide +kernel
theorem dX8_readRainTops_51 : decode cX8_readRainTops 51 = .ok (.iastore, 1) := by decide +kernel
theorem dX8_readRainTops_52 : decode cX8_readRainTops 52 = .ok (.iload_n 2, 1) := by decide +kernel
theorem dX8_readRainTops_53 : decode cX8_readRainTops 53 = .ok (.aload_n 0, 1) := by decide +kernel
theorem dX8_readRainTops_54 : decode cX8_readRainTops 54 = .ok (.getfield 32, 3) := by decide +kernel
theorem dX8_readRainTops_57 : decode cX8_readRainTops 57 = .ok (.iload_n 3, 1) := by decide +kernel
theorem dX8_readRainTops_58 : decode cX8_readRainTops 58 = .ok (.iaload, 1) := by decide +kernel
theorem dX8_readRainTops_59 : decode cX8_readRainTops 59 = .ok (.aload_n 0, 1) := by decide +kernel
theorem dX8_readRainTops_60 : decode cX8_readRainTops 60 = .ok (.getfield 53, 3) := by decide +kernel
theorem dX8_readRainTops_63 : decode cX8_readRainTops 63 = .ok (.iload_n 3, 1) := by decide +kernel
theorem dX8_readRainTops_64 : decode cX8_readRainTops 64 = .ok (.invokevirtual 157, 3) := by decide +kernel
theorem dX8_readRainTops_67 : decode cX8_readRainTops 67 = .ok (.invokestatic 135, 3) := by decide +kernel
theorem dX8_readRainTops_70 : decode cX8_readRainTops 70 = .ok (.isub, 1) := by decide +kernel
theorem dX8_readRainTops_71 : decode cX8_readRainTops 71 = .ok (.istore_n 2, 1) := by decide +kernel
theorem dX8_readRainTops_72 : decode cX8_readRainTops 72 = .ok (.iinc 3 1, 3) := by decide +kernel
theorem dX8_readRainTops_75 : decode cX8_readRainTops 75 = .ok (.goto (-57), 3) := by decide +kernel
theorem dX8_readRainTops_78 : decode cX8_readRainTops 78 = .ok (.return_, 1) := by decide +kernel
theorem dX8_chooseNext_0 : decode cX8_chooseNext 0 = .ok (.iconst 0, 1) := by decide +kernel
theorem dX8_chooseNext_1 : decode cX8_chooseNext 1 = .ok (.istore_n 3, 1) := by decide +kernel
theorem dX8_chooseNext_2 : decode cX8_chooseNext 2 = .ok (.iconst 0, 1) := by decide +kernel
theorem dX8_chooseNext_3 : decode cX8_chooseNext 3 = .ok (.istore 4, 2) := by decide +kernel
theorem dX8_chooseNext_5 : decode cX8_chooseNext 5 = .ok (.iload 4, 2) := by decide +kernel
theorem dX8_chooseNext_7 : decode cX8_chooseNext 7 = .ok (.bipush 10, 2) := by decide +kernel
theorem dX8_chooseNext_9 : decode cX8_chooseNext 9 = .ok (.if_icmp .ge 71, 3) := by decide +kernel
theorem dX8_chooseNext_12 : decode cX8_chooseNext 12 = .ok (.iload_n 2, 1) := by decide +kernel
theorem dX8_chooseNext_13 : decode cX8_chooseNext 13 = .ok (.iload 4, 2) := by decide +kernel
theorem dX8_chooseNext_15 : decode cX8_chooseNext 15 = .ok (.invokestatic 160, 3) := by decide +kernel
theorem dX8_chooseNext_18 : decode cX8_chooseNext 18 = .ok (.ifCond .eq 56, 3) := by decide +kernel
theorem dX8_chooseNext_21 : decode cX8_chooseNext 21 = .ok (.aload_n 0, 1) := by decide +kernel
theorem dX8_chooseNext_22 : decode cX8_chooseNext 22 = .ok (.iload 4, 2) := by decide +kernel
theorem dX8_chooseNext_24 : decode cX8_chooseNext 24 = .ok (.invokevirtual 163, 3) := by decide +kernel
theorem dX8_chooseNext_27 : decode cX8_chooseNext 27 = .ok (.aload_n 0, 1) := by decide +kernel
theorem dX8_chooseNext_28 : decode cX8_chooseNext 28 = .ok (.getfield 35, 3) := by decide +kernel
theorem dX8_chooseNext_31 : decode cX8_chooseNext 31 = .ok (.iload_n 1, 1) := by decide +kernel
theorem dX8_chooseNext_32 : decode cX8_chooseNext 32 = .ok (.iconst 1, 1) := by decide +kernel
theorem dX8_chooseNext_33 : decode cX8_chooseNext 33 = .ok (.iload 4, 2) := by decide +kernel
theorem dX8_chooseNext_35 : decode cX8_chooseNext 35 = .ok (.ishl, 1) := by decide +kernel
theorem dX8_chooseNext_36 : decode cX8_chooseNext 36 = .ok (.ior, 1) := by decide +kernel
theorem dX8_chooseNext_37 : decode cX8_chooseNext 37 = .ok (.iaload, 1) := by decide +kernel
theorem dX8_chooseNext_38 : decode cX8_chooseNext 38 = .ok (.iadd, 1) := by decide +kernel
theorem dX8_chooseNext_39 : decode cX8_chooseNext 39 = .ok (.istore 5, 2) := by decide +kernel
theorem dX8_chooseNext_41 : decode cX8_chooseNext 41 = .ok (.iload_n 3, 1) := by decide +kernel
theorem dX8_chooseNext_42 : decode cX8_chooseNext 42 = .ok (.ifCond .eq 14, 3) := by decide +kernel
theorem dX8_chooseNext_45 : decode cX8_chooseNext 45 = .ok (.iload 5, 2) := by decide +kernel
theorem dX8_chooseNext_47 : decode cX8_chooseNext 47 = .ok (.aload_n 0, 1) := by decide +kernel
theorem dX8_chooseNext_48 : decode cX8_chooseNext 48 = .ok (.getfield 35, 3) := by decide +kernel
theorem dX8_chooseNext_51 : decode cX8_chooseNext 51 = .ok (.iload_n 1, 1) := by decide +kernel
theorem dX8_chooseNext_52 : decode cX8_chooseNext 52 = .ok (.iaload, 1) := by decide +kernel
theorem dX8_chooseNext_53 : decode cX8_chooseNext 53 = .ok (.if_icmp .ge 21, 3) := by decide +kernel
theorem dX8_chooseNext_56 : decode cX8_chooseNext 56 = .ok (.iconst 1, 1) := by decide +kernel
theorem dX8_chooseNext_57 : decode cX8_chooseNext 57 = .ok (.istore_n 3, 1) := by decide +kernel
theorem dX8_chooseNext_58 : decode cX8_chooseNext 58 = .ok (.aload_n 0, 1) := by decide +kernel
theorem dX8_chooseNext_59 : decode cX8_chooseNext 59 = .ok (.getfield 35, 3) := by decide +kernel
theorem dX8_chooseNext_62 : decode cX8_chooseNext 62 = .ok (.iload_n 1, 1) := by decide +kernel
theorem dX8_chooseNext_63 : decode cX8_chooseNext 63 = .ok (.iload 5, 2) := by decide +kernel
theorem dX8_chooseNext_65 : decode cX8_chooseNext 65 = .ok (.iastore, 1) := by decide +kernel
theorem dX8_chooseNext_66 : decode cX8_chooseNext 66 = .ok (.aload_n 0, 1) := by decide +kernel
theorem dX8_chooseNext_67 : decode cX8_chooseNext 67 = .ok (.getfield 38, 3) := by decide +kernel
theorem dX8_chooseNext_70 : decode cX8_chooseNext 70 = .ok (.iload_n 1, 1) := by decide +kernel
theorem dX8_chooseNext_71 : decode cX8_chooseNext 71 = .ok (.iload 4, 2) := by decide +kernel
theorem dX8_chooseNext_73 : decode cX8_chooseNext 73 = .ok (.iastore, 1) := by decide +kernel
theorem dX8_chooseNext_74 : decode cX8_chooseNext 74 = .ok (.iinc 4 1, 3) := by decide +kernel
theorem dX8_chooseNext_77 : decode cX8_chooseNext 77 = .ok (.goto (-72), 3) := by decide +kernel
theorem dX8_chooseNext_80 : decode cX8_chooseNext 80 = .ok (.return_, 1) := by decide +kernel
theorem dX8_harmBehind_0 : decode cX8_harmBehind 0 = .ok (.iconst 0, 1) := by decide +kernel
theorem dX8_harmBehind_1 : decode cX8_harmBehind 1 = .ok (.istore_n 2, 1) := by decide +kernel
theorem dX8_harmBehind_2 : decode cX8_harmBehind 2 = .ok (.iconst 0, 1) := by decide +kernel
theorem dX8_harmBehind_3 : decode cX8_harmBehind 3 = .ok (.istore_n 3, 1) := by decide +kernel
theorem dX8_harmBehind_4 : decode cX8_harmBehind 4 = .ok (.iload_n 3, 1) := by decide +kernel
theorem dX8_harmBehind_5 : decode cX8_harmBehind 5 = .ok (.bipush 72, 2) := by decide +kernel
theorem dX8_harmBehind_7 : decode cX8_harmBehind 7 = .ok (.if_icmp .ge 97, 3) := by decide +kernel
theorem dX8_harmBehind_10 : decode cX8_harmBehind 10 = .ok (.aload_n 0, 1) := by decide +kernel
theorem dX8_harmBehind_11 : decode cX8_harmBehind 11 = .ok (.getfield 53, 3) := by decide +kernel
theorem dX8_harmBehind_14 : decode cX8_harmBehind 14 = .ok (.getfield 125, 3) := by decide +kernel
theorem dX8_harmBehind_17 : decode cX8_harmBehind 17 = .ok (.iload_n 1, 1) := by decide +kernel
theorem dX8_harmBehind_18 : decode cX8_harmBehind 18 = .ok (.aaload, 1) := by decide +kernel
theorem dX8_harmBehind_19 : decode cX8_harmBehind 19 = .ok (.iload_n 3, 1) := by decide +kernel
theorem dX8_harmBehind_20 : decode cX8_harmBehind 20 = .ok (.iaload, 1) := by decide +kernel
theorem dX8_harmBehind_21 : decode cX8_harmBehind 21 = .ok (.istore 4, 2) := by decide +kernel
theorem dX8_harmBehind_23 : decode cX8_harmBehind 23 = .ok (.iload 4, 2) := by decide +kernel
theorem dX8_harmBehind_25 : decode cX8_harmBehind 25 = .ok (.ifCond .le 73, 3) := by decide +kernel
theorem dX8_harmBehind_28 : decode cX8_harmBehind 28 = .ok (.iload_n 3, 1) := by decide +kernel
theorem dX8_harmBehind_29 : decode cX8_harmBehind 29 = .ok (.bipush 24, 2) := by decide +kernel
theorem dX8_harmBehind_31 : decode cX8_harmBehind 31 = .ok (.if_icmp .ge 20, 3) := by decide +kernel
theorem dX8_harmBehind_34 : decode cX8_harmBehind 34 = .ok (.aload_n 0, 1) := by decide +kernel
theorem dX8_harmBehind_35 : decode cX8_harmBehind 35 = .ok (.aload_n 0, 1) := by decide +kernel
theorem dX8_harmBehind_36 : decode cX8_harmBehind 36 = .ok (.getfield 53, 3) := by decide +kernel
theorem dX8_harmBehind_39 : decode cX8_harmBehind 39 = .ok (.getfield 128, 3) := by decide +kernel
theorem dX8_harmBehind_42 : decode cX8_harmBehind 42 = .ok (.iload_n 1, 1) := by decide +kernel
theorem dX8_harmBehind_43 : decode cX8_harmBehind 43 = .ok (.iaload, 1) := by decide +kernel
theorem dX8_harmBehind_44 : decode cX8_harmBehind 44 = .ok (.iload_n 3, 1) := by decide +kernel
theorem dX8_harmBehind_45 : decode cX8_harmBehind 45 = .ok (.invokevirtual 166, 3) := by decide +kernel
theorem dX8_harmBehind_48 : decode cX8_harmBehind 48 = .ok (.goto 25, 3) := by decide +kernel
theorem dX8_harmBehind_51 : decode cX8_harmBehind 51 = .ok (.aload_n 0, 1) := by decide +kernel
theorem dX8_harmBehind_52 : decode cX8_harmBehind 52 = .ok (.getfield 41, 3) := by decide +kernel
theorem dX8_harmBehind_55 : decode cX8_harmBehind 55 = .ok (.getfield 86, 3) := by decide +kernel
theorem dX8_harmBehind_58 : decode cX8_harmBehind 58 = .ok (.iload_n 3, 1) := by decide +kernel
theorem dX8_harmBehind_59 : decode cX8_harmBehind 59 = .ok (.bipush 24, 2) := by decide +kernel
theorem dX8_harmBehind_61 : decode cX8_harmBehind 61 = .ok (.idiv, 1) := by decide +kernel
theorem dX8_harmBehind_62 : decode cX8_harmBehind 62 = .ok (.iaload, 1) := by decide +kernel
theorem dX8_harmBehind_63 : decode cX8_harmBehind 63 = .ok (.aload_n 0, 1) := by decide +kernel
theorem dX8_harmBehind_64 : decode cX8_harmBehind 64 = .ok (.getfield 53, 3) := by decide +kernel
theorem dX8_harmBehind_67 : decode cX8_harmBehind 67 = .ok (.getfield 169, 3) := by decide +kernel
theorem dX8_harmBehind_70 : decode cX8_harmBehind 70 = .ok (.iload_n 3, 1) := by decide +kernel
theorem dX8_harmBehind_71 : decode cX8_harmBehind 71 = .ok (.iaload, 1) := by decide +kernel
theorem dX8_harmBehind_72 : decode cX8_harmBehind 72 = .ok (.isub, 1) := by decide +kernel
theorem dX8_harmBehind_73 : decode cX8_harmBehind 73 = .ok (.istore 5, 2) := by decide +kernel
theorem dX8_harmBehind_75 : decode cX8_harmBehind 75 = .ok (.iload_n 2, 1) := by decide +kernel
theorem dX8_harmBehind_76 : decode cX8_harmBehind 76 = .ok (.aload_n 0, 1) := by decide +kernel
theorem dX8_harmBehind_77 : decode cX8_harmBehind 77 = .ok (.iload_n 1, 1) := by decide +kernel
theorem dX8_harmBehind_78 : decode cX8_harmBehind 78 = .ok (.iload_n 3, 1) := by decide +kernel
theorem dX8_harmBehind_79 : decode cX8_harmBehind 79 = .ok (.iload 4, 2) := by decide +kernel
theorem dX8_harmBehind_81 : decode cX8_harmBehind 81 = .ok (.iload 4, 2) := by decide +kernel
theorem dX8_harmBehind_83 : decode cX8_harmBehind 83 = .ok (.iconst 0, 1) := by decide +kernel
theorem dX8_harmBehind_84 : decode cX8_harmBehind 84 = .ok (.iload 5, 2) := by decide +kernel
theorem dX8_harmBehind_86 : decode cX8_harmBehind 86 = .ok (.invokestatic 172, 3) := by decide +kernel
theorem dX8_harmBehind_89 : decode cX8_harmBehind 89 = .ok (.invokestatic 135, 3) := by decide +kernel
theorem dX8_harmBehind_92 : decode cX8_harmBehind 92 = .ok (.isub, 1) := by decide +kernel
theorem dX8_harmBehind_93 : decode cX8_harmBehind 93 = .ok (.invokevirtual 140, 3) := by decide +kernel
theorem dX8_harmBehind_96 : decode cX8_harmBehind 96 = .ok (.iadd, 1) := by decide +kernel
theorem dX8_harmBehind_97 : decode cX8_harmBehind 97 = .ok (.istore_n 2, 1) := by decide +kernel
theorem dX8_harmBehind_98 : decode cX8_harmBehind 98 = .ok (.iinc 3 1, 3) := by decide +kernel
theorem dX8_harmBehind_101 : decode cX8_harmBehind 101 = .ok (.goto (-97), 3) := by decide +kernel
theorem dX8_harmBehind_104 : decode cX8_harmBehind 104 = .ok (.iload_n 2, 1) := by decide +kernel
theorem dX8_harmBehind_105 : decode cX8_harmBehind 105 = .ok (.ireturn, 1) := by decide +kernel
theorem dX8_rainLeft_0 : decode cX8_rainLeft 0 = .ok (.aload_n 0, 1) := by decide +kernel
theorem dX8_rainLeft_1 : decode cX8_rainLeft 1 = .ok (.getfield 32, 3) := by decide +kernel
theorem dX8_rainLeft_4 : decode cX8_rainLeft 4 = .ok (.iload_n 2, 1) := by decide +kernel
theorem dX8_rainLeft_5 : decode cX8_rainLeft 5 = .ok (.iaload, 1) := by decide +kernel
theorem dX8_rainLeft_6 : decode cX8_rainLeft 6 = .ok (.aload_n 0, 1) := by decide +kernel
theorem dX8_rainLeft_7 : decode cX8_rainLeft 7 = .ok (.getfield 53, 3) := by decide +kernel
theorem dX8_rainLeft_10 : decode cX8_rainLeft 10 = .ok (.iload_n 2, 1) := by decide +kernel
theorem dX8_rainLeft_11 : decode cX8_rainLeft 11 = .ok (.invokevirtual 157, 3) := by decide +kernel
theorem dX8_rainLeft_14 : decode cX8_rainLeft 14 = .ok (.isub, 1) := by decide +kernel
theorem dX8_rainLeft_15 : decode cX8_rainLeft 15 = .ok (.aload_n 0, 1) := by decide +kernel
theorem dX8_rainLeft_16 : decode cX8_rainLeft 16 = .ok (.getfield 41, 3) := by decide +kernel
theorem dX8_rainLeft_19 : decode cX8_rainLeft 19 = .ok (.getfield 95, 3) := by decide +kernel
theorem dX8_rainLeft_22 : decode cX8_rainLeft 22 = .ok (.iload_n 1, 1) := by decide +kernel
theorem dX8_rainLeft_23 : decode cX8_rainLeft 23 = .ok (.iaload, 1) := by decide +kernel
theorem dX8_rainLeft_24 : decode cX8_rainLeft 24 = .ok (.aload_n 0, 1) := by decide +kernel
theorem dX8_rainLeft_25 : decode cX8_rainLeft 25 = .ok (.getfield 53, 3) := by decide +kernel
theorem dX8_rainLeft_28 : decode cX8_rainLeft 28 = .ok (.getfield 175, 3) := by decide +kernel
theorem dX8_rainLeft_31 : decode cX8_rainLeft 31 = .ok (.iload_n 1, 1) := by decide +kernel
theorem dX8_rainLeft_32 : decode cX8_rainLeft 32 = .ok (.bipush 24, 2) := by decide +kernel
theorem dX8_rainLeft_34 : decode cX8_rainLeft 34 = .ok (.imul, 1) := by decide +kernel
theorem dX8_rainLeft_35 : decode cX8_rainLeft 35 = .ok (.iload_n 2, 1) := by decide +kernel
theorem dX8_rainLeft_36 : decode cX8_rainLeft 36 = .ok (.iadd, 1) := by decide +kernel
theorem dX8_rainLeft_37 : decode cX8_rainLeft 37 = .ok (.iaload, 1) := by decide +kernel
theorem dX8_rainLeft_38 : decode cX8_rainLeft 38 = .ok (.isub, 1) := by decide +kernel
theorem dX8_rainLeft_39 : decode cX8_rainLeft 39 = .ok (.invokestatic 135, 3) := by decide +kernel
theorem dX8_rainLeft_42 : decode cX8_rainLeft 42 = .ok (.ireturn, 1) := by decide +kernel
theorem dX8_droughtStayAt_0 : decode cX8_droughtStayAt 0 = .ok (.iconst 0, 1) := by decide +kernel
theorem dX8_droughtStayAt_1 : decode cX8_droughtStayAt 1 = .ok (.istore_n 2, 1) := by decide +kernel
theorem dX8_droughtStayAt_2 : decode cX8_droughtStayAt 2 = .ok (.iconst 0, 1) := by decide +kernel
theorem dX8_droughtStayAt_3 : decode cX8_droughtStayAt 3 = .ok (.istore_n 3, 1) := by decide +kernel
theorem dX8_droughtStayAt_4 : decode cX8_droughtStayAt 4 = .ok (.iload_n 3, 1) := by decide +kernel
theorem dX8_droughtStayAt_5 : decode cX8_droughtStayAt 5 = .ok (.iload_n 1, 1) := by decide +kernel
theorem dX8_droughtStayAt_6 : decode cX8_droughtStayAt 6 = .ok (.if_icmp .ge 20, 3) := by decide +kernel
theorem dX8_droughtStayAt_9 : decode cX8_droughtStayAt 9 = .ok (.iload_n 2, 1) := by decide +kernel
theorem dX8_droughtStayAt_10 : decode cX8_droughtStayAt 10 = .ok (.iconst 1, 1) := by decide +kernel
theorem dX8_droughtStayAt_11 : decode cX8_droughtStayAt 11 = .ok (.aload_n 0, 1) := by decide +kernel
theorem dX8_droughtStayAt_12 : decode cX8_droughtStayAt 12 = .ok (.getfield 38, 3) := by decide +kernel
theorem dX8_droughtStayAt_15 : decode cX8_droughtStayAt 15 = .ok (.iload_n 2, 1) := by decide +kernel
theorem dX8_droughtStayAt_16 : decode cX8_droughtStayAt 16 = .ok (.iaload, 1) := by decide +kernel
theorem dX8_droughtStayAt_17 : decode cX8_droughtStayAt 17 = .ok (.ishl, 1) := by decide +kernel
theorem dX8_droughtStayAt_18 : decode cX8_droughtStayAt 18 = .ok (.ior, 1) := by decide +kernel
theorem dX8_droughtStayAt_19 : decode cX8_droughtStayAt 19 = .ok (.istore_n 2, 1) := by decide +kernel
theorem dX8_droughtStayAt_20 : decode cX8_droughtStayAt 20 = .ok (.iinc 3 1, 3) := by decide +kernel
theorem dX8_droughtStayAt_23 : decode cX8_droughtStayAt 23 = .ok (.goto (-19), 3) := by decide +kernel
theorem dX8_droughtStayAt_26 : decode cX8_droughtStayAt 26 = .ok (.aload_n 0, 1) := by decide +kernel
theorem dX8_droughtStayAt_27 : decode cX8_droughtStayAt 27 = .ok (.getfield 38, 3) := by decide +kernel
theorem dX8_droughtStayAt_30 : decode cX8_droughtStayAt 30 = .ok (.iload_n 2, 1) := by decide +kernel
theorem dX8_droughtStayAt_31 : decode cX8_droughtStayAt 31 = .ok (.iaload, 1) := by decide +kernel
theorem dX8_droughtStayAt_32 : decode cX8_droughtStayAt 32 = .ok (.ireturn, 1) := by decide +kernel
theorem dX9_init_0 : decode cX9_init 0 = .ok (.aload_n 0, 1) := by decide +kernel
theorem dX9_init_1 : decode cX9_init 1 = .ok (.invokespecial 3, 3) := by decide +kernel
theorem dX9_init_4 : decode cX9_init 4 = .ok (.aload_n 0, 1) := by decide +kernel
theorem dX9_init_5 : decode cX9_init 5 = .ok (.sipush 200, 3) := by decide +kernel
theorem dX9_init_8 : decode cX9_init 8 = .ok (.newarray .int, 2) := by decide +kernel
theorem dX9_init_10 : decode cX9_init 10 = .ok (.putfield 9, 3) := by decide +kernel
theorem dX9_init_13 : decode cX9_init 13 = .ok (.return_, 1) := by decide +kernel
theorem dX9_size_0 : decode cX9_size 0 = .ok (.aload_n 0, 1) := by decide +kernel
theorem dX9_size_1 : decode cX9_size 1 = .ok (.getfield 15, 3) := by decide +kernel
theorem dX9_size_4 : decode cX9_size 4 = .ok (.ireturn, 1) := by decide +kernel
theorem dX9_clear_0 : decode cX9_clear 0 = .ok (.aload_n 0, 1) := by decide +kernel
theorem dX9_clear_1 : decode cX9_clear 1 = .ok (.iconst 0, 1) := by decide +kernel
theorem dX9_clear_2 : decode cX9_clear 2 = .ok (.putfield 15, 3) := by decide +kernel
theorem dX9_clear_5 : decode cX9_clear 5 = .ok (.return_, 1) := by decide +kernel
theorem dX9_append_0 : decode cX9_append 0 = .ok (.bipush 24, 2) := by decide +kernel
theorem dX9_append_2 : decode cX9_append 2 = .ok (.istore_n 2, 1) := by decide +kernel
theorem dX9_append_3 : decode cX9_append 3 = .ok (.iload_n 2, 1) := by decide +kernel
theorem dX9_append_4 : decode cX9_append 4 = .ok (.ifCond .lt 47, 3) := by decide +kernel
theorem dX9_append_7 : decode cX9_append 7 = .ok (.aload_n 0, 1) := by decide +kernel
theorem dX9_append_8 : decode cX9_append 8 = .ok (.getfield 15, 3) := by decide +kernel
theorem dX9_append_11 : decode cX9_append 11 = .ok (.aload_n 0, 1) := by decide +kernel
theorem dX9_append_12 : decode cX9_append 12 = .ok (.getfield 9, 3) := by decide +kernel
theorem dX9_append_15 : decode cX9_append 15 = .ok (.arraylength, 1) := by decide +kernel
theorem dX9_append_16 : decode cX9_append 16 = .ok (.if_icmp .ge 35, 3) := by decide +kernel
theorem dX9_append_19 : decode cX9_append 19 = .ok (.aload_n 0, 1) := by decide +kernel
theorem dX9_append_20 : decode cX9_append 20 = .ok (.getfield 9, 3) := by decide +kernel
theorem dX9_append_23 : decode cX9_append 23 = .ok (.aload_n 0, 1) := by decide +kernel
theorem dX9_append_24 : decode cX9_append 24 = .ok (.getfield 15, 3) := by decide +kernel
theorem dX9_append_27 : decode cX9_append 27 = .ok (.iload_n 1, 1) := by decide +kernel
theorem dX9_append_28 : decode cX9_append 28 = .ok (.iload_n 2, 1) := by decide +kernel
theorem dX9_append_29 : decode cX9_append 29 = .ok (.ishr, 1) := by decide +kernel
theorem dX9_append_30 : decode cX9_append 30 = .ok (.sipush 255, 3) := by decide +kernel
theorem dX9_append_33 : decode cX9_append 33 = .ok (.iand, 1) := by decide +kernel
theorem dX9_append_34 : decode cX9_append 34 = .ok (.iastore, 1) := by decide +kernel
theorem dX9_append_35 : decode cX9_append 35 = .ok (.aload_n 0, 1) := by decide +kernel
theorem dX9_append_36 : decode cX9_append 36 = .ok (.dup, 1) := by decide +kernel
theorem dX9_append_37 : decode cX9_append 37 = .ok (.getfield 15, 3) := by decide +kernel
theorem dX9_append_40 : decode cX9_append 40 = .ok (.iconst 1, 1) := by decide +kernel
theorem dX9_append_41 : decode cX9_append 41 = .ok (.iadd, 1) := by decide +kernel
theorem dX9_append_42 : decode cX9_append 42 = .ok (.putfield 15, 3) := by decide +kernel
theorem dX9_append_45 : decode cX9_append 45 = .ok (.iinc 2 (-8), 3) := by decide +kernel
theorem dX9_append_48 : decode cX9_append 48 = .ok (.goto (-45), 3) := by decide +kernel
theorem dX9_append_51 : decode cX9_append 51 = .ok (.return_, 1) := by decide +kernel
theorem dX9_byteAt_0 : decode cX9_byteAt 0 = .ok (.iload_n 1, 1) := by decide +kernel
theorem dX9_byteAt_1 : decode cX9_byteAt 1 = .ok (.aload_n 0, 1) := by decide +kernel
theorem dX9_byteAt_2 : decode cX9_byteAt 2 = .ok (.getfield 15, 3) := by decide +kernel
theorem dX9_byteAt_5 : decode cX9_byteAt 5 = .ok (.invokestatic 19, 3) := by decide +kernel
theorem dX9_byteAt_8 : decode cX9_byteAt 8 = .ok (.ifCond .eq 12, 3) := by decide +kernel
theorem dX9_byteAt_11 : decode cX9_byteAt 11 = .ok (.aload_n 0, 1) := by decide +kernel
theorem dX9_byteAt_12 : decode cX9_byteAt 12 = .ok (.getfield 9, 3) := by decide +kernel
theorem dX9_byteAt_15 : decode cX9_byteAt 15 = .ok (.iload_n 1, 1) := by decide +kernel
theorem dX9_byteAt_16 : decode cX9_byteAt 16 = .ok (.iaload, 1) := by decide +kernel
theorem dX9_byteAt_17 : decode cX9_byteAt 17 = .ok (.goto 4, 3) := by decide +kernel
theorem dX9_byteAt_20 : decode cX9_byteAt 20 = .ok (.iconst 0, 1) := by decide +kernel
theorem dX9_byteAt_21 : decode cX9_byteAt 21 = .ok (.ireturn, 1) := by decide +kernel
theorem dX9_pairAt_0 : decode cX9_pairAt 0 = .ok (.aload_n 0, 1) := by decide +kernel
theorem dX9_pairAt_1 : decode cX9_pairAt 1 = .ok (.iload_n 1, 1) := by decide +kernel
theorem dX9_pairAt_2 : decode cX9_pairAt 2 = .ok (.invokevirtual 23, 3) := by decide +kernel
theorem dX9_pairAt_5 : decode cX9_pairAt 5 = .ok (.bipush 8, 2) := by decide +kernel
theorem dX9_pairAt_7 : decode cX9_pairAt 7 = .ok (.ishl, 1) := by decide +kernel
theorem dX9_pairAt_8 : decode cX9_pairAt 8 = .ok (.aload_n 0, 1) := by decide +kernel
theorem dX9_pairAt_9 : decode cX9_pairAt 9 = .ok (.iload_n 1, 1) := by decide +kernel
theorem dX9_pairAt_10 : decode cX9_pairAt 10 = .ok (.iconst 1, 1) := by decide +kernel
theorem dX9_pairAt_11 : decode cX9_pairAt 11 = .ok (.iadd, 1) := by decide +kernel
theorem dX9_pairAt_12 : decode cX9_pairAt 12 = .ok (.invokevirtual 23, 3) := by decide +kernel
theorem dX9_pairAt_15 : decode cX9_pairAt 15 = .ok (.ior, 1) := by decide +kernel
theorem dX9_pairAt_16 : decode cX9_pairAt 16 = .ok (.ireturn, 1) := by decide +kernel
theorem dX9_numberAt_0 : decode cX9_numberAt 0 = .ok (.aload_n 0, 1) := by decide +kernel
theorem dX9_numberAt_1 : decode cX9_numberAt 1 = .ok (.iload_n 1, 1) := by decide +kernel
theorem dX9_numberAt_2 : decode cX9_numberAt 2 = .ok (.invokevirtual 27, 3) := by decide +kernel
theorem dX9_numberAt_5 : decode cX9_numberAt 5 = .ok (.bipush 16, 2) := by decide +kernel
theorem dX9_numberAt_7 : decode cX9_numberAt 7 = .ok (.ishl, 1) := by decide +kernel
theorem dX9_numberAt_8 : decode cX9_numberAt 8 = .ok (.aload_n 0, 1) := by decide +kernel
theorem dX9_numberAt_9 : decode cX9_numberAt 9 = .ok (.iload_n 1, 1) := by decide +kernel
theorem dX9_numberAt_10 : decode cX9_numberAt 10 = .ok (.iconst 2, 1) := by decide +kernel
theorem dX9_numberAt_11 : decode cX9_numberAt 11 = .ok (.iadd, 1) := by decide +kernel
theorem dX9_numberAt_12 : decode cX9_numberAt 12 = .ok (.invokevirtual 27, 3) := by decide +kernel
theorem dX9_numberAt_15 : decode cX9_numberAt 15 = .ok (.ior, 1) := by decide +kernel
theorem dX9_numberAt_16 : decode cX9_numberAt 16 = .ok (.ireturn, 1) := by decide +kernel
theorem dX10_init_0 : decode cX10_init 0 = .ok (.aload_n 0, 1) := by decide +kernel
theorem dX10_init_1 : decode cX10_init 1 = .ok (.invokespecial 3, 3) := by decide +kernel
theorem dX10_init_4 : decode cX10_init 4 = .ok (.aload_n 0, 1) := by decide +kernel
theorem dX10_init_5 : decode cX10_init 5 = .ok (.aload_n 1, 1) := by decide +kernel
theorem dX10_init_6 : decode cX10_init 6 = .ok (.putfield 9, 3) := by decide +kernel
theorem dX10_init_9 : decode cX10_init 9 = .ok (.return_, 1) := by decide +kernel
theorem dX10_open_0 : decode cX10_open 0 = .ok (.aload_n 0, 1) := by decide +kernel
theorem dX10_open_1 : decode cX10_open 1 = .ok (.iload_n 1, 1) := by decide +kernel
theorem dX10_open_2 : decode cX10_open 2 = .ok (.aload_n 0, 1) := by decide +kernel
theorem dX10_open_3 : decode cX10_open 3 = .ok (.getfield 9, 3) := by decide +kernel
theorem dX10_open_6 : decode cX10_open 6 = .ok (.getfield 15, 3) := by decide +kernel
theorem dX10_open_9 : decode cX10_open 9 = .ok (.invokestatic 21, 3) := by decide +kernel
theorem dX10_open_12 : decode cX10_open 12 = .ok (.putfield 27, 3) := by decide +kernel
theorem dX10_open_15 : decode cX10_open 15 = .ok (.aload_n 0, 1) := by decide +kernel
theorem dX10_open_16 : decode cX10_open 16 = .ok (.iconst (-1), 1) := by decide +kernel
theorem dX10_open_17 : decode cX10_open 17 = .ok (.putfield 28, 3) := by decide +kernel
theorem dX10_open_20 : decode cX10_open 20 = .ok (.aload_n 0, 1) := by decide +kernel
theorem dX10_open_21 : decode cX10_open 21 = .ok (.iconst 0, 1) := by decide +kernel
theorem dX10_open_22 : decode cX10_open 22 = .ok (.putfield 31, 3) := by decide +kernel
theorem dX10_open_25 : decode cX10_open 25 = .ok (.aload_n 0, 1) := by decide +kernel
theorem dX10_open_26 : decode cX10_open 26 = .ok (.invokevirtual 34, 3) := by decide +kernel
theorem dX10_open_29 : decode cX10_open 29 = .ok (.return_, 1) := by decide +kernel
theorem dX10_step_0 : decode cX10_step 0 = .ok (.aload_n 0, 1) := by decide +kernel
theorem dX10_step_1 : decode cX10_step 1 = .ok (.dup, 1) := by decide +kernel
theorem dX10_step_2 : decode cX10_step 2 = .ok (.getfield 28, 3) := by decide +kernel
theorem dX10_step_5 : decode cX10_step 5 = .ok (.iconst 1, 1) := by decide +kernel
theorem dX10_step_6 : decode cX10_step 6 = .ok (.iadd, 1) := by decide +kernel
theorem dX10_step_7 : decode cX10_step 7 = .ok (.putfield 28, 3) := by decide +kernel
theorem dX10_step_10 : decode cX10_step 10 = .ok (.aload_n 0, 1) := by decide +kernel
theorem dX10_step_11 : decode cX10_step 11 = .ok (.aload_n 0, 1) := by decide +kernel
theorem dX10_step_12 : decode cX10_step 12 = .ok (.getfield 28, 3) := by decide +kernel
theorem dX10_step_15 : decode cX10_step 15 = .ok (.aload_n 0, 1) := by decide +kernel
theorem dX10_step_16 : decode cX10_step 16 = .ok (.getfield 27, 3) := by decide +kernel
theorem dX10_step_19 : decode cX10_step 19 = .ok (.if_icmp .ge 18, 3) := by decide +kernel
theorem dX10_step_22 : decode cX10_step 22 = .ok (.aload_n 0, 1) := by decide +kernel
theorem dX10_step_23 : decode cX10_step 23 = .ok (.getfield 9, 3) := by decide +kernel
theorem dX10_step_26 : decode cX10_step 26 = .ok (.getfield 37, 3) := by decide +kernel
theorem dX10_step_29 : decode cX10_step 29 = .ok (.aload_n 0, 1) := by decide +kernel
theorem dX10_step_30 : decode cX10_step 30 = .ok (.getfield 28, 3) := by decide +kernel
theorem dX10_step_33 : decode cX10_step 33 = .ok (.iaload, 1) := by decide +kernel
theorem dX10_step_34 : decode cX10_step 34 = .ok (.goto 4, 3) := by decide +kernel
theorem dX10_step_37 : decode cX10_step 37 = .ok (.iconst (-1), 1) := by decide +kernel
theorem dX10_step_38 : decode cX10_step 38 = .ok (.putfield 41, 3) := by decide +kernel
theorem dX10_step_41 : decode cX10_step 41 = .ok (.return_, 1) := by decide +kernel
theorem dX10_atEnd_0 : decode cX10_atEnd 0 = .ok (.aload_n 0, 1) := by decide +kernel
theorem dX10_atEnd_1 : decode cX10_atEnd 1 = .ok (.getfield 41, 3) := by decide +kernel
theorem dX10_atEnd_4 : decode cX10_atEnd 4 = .ok (.iconst (-1), 1) := by decide +kernel
theorem dX10_atEnd_5 : decode cX10_atEnd 5 = .ok (.if_icmp .ne 7, 3) := by decide +kernel
theorem dX10_atEnd_8 : decode cX10_atEnd 8 = .ok (.iconst 1, 1) := by decide +kernel
theorem dX10_atEnd_9 : decode cX10_atEnd 9 = .ok (.goto 4, 3) := by decide +kernel
theorem dX10_atEnd_12 : decode cX10_atEnd 12 = .ok (.iconst 0, 1) := by decide +kernel
theorem dX10_atEnd_13 : decode cX10_atEnd 13 = .ok (.ireturn, 1) := by decide +kernel
theorem dX10_atDigit_0 : decode cX10_atDigit 0 = .ok (.aload_n 0, 1) := by decide +kernel
theorem dX10_atDigit_1 : decode cX10_atDigit 1 = .ok (.getfield 41, 3) := by decide +kernel
theorem dX10_atDigit_4 : decode cX10_atDigit 4 = .ok (.bipush 48, 2) := by decide +kernel
theorem dX10_atDigit_6 : decode cX10_atDigit 6 = .ok (.if_icmp .lt 16, 3) := by decide +kernel
theorem dX10_atDigit_9 : decode cX10_atDigit 9 = .ok (.aload_n 0, 1) := by decide +kernel
theorem dX10_atDigit_10 : decode cX10_atDigit 10 = .ok (.getfield 41, 3) := by decide +kernel
theorem dX10_atDigit_13 : decode cX10_atDigit 13 = .ok (.bipush 57, 2) := by decide +kernel
theorem dX10_atDigit_15 : decode cX10_atDigit 15 = .ok (.if_icmp .gt 7, 3) := by decide +kernel
theorem dX10_atDigit_18 : decode cX10_atDigit 18 = .ok (.iconst 1, 1) := by decide +kernel
theorem dX10_atDigit_19 : decode cX10_atDigit 19 = .ok (.goto 4, 3) := by decide +kernel
theorem dX10_atDigit_22 : decode cX10_atDigit 22 = .ok (.iconst 0, 1) := by decide +kernel
theorem dX10_atDigit_23 : decode cX10_atDigit 23 = .ok (.ireturn, 1) := by decide +kernel
theorem dX10_failAt_0 : decode cX10_failAt 0 = .ok (.aload_n 0, 1) := by decide +kernel
theorem dX10_failAt_1 : decode cX10_failAt 1 = .ok (.sipush (-1000), 3) := by decide +kernel
theorem dX10_failAt_4 : decode cX10_failAt 4 = .ok (.iload_n 1, 1) := by decide +kernel
theorem dX10_failAt_5 : decode cX10_failAt 5 = .ok (.imul, 1) := by decide +kernel
theorem dX10_failAt_6 : decode cX10_failAt 6 = .ok (.iload_n 2, 1) := by decide +kernel
theorem dX10_failAt_7 : decode cX10_failAt 7 = .ok (.isub, 1) := by decide +kernel
theorem dX10_failAt_8 : decode cX10_failAt 8 = .ok (.putfield 31, 3) := by decide +kernel
theorem dX10_failAt_11 : decode cX10_failAt 11 = .ok (.return_, 1) := by decide +kernel
theorem dX10_failHere_0 : decode cX10_failHere 0 = .ok (.aload_n 0, 1) := by decide +kernel
theorem dX10_failHere_1 : decode cX10_failHere 1 = .ok (.sipush (-1000), 3) := by decide +kernel
theorem dX10_failHere_4 : decode cX10_failHere 4 = .ok (.iload_n 1, 1) := by decide +kernel
theorem dX10_failHere_5 : decode cX10_failHere 5 = .ok (.imul, 1) := by decide +kernel
theorem dX10_failHere_6 : decode cX10_failHere 6 = .ok (.aload_n 0, 1) := by decide +kernel
theorem dX10_failHere_7 : decode cX10_failHere 7 = .ok (.getfield 28, 3) := by decide +kernel
theorem dX10_failHere_10 : decode cX10_failHere 10 = .ok (.isub, 1) := by decide +kernel
theorem dX10_failHere_11 : decode cX10_failHere 11 = .ok (.putfield 31, 3) := by decide +kernel
theorem dX10_failHere_14 : decode cX10_failHere 14 = .ok (.iconst 0, 1) := by decide +kernel
theorem dX10_failHere_15 : decode cX10_failHere 15 = .ok (.ireturn, 1) := by decide +kernel
theorem dX10_take_0 : decode cX10_take 0 = .ok (.aload_n 0, 1) := by decide +kernel
theorem dX10_take_1 : decode cX10_take 1 = .ok (.getfield 41, 3) := by decide +kernel
theorem dX10_take_4 : decode cX10_take 4 = .ok (.iload_n 1, 1) := by decide +kernel
theorem dX10_take_5 : decode cX10_take 5 = .ok (.if_icmp .eq 9, 3) := by decide +kernel
theorem dX10_take_8 : decode cX10_take 8 = .ok (.aload_n 0, 1) := by decide +kernel
theorem dX10_take_9 : decode cX10_take 9 = .ok (.iconst 1, 1) := by decide +kernel
theorem dX10_take_10 : decode cX10_take 10 = .ok (.invokevirtual 44, 3) := by decide +kernel
theorem dX10_take_13 : decode cX10_take 13 = .ok (.ireturn, 1) := by decide +kernel
theorem dX10_take_14 : decode cX10_take 14 = .ok (.aload_n 0, 1) := by decide +kernel
theorem dX10_take_15 : decode cX10_take 15 = .ok (.invokevirtual 34, 3) := by decide +kernel
theorem dX10_take_18 : decode cX10_take 18 = .ok (.iconst 1, 1) := by decide +kernel
theorem dX10_take_19 : decode cX10_take 19 = .ok (.ireturn, 1) := by decide +kernel
theorem dX10_among_0 : decode cX10_among 0 = .ok (.aload_n 0, 1) := by decide +kernel
theorem dX10_among_1 : decode cX10_among 1 = .ok (.invokevirtual 48, 3) := by decide +kernel
theorem dX10_among_4 : decode cX10_among 4 = .ok (.ifCond .eq 7, 3) := by decide +kernel
theorem dX10_among_7 : decode cX10_among 7 = .ok (.iconst (-1), 1) := by decide +kernel
theorem dX10_among_8 : decode cX10_among 8 = .ok (.goto 12, 3) := by decide +kernel
theorem dX10_among_11 : decode cX10_among 11 = .ok (.aload_n 1, 1) := by decide +kernel
theorem dX10_among_12 : decode cX10_among 12 = .ok (.aload_n 0, 1) := by decide +kernel
theorem dX10_among_13 : decode cX10_among 13 = .ok (.getfield 41, 3) := by decide +kernel
theorem dX10_among_16 : decode cX10_among 16 = .ok (.i2c, 1) := by decide +kernel
theorem dX10_among_17 : decode cX10_among 17 = .ok (.invokevirtual 52, 3) := by decide +kernel
theorem dX10_among_20 : decode cX10_among 20 = .ok (.ireturn, 1) := by decide +kernel
theorem dX10_number_0 : decode cX10_number 0 = .ok (.aload_n 0, 1) := by decide +kernel
theorem dX10_number_1 : decode cX10_number 1 = .ok (.invokevirtual 58, 3) := by decide +kernel
theorem dX10_number_4 : decode cX10_number 4 = .ok (.ifCond .ne 11, 3) := by decide +kernel
theorem dX10_number_7 : decode cX10_number 7 = .ok (.aload_n 0, 1) := by decide +kernel
theorem dX10_number_8 : decode cX10_number 8 = .ok (.iconst 1, 1) := by decide +kernel
theorem dX10_number_9 : decode cX10_number 9 = .ok (.invokevirtual 44, 3) := by decide +kernel
theorem dX10_number_12 : decode cX10_number 12 = .ok (.pop, 1) := by decide +kernel
theorem dX10_number_13 : decode cX10_number 13 = .ok (.iconst (-1), 1) := by decide +kernel
theorem dX10_number_14 : decode cX10_number 14 = .ok (.ireturn, 1) := by decide +kernel
theorem dX10_number_15 : decode cX10_number 15 = .ok (.iconst 0, 1) := by decide +kernel
theorem dX10_number_16 : decode cX10_number 16 = .ok (.istore_n 2, 1) := by decide +kernel
theorem dX10_number_17 : decode cX10_number 17 = .ok (.iconst 0, 1) := by decide +kernel
theorem dX10_number_18 : decode cX10_number 18 = .ok (.istore_n 3, 1) := by decide +kernel
theorem dX10_number_19 : decode cX10_number 19 = .ok (.iload_n 3, 1) := by decide +kernel
theorem dX10_number_20 : decode cX10_number 20 = .ok (.iload_n 1, 1) := by decide +kernel
theorem dX10_number_21 : decode cX10_number 21 = .ok (.if_icmp .ge 33, 3) := by decide +kernel
theorem dX10_number_24 : decode cX10_number 24 = .ok (.aload_n 0, 1) := by decide +kernel
theorem dX10_number_25 : decode cX10_number 25 = .ok (.invokevirtual 58, 3) := by decide +kernel
theorem dX10_number_28 : decode cX10_number 28 = .ok (.ifCond .eq 26, 3) := by decide +kernel
theorem dX10_number_31 : decode cX10_number 31 = .ok (.bipush 10, 2) := by decide +kernel
theorem dX10_number_33 : decode cX10_number 33 = .ok (.iload_n 2, 1) := by decide +kernel
theorem dX10_number_34 : decode cX10_number 34 = .ok (.imul, 1) := by decide +kernel
theorem dX10_number_35 : decode cX10_number 35 = .ok (.aload_n 0, 1) := by decide +kernel
theorem dX10_number_36 : decode cX10_number 36 = .ok (.getfield 41, 3) := by decide +kernel
theorem dX10_number_39 : decode cX10_number 39 = .ok (.iadd, 1) := by decide +kernel
theorem dX10_number_40 : decode cX10_number 40 = .ok (.bipush 48, 2) := by decide +kernel
theorem dX10_number_42 : decode cX10_number 42 = .ok (.isub, 1) := by decide +kernel
theorem dX10_number_43 : decode cX10_number 43 = .ok (.istore_n 2, 1) := by decide +kernel
theorem dX10_number_44 : decode cX10_number 44 = .ok (.aload_n 0, 1) := by decide +kernel
theorem dX10_number_45 : decode cX10_number 45 = .ok (.invokevirtual 34, 3) := by decide +kernel
theorem dX10_number_48 : decode cX10_number 48 = .ok (.iinc 3 1, 3) := by decide +kernel
theorem dX10_number_51 : decode cX10_number 51 = .ok (.goto (-32), 3) := by decide +kernel
theorem dX10_number_54 : decode cX10_number 54 = .ok (.iload_n 2, 1) := by decide +kernel
theorem dX10_number_55 : decode cX10_number 55 = .ok (.ireturn, 1) := by decide +kernel
theorem dX11_init_0 : decode cX11_init 0 = .ok (.aload_n 0, 1) := by decide +kernel
theorem dX11_init_1 : decode cX11_init 1 = .ok (.invokespecial 3, 3) := by decide +kernel
theorem dX11_init_4 : decode cX11_init 4 = .ok (.aload_n 0, 1) := by decide +kernel
theorem dX11_init_5 : decode cX11_init 5 = .ok (.new 9, 3) := by decide +kernel
theorem dX11_init_8 : decode cX11_init 8 = .ok (.dup, 1) := by decide +kernel
theorem dX11_init_9 : decode cX11_init 9 = .ok (.invokespecial 11, 3) := by decide +kernel
theorem dX11_init_12 : decode cX11_init 12 = .ok (.putfield 12, 3) := by decide +kernel
theorem dX11_init_15 : decode cX11_init 15 = .ok (.new 16, 3) := by decide +kernel
theorem dX11_init_18 : decode cX11_init 18 = .ok (.dup, 1) := by decide +kernel
theorem dX11_init_19 : decode cX11_init 19 = .ok (.aload_n 0, 1) := by decide +kernel
theorem dX11_init_20 : decode cX11_init 20 = .ok (.getfield 12, 3) := by decide +kernel
theorem dX11_init_23 : decode cX11_init 23 = .ok (.invokespecial 18, 3) := by decide +kernel
theorem dX11_init_26 : decode cX11_init 26 = .ok (.astore_n 1, 1) := by decide +kernel
theorem dX11_init_27 : decode cX11_init 27 = .ok (.aload_n 0, 1) := by decide +kernel
theorem dX11_init_28 : decode cX11_init 28 = .ok (.new 21, 3) := by decide +kernel
theorem dX11_init_31 : decode cX11_init 31 = .ok (.dup, 1) := by decide +kernel
theorem dX11_init_32 : decode cX11_init 32 = .ok (.aload_n 1, 1) := by decide +kernel
theorem dX11_init_33 : decode cX11_init 33 = .ok (.invokespecial 23, 3) := by decide +kernel
theorem dX11_init_36 : decode cX11_init 36 = .ok (.putfield 26, 3) := by decide +kernel
theorem dX11_init_39 : decode cX11_init 39 = .ok (.aload_n 0, 1) := by decide +kernel
theorem dX11_init_40 : decode cX11_init 40 = .ok (.new 30, 3) := by decide +kernel
theorem dX11_init_43 : decode cX11_init 43 = .ok (.dup, 1) := by decide +kernel
theorem dX11_init_44 : decode cX11_init 44 = .ok (.invokespecial 32, 3) := by decide +kernel
theorem dX11_init_47 : decode cX11_init 47 = .ok (.putfield 33, 3) := by decide +kernel
theorem dX11_init_50 : decode cX11_init 50 = .ok (.aload_n 0, 1) := by decide +kernel
theorem dX11_init_51 : decode cX11_init 51 = .ok (.new 37, 3) := by decide +kernel
theorem dX11_init_54 : decode cX11_init 54 = .ok (.dup, 1) := by decide +kernel
theorem dX11_init_55 : decode cX11_init 55 = .ok (.invokespecial 39, 3) := by decide +kernel
theorem dX11_init_58 : decode cX11_init 58 = .ok (.putfield 40, 3) := by decide +kernel
theorem dX11_init_61 : decode cX11_init 61 = .ok (.aload_n 0, 1) := by decide +kernel
theorem dX11_init_62 : decode cX11_init 62 = .ok (.new 37, 3) := by decide +kernel
theorem dX11_init_65 : decode cX11_init 65 = .ok (.dup, 1) := by decide +kernel
theorem dX11_init_66 : decode cX11_init 66 = .ok (.invokespecial 39, 3) := by decide +kernel
theorem dX11_init_69 : decode cX11_init 69 = .ok (.putfield 44, 3) := by decide +kernel
theorem dX11_init_72 : decode cX11_init 72 = .ok (.aload_n 0, 1) := by decide +kernel
theorem dX11_init_73 : decode cX11_init 73 = .ok (.new 47, 3) := by decide +kernel
theorem dX11_init_76 : decode cX11_init 76 = .ok (.dup, 1) := by decide +kernel
theorem dX11_init_77 : decode cX11_init 77 = .ok (.invokespecial 49, 3) := by decide +kernel
theorem dX11_init_80 : decode cX11_init 80 = .ok (.putfield 50, 3) := by decide +kernel
theorem dX11_init_83 : decode cX11_init 83 = .ok (.aload_n 0, 1) := by decide +kernel
theorem dX11_init_84 : decode cX11_init 84 = .ok (.new 47, 3) := by decide +kernel
theorem dX11_init_87 : decode cX11_init 87 = .ok (.dup, 1) := by decide +kernel
theorem dX11_init_88 : decode cX11_init 88 = .ok (.invokespecial 49, 3) := by decide +kernel
theorem dX11_init_91 : decode cX11_init 91 = .ok (.putfield 54, 3) := by decide +kernel
theorem dX11_init_94 : decode cX11_init 94 = .ok (.aload_n 0, 1) := by decide +kernel
theorem dX11_init_95 : decode cX11_init 95 = .ok (.new 57, 3) := by decide +kernel
theorem dX11_init_98 : decode cX11_init 98 = .ok (.dup, 1) := by decide +kernel
theorem dX11_init_99 : decode cX11_init 99 = .ok (.aload_n 1, 1) := by decide +kernel
theorem dX11_init_100 : decode cX11_init 100 = .ok (.aload_n 0, 1) := by decide +kernel
theorem dX11_init_101 : decode cX11_init 101 = .ok (.getfield 54, 3) := by decide +kernel
theorem dX11_init_104 : decode cX11_init 104 = .ok (.invokespecial 59, 3) := by decide +kernel
theorem dX11_init_107 : decode cX11_init 107 = .ok (.putfield 62, 3) := by decide +kernel
theorem dX11_init_110 : decode cX11_init 110 = .ok (.aload_n 0, 1) := by decide +kernel
theorem dX11_init_111 : decode cX11_init 111 = .ok (.new 66, 3) := by decide +kernel
theorem dX11_init_114 : decode cX11_init 114 = .ok (.dup, 1) := by decide +kernel
theorem dX11_init_115 : decode cX11_init 115 = .ok (.aload_n 0, 1) := by decide +kernel
theorem dX11_init_116 : decode cX11_init 116 = .ok (.getfield 33, 3) := by decide +kernel
theorem dX11_init_119 : decode cX11_init 119 = .ok (.aload_n 0, 1) := by decide +kernel
theorem dX11_init_120 : decode cX11_init 120 = .ok (.getfield 40, 3) := by decide +kernel
theorem dX11_init_123 : decode cX11_init 123 = .ok (.aload_n 0, 1) := by decide +kernel
theorem dX11_init_124 : decode cX11_init 124 = .ok (.getfield 26, 3) := by decide +kernel
theorem dX11_init_127 : decode cX11_init 127 = .ok (.invokespecial 68, 3) := by decide +kernel
theorem dX11_init_130 : decode cX11_init 130 = .ok (.putfield 71, 3) := by decide +kernel
theorem dX11_init_133 : decode cX11_init 133 = .ok (.aload_n 0, 1) := by decide +kernel
theorem dX11_init_134 : decode cX11_init 134 = .ok (.new 75, 3) := by decide +kernel
theorem dX11_init_137 : decode cX11_init 137 = .ok (.dup, 1) := by decide +kernel
theorem dX11_init_138 : decode cX11_init 138 = .ok (.aload_n 0, 1) := by decide +kernel
theorem dX11_init_139 : decode cX11_init 139 = .ok (.getfield 33, 3) := by decide +kernel
theorem dX11_init_142 : decode cX11_init 142 = .ok (.aload_n 0, 1) := by decide +kernel
theorem dX11_init_143 : decode cX11_init 143 = .ok (.getfield 40, 3) := by decide +kernel
theorem dX11_init_146 : decode cX11_init 146 = .ok (.aload_n 0, 1) := by decide +kernel
theorem dX11_init_147 : decode cX11_init 147 = .ok (.getfield 71, 3) := by decide +kernel
theorem dX11_init_150 : decode cX11_init 150 = .ok (.invokespecial 77, 3) := by decide +kernel
theorem dX11_init_153 : decode cX11_init 153 = .ok (.putfield 80, 3) := by decide +kernel
theorem dX11_init_156 : decode cX11_init 156 = .ok (.aload_n 0, 1) := by decide +kernel
theorem dX11_init_157 : decode cX11_init 157 = .ok (.new 84, 3) := by decide +kernel
theorem dX11_init_160 : decode cX11_init 160 = .ok (.dup, 1) := by decide +kernel
theorem dX11_init_161 : decode cX11_init 161 = .ok (.aload_n 0, 1) := by decide +kernel
theorem dX11_init_162 : decode cX11_init 162 = .ok (.getfield 33, 3) := by decide +kernel
theorem dX11_init_165 : decode cX11_init 165 = .ok (.aload_n 0, 1) := by decide +kernel
theorem dX11_init_166 : decode cX11_init 166 = .ok (.getfield 40, 3) := by decide +kernel
theorem dX11_init_169 : decode cX11_init 169 = .ok (.aload_n 0, 1) := by decide +kernel
theorem dX11_init_170 : decode cX11_init 170 = .ok (.getfield 50, 3) := by decide +kernel
theorem dX11_init_173 : decode cX11_init 173 = .ok (.aload_n 0, 1) := by decide +kernel
theorem dX11_init_174 : decode cX11_init 174 = .ok (.getfield 71, 3) := by decide +kernel
theorem dX11_init_177 : decode cX11_init 177 = .ok (.invokespecial 86, 3) := by decide +kernel
theorem dX11_init_180 : decode cX11_init 180 = .ok (.putfield 89, 3) := by decide +kernel
theorem dX11_init_183 : decode cX11_init 183 = .ok (.aload_n 0, 1) := by decide +kernel
theorem dX11_init_184 : decode cX11_init 184 = .ok (.new 93, 3) := by decide +kernel
theorem dX11_init_187 : decode cX11_init 187 = .ok (.dup, 1) := by decide +kernel
theorem dX11_init_188 : decode cX11_init 188 = .ok (.aload_n 0, 1) := by decide +kernel
theorem dX11_init_189 : decode cX11_init 189 = .ok (.getfield 33, 3) := by decide +kernel
theorem dX11_init_192 : decode cX11_init 192 = .ok (.aload_n 0, 1) := by decide +kernel
theorem dX11_init_193 : decode cX11_init 193 = .ok (.getfield 40, 3) := by decide +kernel
theorem dX11_init_196 : decode cX11_init 196 = .ok (.aload_n 0, 1) := by decide +kernel
theorem dX11_init_197 : decode cX11_init 197 = .ok (.getfield 71, 3) := by decide +kernel
theorem dX11_init_200 : decode cX11_init 200 = .ok (.invokespecial 95, 3) := by decide +kernel
theorem dX11_init_203 : decode cX11_init 203 = .ok (.putfield 96, 3) := by decide +kernel
theorem dX11_init_206 : decode cX11_init 206 = .ok (.return_, 1) := by decide +kernel
theorem dX11_feed_0 : decode cX11_feed 0 = .ok (.aload_n 0, 1) := by decide +kernel
theorem dX11_feed_1 : decode cX11_feed 1 = .ok (.getfield 12, 3) := by decide +kernel
theorem dX11_feed_4 : decode cX11_feed 4 = .ok (.invokevirtual 100, 3) := by decide +kernel
theorem dX11_feed_7 : decode cX11_feed 7 = .ok (.bipush 20, 2) := by decide +kernel
theorem dX11_feed_9 : decode cX11_feed 9 = .ok (.iadd, 1) := by decide +kernel
theorem dX11_feed_10 : decode cX11_feed 10 = .ok (.sipush 200, 3) := by decide +kernel
theorem dX11_feed_13 : decode cX11_feed 13 = .ok (.if_icmp .le 5, 3) := by decide +kernel
theorem dX11_feed_16 : decode cX11_feed 16 = .ok (.iconst (-1), 1) := by decide +kernel
theorem dX11_feed_17 : decode cX11_feed 17 = .ok (.ireturn, 1) := by decide +kernel
theorem dX11_feed_18 : decode cX11_feed 18 = .ok (.aload_n 0, 1) := by decide +kernel
theorem dX11_feed_19 : decode cX11_feed 19 = .ok (.getfield 12, 3) := by decide +kernel
theorem dX11_feed_22 : decode cX11_feed 22 = .ok (.iload_n 1, 1) := by decide +kernel
theorem dX11_feed_23 : decode cX11_feed 23 = .ok (.invokevirtual 104, 3) := by decide +kernel
theorem dX11_feed_26 : decode cX11_feed 26 = .ok (.aload_n 0, 1) := by decide +kernel
theorem dX11_feed_27 : decode cX11_feed 27 = .ok (.getfield 12, 3) := by decide +kernel
theorem dX11_feed_30 : decode cX11_feed 30 = .ok (.iload_n 2, 1) := by decide +kernel
theorem dX11_feed_31 : decode cX11_feed 31 = .ok (.invokevirtual 104, 3) := by decide +kernel
theorem dX11_feed_34 : decode cX11_feed 34 = .ok (.aload_n 0, 1) := by decide +kernel
theorem dX11_feed_35 : decode cX11_feed 35 = .ok (.getfield 12, 3) := by decide +kernel
theorem dX11_feed_38 : decode cX11_feed 38 = .ok (.iload_n 3, 1) := by decide +kernel
theorem dX11_feed_39 : decode cX11_feed 39 = .ok (.invokevirtual 104, 3) := by decide +kernel
theorem dX11_feed_42 : decode cX11_feed 42 = .ok (.aload_n 0, 1) := by decide +kernel
theorem dX11_feed_43 : decode cX11_feed 43 = .ok (.getfield 12, 3) := by decide +kernel
theorem dX11_feed_46 : decode cX11_feed 46 = .ok (.iload 4, 2) := by decide +kernel
theorem dX11_feed_48 : decode cX11_feed 48 = .ok (.invokevirtual 104, 3) := by decide +kernel
theorem dX11_feed_51 : decode cX11_feed 51 = .ok (.aload_n 0, 1) := by decide +kernel
theorem dX11_feed_52 : decode cX11_feed 52 = .ok (.getfield 12, 3) := by decide +kernel
theorem dX11_feed_55 : decode cX11_feed 55 = .ok (.iload 5, 2) := by decide +kernel
theorem dX11_feed_57 : decode cX11_feed 57 = .ok (.invokevirtual 104, 3) := by decide +kernel
theorem dX11_feed_60 : decode cX11_feed 60 = .ok (.aload_n 0, 1) := by decide +kernel
theorem dX11_feed_61 : decode cX11_feed 61 = .ok (.getfield 12, 3) := by decide +kernel
theorem dX11_feed_64 : decode cX11_feed 64 = .ok (.invokevirtual 100, 3) := by decide +kernel
theorem dX11_feed_67 : decode cX11_feed 67 = .ok (.ireturn, 1) := by decide +kernel
theorem dX11_day_0 : decode cX11_day 0 = .ok (.iload_n 1, 1) := by decide +kernel
theorem dX11_day_1 : decode cX11_day 1 = .ok (.bipush 12, 2) := by decide +kernel
theorem dX11_day_3 : decode cX11_day 3 = .ok (.invokestatic 108, 3) := by decide +kernel
theorem dX11_day_6 : decode cX11_day 6 = .ok (.ifCond .eq 25, 3) := by decide +kernel
theorem dX11_day_9 : decode cX11_day 9 = .ok (.iload_n 2, 1) := by decide +kernel
theorem dX11_day_10 : decode cX11_day 10 = .ok (.iconst 1, 1) := by decide +kernel
theorem dX11_day_11 : decode cX11_day 11 = .ok (.if_icmp .lt 20, 3) := by decide +kernel
theorem dX11_day_14 : decode cX11_day 14 = .ok (.iload_n 2, 1) := by decide +kernel
theorem dX11_day_15 : decode cX11_day 15 = .ok (.bipush 120, 2) := by decide +kernel
theorem dX11_day_17 : decode cX11_day 17 = .ok (.if_icmp .gt 14, 3) := by decide +kernel
theorem dX11_day_20 : decode cX11_day 20 = .ok (.iload_n 2, 1) := by decide +kernel
theorem dX11_day_21 : decode cX11_day 21 = .ok (.aload_n 0, 1) := by decide +kernel
theorem dX11_day_22 : decode cX11_day 22 = .ok (.getfield 12, 3) := by decide +kernel
theorem dX11_day_25 : decode cX11_day 25 = .ok (.invokevirtual 100, 3) := by decide +kernel
theorem dX11_day_28 : decode cX11_day 28 = .ok (.if_icmp .le 5, 3) := by decide +kernel
theorem dX11_day_31 : decode cX11_day 31 = .ok (.iconst (-1), 1) := by decide +kernel
theorem dX11_day_32 : decode cX11_day 32 = .ok (.ireturn, 1) := by decide +kernel
theorem dX11_day_33 : decode cX11_day 33 = .ok (.aload_n 0, 1) := by decide +kernel
theorem dX11_day_34 : decode cX11_day 34 = .ok (.getfield 26, 3) := by decide +kernel
theorem dX11_day_37 : decode cX11_day 37 = .ok (.iload_n 1, 1) := by decide +kernel
theorem dX11_day_38 : decode cX11_day 38 = .ok (.iload_n 2, 1) := by decide +kernel
theorem dX11_day_39 : decode cX11_day 39 = .ok (.invokevirtual 112, 3) := by decide +kernel
theorem dX11_day_42 : decode cX11_day 42 = .ok (.istore_n 3, 1) := by decide +kernel
theorem dX11_day_43 : decode cX11_day 43 = .ok (.aload_n 0, 1) := by decide +kernel
theorem dX11_day_44 : decode cX11_day 44 = .ok (.getfield 12, 3) := by decide +kernel
theorem dX11_day_47 : decode cX11_day 47 = .ok (.invokevirtual 116, 3) := by decide +kernel
theorem dX11_day_50 : decode cX11_day 50 = .ok (.iload_n 3, 1) := by decide +kernel
theorem dX11_day_51 : decode cX11_day 51 = .ok (.ireturn, 1) := by decide +kernel
theorem dX11_dayIs_0 : decode cX11_dayIs 0 = .ok (.aload_n 0, 1) := by decide +kernel
theorem dX11_dayIs_1 : decode cX11_dayIs 1 = .ok (.getfield 26, 3) := by decide +kernel
theorem dX11_dayIs_4 : decode cX11_dayIs 4 = .ok (.iload_n 1, 1) := by decide +kernel
theorem dX11_dayIs_5 : decode cX11_dayIs 5 = .ok (.invokevirtual 119, 3) := by decide +kernel
theorem dX11_dayIs_8 : decode cX11_dayIs 8 = .ok (.ifCond .eq 20, 3) := by decide +kernel
theorem dX11_dayIs_11 : decode cX11_dayIs 11 = .ok (.iload_n 2, 1) := by decide +kernel
theorem dX11_dayIs_12 : decode cX11_dayIs 12 = .ok (.iconst 3, 1) := by decide +kernel
theorem dX11_dayIs_13 : decode cX11_dayIs 13 = .ok (.invokestatic 108, 3) := by decide +kernel
theorem dX11_dayIs_16 : decode cX11_dayIs 16 = .ok (.ifCond .eq 12, 3) := by decide +kernel
theorem dX11_dayIs_19 : decode cX11_dayIs 19 = .ok (.iload_n 3, 1) := by decide +kernel
theorem dX11_dayIs_20 : decode cX11_dayIs 20 = .ok (.bipush 24, 2) := by decide +kernel
theorem dX11_dayIs_22 : decode cX11_dayIs 22 = .ok (.invokestatic 108, 3) := by decide +kernel
theorem dX11_dayIs_25 : decode cX11_dayIs 25 = .ok (.ifCond .ne 5, 3) := by decide +kernel
theorem dX11_dayIs_28 : decode cX11_dayIs 28 = .ok (.iconst (-1), 1) := by decide +kernel
theorem dX11_dayIs_29 : decode cX11_dayIs 29 = .ok (.ireturn, 1) := by decide +kernel
theorem dX11_dayIs_30 : decode cX11_dayIs 30 = .ok (.aload_n 0, 1) := by decide +kernel
theorem dX11_dayIs_31 : decode cX11_dayIs 31 = .ok (.getfield 26, 3) := by decide +kernel
theorem dX11_dayIs_34 : decode cX11_dayIs 34 = .ok (.iload_n 1, 1) := by decide +kernel
theorem dX11_dayIs_35 : decode cX11_dayIs 35 = .ok (.invokevirtual 123, 3) := by decide +kernel
theorem dX11_dayIs_38 : decode cX11_dayIs 38 = .ok (.iload_n 2, 1) := by decide +kernel
theorem dX11_dayIs_39 : decode cX11_dayIs 39 = .ok (.bipush 24, 2) := by decide +kernel
theorem dX11_dayIs_41 : decode cX11_dayIs 41 = .ok (.imul, 1) := by decide +kernel
theorem dX11_dayIs_42 : decode cX11_dayIs 42 = .ok (.iload_n 3, 1) := by decide +kernel
theorem dX11_dayIs_43 : decode cX11_dayIs 43 = .ok (.iadd, 1) := by decide +kernel
theorem dX11_dayIs_44 : decode cX11_dayIs 44 = .ok (.iaload, 1) := by decide +kernel
theorem dX11_dayIs_45 : decode cX11_dayIs 45 = .ok (.ireturn, 1) := by decide +kernel
theorem dX11_room_0 : decode cX11_room 0 = .ok (.iload_n 1, 1) := by decide +kernel
theorem dX11_room_1 : decode cX11_room 1 = .ok (.iconst 4, 1) := by decide +kernel
theorem dX11_room_2 : decode cX11_room 2 = .ok (.invokestatic 108, 3) := by decide +kernel
theorem dX11_room_5 : decode cX11_room 5 = .ok (.ifCond .eq 15, 3) := by decide +kernel
theorem dX11_room_8 : decode cX11_room 8 = .ok (.aload_n 0, 1) := by decide +kernel
theorem dX11_room_9 : decode cX11_room 9 = .ok (.getfield 33, 3) := by decide +kernel
theorem dX11_room_12 : decode cX11_room 12 = .ok (.getfield 127, 3) := by decide +kernel
theorem dX11_room_15 : decode cX11_room 15 = .ok (.bipush 10, 2) := by decide +kernel
theorem dX11_room_17 : decode cX11_room 17 = .ok (.if_icmp .lt 5, 3) := by decide +kernel
theorem dX11_room_20 : decode cX11_room 20 = .ok (.iconst (-1), 1) := by decide +kernel
theorem dX11_room_21 : decode cX11_room 21 = .ok (.ireturn, 1) := by decide +kernel
theorem dX11_room_22 : decode cX11_room 22 = .ok (.aload_n 0, 1) := by decide +kernel
theorem dX11_room_23 : decode cX11_room 23 = .ok (.getfield 33, 3) := by decide +kernel
theorem dX11_room_26 : decode cX11_room 26 = .ok (.getfield 131, 3) := by decide +kernel
theorem dX11_room_29 : decode cX11_room 29 = .ok (.aload_n 0, 1) := by decide +kernel
theorem dX11_room_30 : decode cX11_room 30 = .ok (.getfield 33, 3) := by decide +kernel
theorem dX11_room_33 : decode cX11_room 33 = .ok (.getfield 127, 3) := by decide +kernel
theorem dX11_room_36 : decode cX11_room 36 = .ok (.iload_n 1, 1) := by decide +kernel
theorem dX11_room_37 : decode cX11_room 37 = .ok (.iastore, 1) := by decide +kernel
theorem dX11_room_38 : decode cX11_room 38 = .ok (.aload_n 0, 1) := by decide +kernel
theorem dX11_room_39 : decode cX11_room 39 = .ok (.getfield 33, 3) := by decide +kernel
theorem dX11_room_42 : decode cX11_room 42 = .ok (.dup, 1) := by decide +kernel
theorem dX11_room_43 : decode cX11_room 43 = .ok (.getfield 127, 3) := by decide +kernel
theorem dX11_room_46 : decode cX11_room 46 = .ok (.iconst 1, 1) := by decide +kernel
theorem dX11_room_47 : decode cX11_room 47 = .ok (.iadd, 1) := by decide +kernel
theorem dX11_room_48 : decode cX11_room 48 = .ok (.putfield 127, 3) := by decide +kernel
theorem dX11_room_51 : decode cX11_room 51 = .ok (.aload_n 0, 1) := by decide +kernel
theorem dX11_room_52 : decode cX11_room 52 = .ok (.getfield 33, 3) := by decide +kernel
theorem dX11_room_55 : decode cX11_room 55 = .ok (.getfield 127, 3) := by decide +kernel
theorem dX11_room_58 : decode cX11_room 58 = .ok (.iconst 1, 1) := by decide +kernel
theorem dX11_room_59 : decode cX11_room 59 = .ok (.isub, 1) := by decide +kernel
theorem dX11_room_60 : decode cX11_room 60 = .ok (.ireturn, 1) := by decide +kernel
theorem dX11_plant_0 : decode cX11_plant 0 = .ok (.iload_n 1, 1) := by decide +kernel
theorem dX11_plant_1 : decode cX11_plant 1 = .ok (.iconst 3, 1) := by decide +kernel
theorem dX11_plant_2 : decode cX11_plant 2 = .ok (.invokestatic 108, 3) := by decide +kernel
theorem dX11_plant_5 : decode cX11_plant 5 = .ok (.ifCond .eq 23, 3) := by decide +kernel
theorem dX11_plant_8 : decode cX11_plant 8 = .ok (.iload_n 2, 1) := by decide +kernel
theorem dX11_plant_9 : decode cX11_plant 9 = .ok (.sipush 999, 3) := by decide +kernel
theorem dX11_plant_12 : decode cX11_plant 12 = .ok (.invokestatic 135, 3) := by decide +kernel
theorem dX11_plant_15 : decode cX11_plant 15 = .ok (.ifCond .eq 13, 3) := by decide +kernel
theorem dX11_plant_18 : decode cX11_plant 18 = .ok (.iload_n 3, 1) := by decide +kernel
theorem dX11_plant_19 : decode cX11_plant 19 = .ok (.sipush 999, 3) := by decide +kernel
theorem dX11_plant_22 : decode cX11_plant 22 = .ok (.invokestatic 135, 3) := by decide +kernel
theorem dX11_plant_25 : decode cX11_plant 25 = .ok (.ifCond .ne 5, 3) := by decide +kernel
theorem dX11_plant_28 : decode cX11_plant 28 = .ok (.iconst 0, 1) := by decide +kernel
theorem dX11_plant_29 : decode cX11_plant 29 = .ok (.ireturn, 1) := by decide +kernel
theorem dX11_plant_30 : decode cX11_plant 30 = .ok (.aload_n 0, 1) := by decide +kernel
theorem dX11_plant_31 : decode cX11_plant 31 = .ok (.getfield 33, 3) := by decide +kernel
theorem dX11_plant_34 : decode cX11_plant 34 = .ok (.getfield 138, 3) := by decide +kernel
theorem dX11_plant_37 : decode cX11_plant 37 = .ok (.iload_n 1, 1) := by decide +kernel
theorem dX11_plant_38 : decode cX11_plant 38 = .ok (.iload_n 2, 1) := by decide +kernel
theorem dX11_plant_39 : decode cX11_plant 39 = .ok (.iastore, 1) := by decide +kernel
theorem dX11_plant_40 : decode cX11_plant 40 = .ok (.aload_n 0, 1) := by decide +kernel
theorem dX11_plant_41 : decode cX11_plant 41 = .ok (.getfield 33, 3) := by decide +kernel
theorem dX11_plant_44 : decode cX11_plant 44 = .ok (.getfield 141, 3) := by decide +kernel
theorem dX11_plant_47 : decode cX11_plant 47 = .ok (.iload_n 1, 1) := by decide +kernel
theorem dX11_plant_48 : decode cX11_plant 48 = .ok (.iload_n 3, 1) := by decide +kernel
theorem dX11_plant_49 : decode cX11_plant 49 = .ok (.iastore, 1) := by decide +kernel
theorem dX11_plant_50 : decode cX11_plant 50 = .ok (.iconst 1, 1) := by decide +kernel
theorem dX11_plant_51 : decode cX11_plant 51 = .ok (.ireturn, 1) := by decide +kernel
theorem dX11_pipes_0 : decode cX11_pipes 0 = .ok (.iload_n 1, 1) := by decide +kernel
theorem dX11_pipes_1 : decode cX11_pipes 1 = .ok (.iconst 4, 1) := by decide +kernel
theorem dX11_pipes_2 : decode cX11_pipes 2 = .ok (.invokestatic 108, 3) := by decide +kernel
theorem dX11_pipes_5 : decode cX11_pipes 5 = .ok (.ifCond .eq 13, 3) := by decide +kernel
theorem dX11_pipes_8 : decode cX11_pipes 8 = .ok (.iload_n 2, 1) := by decide +kernel
theorem dX11_pipes_9 : decode cX11_pipes 9 = .ok (.sipush 999, 3) := by decide +kernel
theorem dX11_pipes_12 : decode cX11_pipes 12 = .ok (.invokestatic 135, 3) := by decide +kernel
theorem dX11_pipes_15 : decode cX11_pipes 15 = .ok (.ifCond .ne 5, 3) := by decide +kernel
theorem dX11_pipes_18 : decode cX11_pipes 18 = .ok (.iconst 0, 1) := by decide +kernel
theorem dX11_pipes_19 : decode cX11_pipes 19 = .ok (.ireturn, 1) := by decide +kernel
theorem dX11_pipes_20 : decode cX11_pipes 20 = .ok (.aload_n 0, 1) := by decide +kernel
theorem dX11_pipes_21 : decode cX11_pipes 21 = .ok (.getfield 33, 3) := by decide +kernel
theorem dX11_pipes_24 : decode cX11_pipes 24 = .ok (.getfield 144, 3) := by decide +kernel
theorem dX11_pipes_27 : decode cX11_pipes 27 = .ok (.iload_n 1, 1) := by decide +kernel
theorem dX11_pipes_28 : decode cX11_pipes 28 = .ok (.iload_n 2, 1) := by decide +kernel
theorem dX11_pipes_29 : decode cX11_pipes 29 = .ok (.iastore, 1) := by decide +kernel
theorem dX11_pipes_30 : decode cX11_pipes 30 = .ok (.iconst 1, 1) := by decide +kernel
theorem dX11_pipes_31 : decode cX11_pipes 31 = .ok (.ireturn, 1) := by decide +kernel
theorem dX11_cellar_0 : decode cX11_cellar 0 = .ok (.iload_n 1, 1) := by decide +kernel
theorem dX11_cellar_1 : decode cX11_cellar 1 = .ok (.sipush 9999, 3) := by decide +kernel
theorem dX11_cellar_4 : decode cX11_cellar 4 = .ok (.invokestatic 135, 3) := by decide +kernel
theorem dX11_cellar_7 : decode cX11_cellar 7 = .ok (.ifCond .eq 12, 3) := by decide +kernel
theorem dX11_cellar_10 : decode cX11_cellar 10 = .ok (.iload_n 2, 1) := by decide +kernel
theorem dX11_cellar_11 : decode cX11_cellar 11 = .ok (.bipush 99, 2) := by decide +kernel
theorem dX11_cellar_13 : decode cX11_cellar 13 = .ok (.invokestatic 135, 3) := by decide +kernel
theorem dX11_cellar_16 : decode cX11_cellar 16 = .ok (.ifCond .ne 5, 3) := by decide +kernel
theorem dX11_cellar_19 : decode cX11_cellar 19 = .ok (.iconst 0, 1) := by decide +kernel
theorem dX11_cellar_20 : decode cX11_cellar 20 = .ok (.ireturn, 1) := by decide +kernel
theorem dX11_cellar_21 : decode cX11_cellar 21 = .ok (.aload_n 0, 1) := by decide +kernel
theorem dX11_cellar_22 : decode cX11_cellar 22 = .ok (.getfield 33, 3) := by decide +kernel
theorem dX11_cellar_25 : decode cX11_cellar 25 = .ok (.iload_n 1, 1) := by decide +kernel
theorem dX11_cellar_26 : decode cX11_cellar 26 = .ok (.putfield 147, 3) := by decide +kernel
theorem dX11_cellar_29 : decode cX11_cellar 29 = .ok (.aload_n 0, 1) := by decide +kernel
theorem dX11_cellar_30 : decode cX11_cellar 30 = .ok (.getfield 33, 3) := by decide +kernel
theorem dX11_cellar_33 : decode cX11_cellar 33 = .ok (.iload_n 2, 1) := by decide +kernel
theorem dX11_cellar_34 : decode cX11_cellar 34 = .ok (.putfield 150, 3) := by decide +kernel
theorem dX11_cellar_37 : decode cX11_cellar 37 = .ok (.iconst 1, 1) := by decide +kernel
theorem dX11_cellar_38 : decode cX11_cellar 38 = .ok (.ireturn, 1) := by decide +kernel
theorem dX11_stay_0 : decode cX11_stay 0 = .ok (.iload_n 1, 1) := by decide +kernel
theorem dX11_stay_1 : decode cX11_stay 1 = .ok (.bipush 10, 2) := by decide +kernel
theorem dX11_stay_3 : decode cX11_stay 3 = .ok (.invokestatic 108, 3) := by decide +kernel
theorem dX11_stay_6 : decode cX11_stay 6 = .ok (.ifCond .eq 39, 3) := by decide +kernel
theorem dX11_stay_9 : decode cX11_stay 9 = .ok (.iload_n 2, 1) := by decide +kernel
theorem dX11_stay_10 : decode cX11_stay 10 = .ok (.aload_n 0, 1) := by decide +kernel
theorem dX11_stay_11 : decode cX11_stay 11 = .ok (.getfield 33, 3) := by decide +kernel
theorem dX11_stay_14 : decode cX11_stay 14 = .ok (.getfield 127, 3) := by decide +kernel
theorem dX11_stay_17 : decode cX11_stay 17 = .ok (.invokestatic 108, 3) := by decide +kernel
theorem dX11_stay_20 : decode cX11_stay 20 = .ok (.ifCond .eq 25, 3) := by decide +kernel
theorem dX11_stay_23 : decode cX11_stay 23 = .ok (.aload_n 0, 1) := by decide +kernel
theorem dX11_stay_24 : decode cX11_stay 24 = .ok (.getfield 26, 3) := by decide +kernel
theorem dX11_stay_27 : decode cX11_stay 27 = .ok (.iload_n 3, 1) := by decide +kernel
theorem dX11_stay_28 : decode cX11_stay 28 = .ok (.invokevirtual 119, 3) := by decide +kernel
theorem dX11_stay_31 : decode cX11_stay 31 = .ok (.ifCond .eq 14, 3) := by decide +kernel
theorem dX11_stay_34 : decode cX11_stay 34 = .ok (.iload 4, 2) := by decide +kernel
theorem dX11_stay_36 : decode cX11_stay 36 = .ok (.sipush 999, 3) := by decide +kernel
theorem dX11_stay_39 : decode cX11_stay 39 = .ok (.invokestatic 135, 3) := by decide +kernel
theorem dX11_stay_42 : decode cX11_stay 42 = .ok (.ifCond .ne 5, 3) := by decide +kernel
theorem dX11_stay_45 : decode cX11_stay 45 = .ok (.iconst 0, 1) := by decide +kernel
theorem dX11_stay_46 : decode cX11_stay 46 = .ok (.ireturn, 1) := by decide +kernel
theorem dX11_stay_47 : decode cX11_stay 47 = .ok (.aload_n 0, 1) := by decide +kernel
theorem dX11_stay_48 : decode cX11_stay 48 = .ok (.getfield 40, 3) := by decide +kernel
theorem dX11_stay_51 : decode cX11_stay 51 = .ok (.iload_n 2, 1) := by decide +kernel
theorem dX11_stay_52 : decode cX11_stay 52 = .ok (.invokevirtual 153, 3) := by decide +kernel
theorem dX11_stay_55 : decode cX11_stay 55 = .ok (.istore 5, 2) := by decide +kernel
theorem dX11_stay_57 : decode cX11_stay 57 = .ok (.iload 5, 2) := by decide +kernel
theorem dX11_stay_59 : decode cX11_stay 59 = .ok (.iconst (-1), 1) := by decide +kernel
theorem dX11_stay_60 : decode cX11_stay 60 = .ok (.if_icmp .eq 11, 3) := by decide +kernel
theorem dX11_stay_63 : decode cX11_stay 63 = .ok (.iload 5, 2) := by decide +kernel
theorem dX11_stay_65 : decode cX11_stay 65 = .ok (.iload_n 1, 1) := by decide +kernel
theorem dX11_stay_66 : decode cX11_stay 66 = .ok (.if_icmp .eq 5, 3) := by decide +kernel
theorem dX11_stay_69 : decode cX11_stay 69 = .ok (.iconst 0, 1) := by decide +kernel
theorem dX11_stay_70 : decode cX11_stay 70 = .ok (.ireturn, 1) := by decide +kernel
theorem dX11_stay_71 : decode cX11_stay 71 = .ok (.aload_n 0, 1) := by decide +kernel
theorem dX11_stay_72 : decode cX11_stay 72 = .ok (.getfield 40, 3) := by decide +kernel
theorem dX11_stay_75 : decode cX11_stay 75 = .ok (.iload_n 1, 1) := by decide +kernel
theorem dX11_stay_76 : decode cX11_stay 76 = .ok (.iload_n 2, 1) := by decide +kernel
theorem dX11_stay_77 : decode cX11_stay 77 = .ok (.iload_n 3, 1) := by decide +kernel
theorem dX11_stay_78 : decode cX11_stay 78 = .ok (.iload 4, 2) := by decide +kernel
theorem dX11_stay_80 : decode cX11_stay 80 = .ok (.invokevirtual 157, 3) := by decide +kernel
theorem dX11_stay_83 : decode cX11_stay 83 = .ok (.iconst 1, 1) := by decide +kernel
theorem dX11_stay_84 : decode cX11_stay 84 = .ok (.ireturn, 1) := by decide +kernel
theorem dX11_leave_0 : decode cX11_leave 0 = .ok (.aload_n 0, 1) := by decide +kernel
theorem dX11_leave_1 : decode cX11_leave 1 = .ok (.getfield 40, 3) := by decide +kernel
theorem dX11_leave_4 : decode cX11_leave 4 = .ok (.iload_n 1, 1) := by decide +kernel
theorem dX11_leave_5 : decode cX11_leave 5 = .ok (.invokevirtual 161, 3) := by decide +kernel
theorem dX11_leave_8 : decode cX11_leave 8 = .ok (.ifCond .ne 5, 3) := by decide +kernel
theorem dX11_leave_11 : decode cX11_leave 11 = .ok (.iconst 0, 1) := by decide +kernel
theorem dX11_leave_12 : decode cX11_leave 12 = .ok (.ireturn, 1) := by decide +kernel
theorem dX11_leave_13 : decode cX11_leave 13 = .ok (.aload_n 0, 1) := by decide +kernel
theorem dX11_leave_14 : decode cX11_leave 14 = .ok (.getfield 40, 3) := by decide +kernel
theorem dX11_leave_17 : decode cX11_leave 17 = .ok (.dup, 1) := by decide +kernel
theorem dX11_leave_18 : decode cX11_leave 18 = .ok (.getfield 164, 3) := by decide +kernel
theorem dX11_leave_21 : decode cX11_leave 21 = .ok (.iconst 1, 1) := by decide +kernel
theorem dX11_leave_22 : decode cX11_leave 22 = .ok (.iload_n 1, 1) := by decide +kernel
theorem dX11_leave_23 : decode cX11_leave 23 = .ok (.ishl, 1) := by decide +kernel
theorem dX11_leave_24 : decode cX11_leave 24 = .ok (.iconst (-1), 1) := by decide +kernel
theorem dX11_leave_25 : decode cX11_leave 25 = .ok (.ixor, 1) := by decide +kernel
theorem dX11_leave_26 : decode cX11_leave 26 = .ok (.iand, 1) := by decide +kernel
theorem dX11_leave_27 : decode cX11_leave 27 = .ok (.putfield 164, 3) := by decide +kernel
theorem dX11_leave_30 : decode cX11_leave 30 = .ok (.iconst 1, 1) := by decide +kernel
theorem dX11_leave_31 : decode cX11_leave 31 = .ok (.ireturn, 1) := by decide +kernel
theorem dX11_shift_0 : decode cX11_shift 0 = .ok (.aload_n 0, 1) := by decide +kernel
theorem dX11_shift_1 : decode cX11_shift 1 = .ok (.getfield 40, 3) := by decide +kernel
theorem dX11_shift_4 : decode cX11_shift 4 = .ok (.iload_n 1, 1) := by decide +kernel
theorem dX11_shift_5 : decode cX11_shift 5 = .ok (.invokevirtual 161, 3) := by decide +kernel
theorem dX11_shift_8 : decode cX11_shift 8 = .ok (.ifCond .eq 14, 3) := by decide +kernel
theorem dX11_shift_11 : decode cX11_shift 11 = .ok (.iload_n 2, 1) := by decide +kernel
theorem dX11_shift_12 : decode cX11_shift 12 = .ok (.bipush (-3), 2) := by decide +kernel
theorem dX11_shift_14 : decode cX11_shift 14 = .ok (.if_icmp .lt 8, 3) := by decide +kernel
theorem dX11_shift_17 : decode cX11_shift 17 = .ok (.iload_n 2, 1) := by decide +kernel
theorem dX11_shift_18 : decode cX11_shift 18 = .ok (.iconst 3, 1) := by decide +kernel
theorem dX11_shift_19 : decode cX11_shift 19 = .ok (.if_icmp .le 5, 3) := by decide +kernel
theorem dX11_shift_22 : decode cX11_shift 22 = .ok (.iconst 0, 1) := by decide +kernel
theorem dX11_shift_23 : decode cX11_shift 23 = .ok (.ireturn, 1) := by decide +kernel
theorem dX11_shift_24 : decode cX11_shift 24 = .ok (.aload_n 0, 1) := by decide +kernel
theorem dX11_shift_25 : decode cX11_shift 25 = .ok (.getfield 40, 3) := by decide +kernel
theorem dX11_shift_28 : decode cX11_shift 28 = .ok (.getfield 167, 3) := by decide +kernel
theorem dX11_shift_31 : decode cX11_shift 31 = .ok (.iload_n 1, 1) := by decide +kernel
theorem dX11_shift_32 : decode cX11_shift 32 = .ok (.iload_n 2, 1) := by decide +kernel
theorem dX11_shift_33 : decode cX11_shift 33 = .ok (.iastore, 1) := by decide +kernel
theorem dX11_shift_34 : decode cX11_shift 34 = .ok (.iconst 1, 1) := by decide +kernel
theorem dX11_shift_35 : decode cX11_shift 35 = .ok (.ireturn, 1) := by decide +kernel
theorem dX11_law_0 : decode cX11_law 0 = .ok (.iload_n 1, 1) := by decide +kernel
theorem dX11_law_1 : decode cX11_law 1 = .ok (.iconst 1, 1) := by decide +kernel
theorem dX11_law_2 : decode cX11_law 2 = .ok (.if_icmp .lt 21, 3) := by decide +kernel
theorem dX11_law_5 : decode cX11_law 5 = .ok (.iload_n 1, 1) := by decide +kernel
theorem dX11_law_6 : decode cX11_law 6 = .ok (.sipush 160, 3) := by decide +kernel
theorem dX11_law_9 : decode cX11_law 9 = .ok (.if_icmp .gt 14, 3) := by decide +kernel
theorem dX11_law_12 : decode cX11_law 12 = .ok (.iload_n 1, 1) := by decide +kernel
theorem dX11_law_13 : decode cX11_law 13 = .ok (.aload_n 0, 1) := by decide +kernel
theorem dX11_law_14 : decode cX11_law 14 = .ok (.getfield 12, 3) := by decide +kernel
theorem dX11_law_17 : decode cX11_law 17 = .ok (.invokevirtual 100, 3) := by decide +kernel
theorem dX11_law_20 : decode cX11_law 20 = .ok (.if_icmp .le 5, 3) := by decide +kernel
theorem dX11_law_23 : decode cX11_law 23 = .ok (.iconst (-1), 1) := by decide +kernel
theorem dX11_law_24 : decode cX11_law 24 = .ok (.ireturn, 1) := by decide +kernel
theorem dX11_law_25 : decode cX11_law 25 = .ok (.aload_n 0, 1) := by decide +kernel
theorem dX11_law_26 : decode cX11_law 26 = .ok (.getfield 62, 3) := by decide +kernel
theorem dX11_law_29 : decode cX11_law 29 = .ok (.iload_n 1, 1) := by decide +kernel
theorem dX11_law_30 : decode cX11_law 30 = .ok (.invokevirtual 170, 3) := by decide +kernel
theorem dX11_law_33 : decode cX11_law 33 = .ok (.istore_n 2, 1) := by decide +kernel
theorem dX11_law_34 : decode cX11_law 34 = .ok (.iload_n 2, 1) := by decide +kernel
theorem dX11_law_35 : decode cX11_law 35 = .ok (.ifCond .le 14, 3) := by decide +kernel
theorem dX11_law_38 : decode cX11_law 38 = .ok (.aload_n 0, 1) := by decide +kernel
theorem dX11_law_39 : decode cX11_law 39 = .ok (.getfield 50, 3) := by decide +kernel
theorem dX11_law_42 : decode cX11_law 42 = .ok (.aload_n 0, 1) := by decide +kernel
theorem dX11_law_43 : decode cX11_law 43 = .ok (.getfield 54, 3) := by decide +kernel
theorem dX11_law_46 : decode cX11_law 46 = .ok (.invokevirtual 173, 3) := by decide +kernel
theorem dX11_law_49 : decode cX11_law 49 = .ok (.aload_n 0, 1) := by decide +kernel
theorem dX11_law_50 : decode cX11_law 50 = .ok (.getfield 12, 3) := by decide +kernel
theorem dX11_law_53 : decode cX11_law 53 = .ok (.invokevirtual 116, 3) := by decide +kernel
theorem dX11_law_56 : decode cX11_law 56 = .ok (.iload_n 2, 1) := by decide +kernel
theorem dX11_law_57 : decode cX11_law 57 = .ok (.ireturn, 1) := by decide +kernel
theorem dX11_wants_0 : decode cX11_wants 0 = .ok (.iload_n 1, 1) := by decide +kernel
theorem dX11_wants_1 : decode cX11_wants 1 = .ok (.iconst 3, 1) := by decide +kernel
theorem dX11_wants_2 : decode cX11_wants 2 = .ok (.invokestatic 108, 3) := by decide +kernel
theorem dX11_wants_5 : decode cX11_wants 5 = .ok (.ifCond .eq 12, 3) := by decide +kernel
theorem dX11_wants_8 : decode cX11_wants 8 = .ok (.iload_n 2, 1) := by decide +kernel
theorem dX11_wants_9 : decode cX11_wants 9 = .ok (.bipush 24, 2) := by decide +kernel
theorem dX11_wants_11 : decode cX11_wants 11 = .ok (.invokestatic 108, 3) := by decide +kernel
theorem dX11_wants_14 : decode cX11_wants 14 = .ok (.ifCond .ne 5, 3) := by decide +kernel
theorem dX11_wants_17 : decode cX11_wants 17 = .ok (.iconst (-1), 1) := by decide +kernel
theorem dX11_wants_18 : decode cX11_wants 18 = .ok (.ireturn, 1) := by decide +kernel
theorem dX11_wants_19 : decode cX11_wants 19 = .ok (.aload_n 0, 1) := by decide +kernel
theorem dX11_wants_20 : decode cX11_wants 20 = .ok (.getfield 71, 3) := by decide +kernel
theorem dX11_wants_23 : decode cX11_wants 23 = .ok (.invokevirtual 177, 3) := by decide +kernel
theorem dX11_wants_26 : decode cX11_wants 26 = .ok (.aload_n 0, 1) := by decide +kernel
theorem dX11_wants_27 : decode cX11_wants 27 = .ok (.getfield 71, 3) := by decide +kernel
theorem dX11_wants_30 : decode cX11_wants 30 = .ok (.aload_n 0, 1) := by decide +kernel
theorem dX11_wants_31 : decode cX11_wants 31 = .ok (.getfield 40, 3) := by decide +kernel
theorem dX11_wants_34 : decode cX11_wants 34 = .ok (.getfield 164, 3) := by decide +kernel
theorem dX11_wants_37 : decode cX11_wants 37 = .ok (.invokevirtual 180, 3) := by decide +kernel
theorem dX11_wants_40 : decode cX11_wants 40 = .ok (.aload_n 0, 1) := by decide +kernel
theorem dX11_wants_41 : decode cX11_wants 41 = .ok (.getfield 71, 3) := by decide +kernel
theorem dX11_wants_44 : decode cX11_wants 44 = .ok (.getfield 183, 3) := by decide +kernel
theorem dX11_wants_47 : decode cX11_wants 47 = .ok (.iload_n 1, 1) := by decide +kernel
theorem dX11_wants_48 : decode cX11_wants 48 = .ok (.bipush 24, 2) := by decide +kernel
theorem dX11_wants_50 : decode cX11_wants 50 = .ok (.imul, 1) := by decide +kernel
theorem dX11_wants_51 : decode cX11_wants 51 = .ok (.iload_n 2, 1) := by decide +kernel
theorem dX11_wants_52 : decode cX11_wants 52 = .ok (.iadd, 1) := by decide +kernel
theorem dX11_wants_53 : decode cX11_wants 53 = .ok (.iaload, 1) := by decide +kernel
theorem dX11_wants_54 : decode cX11_wants 54 = .ok (.ireturn, 1) := by decide +kernel
theorem dX11_gets_0 : decode cX11_gets 0 = .ok (.aload_n 0, 1) := by decide +kernel
theorem dX11_gets_1 : decode cX11_gets 1 = .ok (.getfield 40, 3) := by decide +kernel
theorem dX11_gets_4 : decode cX11_gets 4 = .ok (.iload_n 1, 1) := by decide +kernel
theorem dX11_gets_5 : decode cX11_gets 5 = .ok (.invokevirtual 161, 3) := by decide +kernel
theorem dX11_gets_8 : decode cX11_gets 8 = .ok (.ifCond .eq 20, 3) := by decide +kernel
theorem dX11_gets_11 : decode cX11_gets 11 = .ok (.iload_n 2, 1) := by decide +kernel
theorem dX11_gets_12 : decode cX11_gets 12 = .ok (.iconst 3, 1) := by decide +kernel
theorem dX11_gets_13 : decode cX11_gets 13 = .ok (.invokestatic 108, 3) := by decide +kernel
theorem dX11_gets_16 : decode cX11_gets 16 = .ok (.ifCond .eq 12, 3) := by decide +kernel
theorem dX11_gets_19 : decode cX11_gets 19 = .ok (.iload_n 3, 1) := by decide +kernel
theorem dX11_gets_20 : decode cX11_gets 20 = .ok (.bipush 24, 2) := by decide +kernel
theorem dX11_gets_22 : decode cX11_gets 22 = .ok (.invokestatic 108, 3) := by decide +kernel
theorem dX11_gets_25 : decode cX11_gets 25 = .ok (.ifCond .ne 5, 3) := by decide +kernel
theorem dX11_gets_28 : decode cX11_gets 28 = .ok (.iconst (-1), 1) := by decide +kernel
theorem dX11_gets_29 : decode cX11_gets 29 = .ok (.ireturn, 1) := by decide +kernel
theorem dX11_gets_30 : decode cX11_gets 30 = .ok (.aload_n 0, 1) := by decide +kernel
theorem dX11_gets_31 : decode cX11_gets 31 = .ok (.getfield 89, 3) := by decide +kernel
theorem dX11_gets_34 : decode cX11_gets 34 = .ok (.invokevirtual 186, 3) := by decide +kernel
theorem dX11_gets_37 : decode cX11_gets 37 = .ok (.aload_n 0, 1) := by decide +kernel
theorem dX11_gets_38 : decode cX11_gets 38 = .ok (.getfield 89, 3) := by decide +kernel
theorem dX11_gets_41 : decode cX11_gets 41 = .ok (.getfield 189, 3) := by decide +kernel
theorem dX11_gets_44 : decode cX11_gets 44 = .ok (.iload_n 1, 1) := by decide +kernel
theorem dX11_gets_45 : decode cX11_gets 45 = .ok (.aaload, 1) := by decide +kernel
theorem dX11_gets_46 : decode cX11_gets 46 = .ok (.iload_n 2, 1) := by decide +kernel
theorem dX11_gets_47 : decode cX11_gets 47 = .ok (.bipush 24, 2) := by decide +kernel
theorem dX11_gets_49 : decode cX11_gets 49 = .ok (.imul, 1) := by decide +kernel
theorem dX11_gets_50 : decode cX11_gets 50 = .ok (.iload_n 3, 1) := by decide +kernel
theorem dX11_gets_51 : decode cX11_gets 51 = .ok (.iadd, 1) := by decide +kernel
theorem dX11_gets_52 : decode cX11_gets 52 = .ok (.iaload, 1) := by decide +kernel
theorem dX11_gets_53 : decode cX11_gets 53 = .ok (.ireturn, 1) := by decide +kernel
theorem dX11_served_0 : decode cX11_served 0 = .ok (.aload_n 0, 1) := by decide +kernel
theorem dX11_served_1 : decode cX11_served 1 = .ok (.getfield 40, 3) := by decide +kernel
theorem dX11_served_4 : decode cX11_served 4 = .ok (.iload_n 1, 1) := by decide +kernel
theorem dX11_served_5 : decode cX11_served 5 = .ok (.bipush 10, 2) := by decide +kernel
theorem dX11_served_7 : decode cX11_served 7 = .ok (.isub, 1) := by decide +kernel
theorem dX11_served_8 : decode cX11_served 8 = .ok (.invokevirtual 161, 3) := by decide +kernel
theorem dX11_served_11 : decode cX11_served 11 = .ok (.istore_n 2, 1) := by decide +kernel
theorem dX11_served_12 : decode cX11_served 12 = .ok (.iload_n 1, 1) := by decide +kernel
theorem dX11_served_13 : decode cX11_served 13 = .ok (.iconst 3, 1) := by decide +kernel
theorem dX11_served_14 : decode cX11_served 14 = .ok (.invokestatic 108, 3) := by decide +kernel
theorem dX11_served_17 : decode cX11_served 17 = .ok (.ifCond .ne 9, 3) := by decide +kernel
theorem dX11_served_20 : decode cX11_served 20 = .ok (.iload_n 2, 1) := by decide +kernel
theorem dX11_served_21 : decode cX11_served 21 = .ok (.ifCond .ne 5, 3) := by decide +kernel
theorem dX11_served_24 : decode cX11_served 24 = .ok (.iconst (-1), 1) := by decide +kernel
theorem dX11_served_25 : decode cX11_served 25 = .ok (.ireturn, 1) := by decide +kernel
theorem dX11_served_26 : decode cX11_served 26 = .ok (.aload_n 0, 1) := by decide +kernel
theorem dX11_served_27 : decode cX11_served 27 = .ok (.getfield 89, 3) := by decide +kernel
theorem dX11_served_30 : decode cX11_served 30 = .ok (.invokevirtual 186, 3) := by decide +kernel
theorem dX11_served_33 : decode cX11_served 33 = .ok (.iload_n 2, 1) := by decide +kernel
theorem dX11_served_34 : decode cX11_served 34 = .ok (.ifCond .eq 16, 3) := by decide +kernel
theorem dX11_served_37 : decode cX11_served 37 = .ok (.aload_n 0, 1) := by decide +kernel
theorem dX11_served_38 : decode cX11_served 38 = .ok (.getfield 89, 3) := by decide +kernel
theorem dX11_served_41 : decode cX11_served 41 = .ok (.getfield 193, 3) := by decide +kernel
theorem dX11_served_44 : decode cX11_served 44 = .ok (.iload_n 1, 1) := by decide +kernel
theorem dX11_served_45 : decode cX11_served 45 = .ok (.bipush 10, 2) := by decide +kernel
theorem dX11_served_47 : decode cX11_served 47 = .ok (.isub, 1) := by decide +kernel
theorem dX11_served_48 : decode cX11_served 48 = .ok (.iaload, 1) := by decide +kernel
theorem dX11_served_49 : decode cX11_served 49 = .ok (.ireturn, 1) := by decide +kernel
theorem dX11_served_50 : decode cX11_served 50 = .ok (.iload_n 1, 1) := by decide +kernel
theorem dX11_served_51 : decode cX11_served 51 = .ok (.ifCond .ne 11, 3) := by decide +kernel
theorem dX11_served_54 : decode cX11_served 54 = .ok (.aload_n 0, 1) := by decide +kernel
theorem dX11_served_55 : decode cX11_served 55 = .ok (.getfield 89, 3) := by decide +kernel
theorem dX11_served_58 : decode cX11_served 58 = .ok (.getfield 196, 3) := by decide +kernel
theorem dX11_served_61 : decode cX11_served 61 = .ok (.ireturn, 1) := by decide +kernel
theorem dX11_served_62 : decode cX11_served 62 = .ok (.iload_n 1, 1) := by decide +kernel
theorem dX11_served_63 : decode cX11_served 63 = .ok (.iconst 1, 1) := by decide +kernel
theorem dX11_served_64 : decode cX11_served 64 = .ok (.if_icmp .ne 13, 3) := by decide +kernel
theorem dX11_served_67 : decode cX11_served 67 = .ok (.aload_n 0, 1) := by decide +kernel
theorem dX11_served_68 : decode cX11_served 68 = .ok (.getfield 89, 3) := by decide +kernel
theorem dX11_served_71 : decode cX11_served 71 = .ok (.getfield 199, 3) := by decide +kernel
theorem dX11_served_74 : decode cX11_served 74 = .ok (.goto 10, 3) := by decide +kernel
theorem dX11_served_77 : decode cX11_served 77 = .ok (.aload_n 0, 1) := by decide +kernel
theorem dX11_served_78 : decode cX11_served 78 = .ok (.getfield 89, 3) := by decide +kernel
theorem dX11_served_81 : decode cX11_served 81 = .ok (.invokevirtual 200, 3) := by decide +kernel
theorem dX11_served_84 : decode cX11_served 84 = .ok (.ireturn, 1) := by decide +kernel
theorem dX11_can_0 : decode cX11_can 0 = .ok (.aload_n 0, 1) := by decide +kernel
theorem dX11_can_1 : decode cX11_can 1 = .ok (.iload_n 1, 1) := by decide +kernel
theorem dX11_can_2 : decode cX11_can 2 = .ok (.bipush 10, 2) := by decide +kernel
theorem dX11_can_4 : decode cX11_can 4 = .ok (.invokevirtual 203, 3) := by decide +kernel
theorem dX11_can_7 : decode cX11_can 7 = .ok (.ifCond .eq 11, 3) := by decide +kernel
theorem dX11_can_10 : decode cX11_can 10 = .ok (.iload_n 2, 1) := by decide +kernel
theorem dX11_can_11 : decode cX11_can 11 = .ok (.iconst 3, 1) := by decide +kernel
theorem dX11_can_12 : decode cX11_can 12 = .ok (.invokestatic 108, 3) := by decide +kernel
theorem dX11_can_15 : decode cX11_can 15 = .ok (.ifCond .ne 6, 3) := by decide +kernel
theorem dX11_can_18 : decode cX11_can 18 = .ok (.bipush (-3), 2) := by decide +kernel
theorem dX11_can_20 : decode cX11_can 20 = .ok (.ireturn, 1) := by decide +kernel
theorem dX11_can_21 : decode cX11_can 21 = .ok (.aload_n 0, 1) := by decide +kernel
theorem dX11_can_22 : decode cX11_can 22 = .ok (.getfield 71, 3) := by decide +kernel
theorem dX11_can_25 : decode cX11_can 25 = .ok (.invokevirtual 177, 3) := by decide +kernel
theorem dX11_can_28 : decode cX11_can 28 = .ok (.aload_n 0, 1) := by decide +kernel
theorem dX11_can_29 : decode cX11_can 29 = .ok (.getfield 71, 3) := by decide +kernel
theorem dX11_can_32 : decode cX11_can 32 = .ok (.iload_n 1, 1) := by decide +kernel
theorem dX11_can_33 : decode cX11_can 33 = .ok (.invokevirtual 180, 3) := by decide +kernel
theorem dX11_can_36 : decode cX11_can 36 = .ok (.aload_n 0, 1) := by decide +kernel
theorem dX11_can_37 : decode cX11_can 37 = .ok (.getfield 71, 3) := by decide +kernel
theorem dX11_can_40 : decode cX11_can 40 = .ok (.invokevirtual 206, 3) := by decide +kernel
theorem dX11_can_43 : decode cX11_can 43 = .ok (.istore_n 3, 1) := by decide +kernel
theorem dX11_can_44 : decode cX11_can 44 = .ok (.iload_n 2, 1) := by decide +kernel
theorem dX11_can_45 : decode cX11_can 45 = .ok (.ifCond .ne 13, 3) := by decide +kernel
theorem dX11_can_48 : decode cX11_can 48 = .ok (.iload_n 3, 1) := by decide +kernel
theorem dX11_can_49 : decode cX11_can 49 = .ok (.ifCond .eq 7, 3) := by decide +kernel
theorem dX11_can_52 : decode cX11_can 52 = .ok (.iconst 1, 1) := by decide +kernel
theorem dX11_can_53 : decode cX11_can 53 = .ok (.goto 4, 3) := by decide +kernel
theorem dX11_can_56 : decode cX11_can 56 = .ok (.iconst 0, 1) := by decide +kernel
theorem dX11_can_57 : decode cX11_can 57 = .ok (.ireturn, 1) := by decide +kernel
theorem dX11_can_58 : decode cX11_can 58 = .ok (.iload_n 3, 1) := by decide +kernel
theorem dX11_can_59 : decode cX11_can 59 = .ok (.ifCond .eq 6, 3) := by decide +kernel
theorem dX11_can_62 : decode cX11_can 62 = .ok (.bipush (-2), 2) := by decide +kernel
theorem dX11_can_64 : decode cX11_can 64 = .ok (.ireturn, 1) := by decide +kernel
theorem dX11_can_65 : decode cX11_can 65 = .ok (.iload_n 2, 1) := by decide +kernel
theorem dX11_can_66 : decode cX11_can 66 = .ok (.iconst 1, 1) := by decide +kernel
theorem dX11_can_67 : decode cX11_can 67 = .ok (.if_icmp .ne 13, 3) := by decide +kernel
theorem dX11_can_70 : decode cX11_can 70 = .ok (.aload_n 0, 1) := by decide +kernel
theorem dX11_can_71 : decode cX11_can 71 = .ok (.getfield 71, 3) := by decide +kernel
theorem dX11_can_74 : decode cX11_can 74 = .ok (.getfield 210, 3) := by decide +kernel
theorem dX11_can_77 : decode cX11_can 77 = .ok (.goto 10, 3) := by decide +kernel
theorem dX11_can_80 : decode cX11_can 80 = .ok (.aload_n 0, 1) := by decide +kernel
theorem dX11_can_81 : decode cX11_can 81 = .ok (.getfield 71, 3) := by decide +kernel
theorem dX11_can_84 : decode cX11_can 84 = .ok (.getfield 213, 3) := by decide +kernel
theorem dX11_can_87 : decode cX11_can 87 = .ok (.ireturn, 1) := by decide +kernel
theorem dX11_best_0 : decode cX11_best 0 = .ok (.iload_n 1, 1) := by decide +kernel
theorem dX11_best_1 : decode cX11_best 1 = .ok (.iconst 2, 1) := by decide +kernel
theorem dX11_best_2 : decode cX11_best 2 = .ok (.invokestatic 108, 3) := by decide +kernel
theorem dX11_best_5 : decode cX11_best 5 = .ok (.ifCond .ne 5, 3) := by decide +kernel
theorem dX11_best_8 : decode cX11_best 8 = .ok (.iconst (-1), 1) := by decide +kernel
theorem dX11_best_9 : decode cX11_best 9 = .ok (.ireturn, 1) := by decide +kernel
theorem dX11_best_10 : decode cX11_best 10 = .ok (.aload_n 0, 1) := by decide +kernel
theorem dX11_best_11 : decode cX11_best 11 = .ok (.getfield 71, 3) := by decide +kernel
theorem dX11_best_14 : decode cX11_best 14 = .ok (.invokevirtual 177, 3) := by decide +kernel
theorem dX11_best_17 : decode cX11_best 17 = .ok (.aload_n 0, 1) := by decide +kernel
theorem dX11_best_18 : decode cX11_best 18 = .ok (.getfield 80, 3) := by decide +kernel
theorem dX11_best_21 : decode cX11_best 21 = .ok (.aload_n 0, 1) := by decide +kernel
theorem dX11_best_22 : decode cX11_best 22 = .ok (.getfield 40, 3) := by decide +kernel
theorem dX11_best_25 : decode cX11_best 25 = .ok (.getfield 164, 3) := by decide +kernel
theorem dX11_best_28 : decode cX11_best 28 = .ok (.invokevirtual 216, 3) := by decide +kernel
theorem dX11_best_31 : decode cX11_best 31 = .ok (.istore_n 2, 1) := by decide +kernel
theorem dX11_best_32 : decode cX11_best 32 = .ok (.iload_n 1, 1) := by decide +kernel
theorem dX11_best_33 : decode cX11_best 33 = .ok (.ifCond .ne 14, 3) := by decide +kernel
theorem dX11_best_36 : decode cX11_best 36 = .ok (.aload_n 0, 1) := by decide +kernel
theorem dX11_best_37 : decode cX11_best 37 = .ok (.getfield 40, 3) := by decide +kernel
theorem dX11_best_40 : decode cX11_best 40 = .ok (.iload_n 2, 1) := by decide +kernel
theorem dX11_best_41 : decode cX11_best 41 = .ok (.invokevirtual 219, 3) := by decide +kernel
theorem dX11_best_44 : decode cX11_best 44 = .ok (.goto 4, 3) := by decide +kernel
theorem dX11_best_47 : decode cX11_best 47 = .ok (.iload_n 2, 1) := by decide +kernel
theorem dX11_best_48 : decode cX11_best 48 = .ok (.ireturn, 1) := by decide +kernel
theorem dX11_smallest_0 : decode cX11_smallest 0 = .ok (.aload_n 0, 1) := by decide +kernel
theorem dX11_smallest_1 : decode cX11_smallest 1 = .ok (.getfield 71, 3) := by decide +kernel
theorem dX11_smallest_4 : decode cX11_smallest 4 = .ok (.invokevirtual 177, 3) := by decide +kernel
theorem dX11_smallest_7 : decode cX11_smallest 7 = .ok (.aload_n 0, 1) := by decide +kernel
theorem dX11_smallest_8 : decode cX11_smallest 8 = .ok (.getfield 80, 3) := by decide +kernel
theorem dX11_smallest_11 : decode cX11_smallest 11 = .ok (.invokevirtual 222, 3) := by decide +kernel
theorem dX11_smallest_14 : decode cX11_smallest 14 = .ok (.ireturn, 1) := by decide +kernel
theorem dX11_costs_0 : decode cX11_costs 0 = .ok (.aload_n 0, 1) := by decide +kernel
theorem dX11_costs_1 : decode cX11_costs 1 = .ok (.getfield 40, 3) := by decide +kernel
theorem dX11_costs_4 : decode cX11_costs 4 = .ok (.iload_n 1, 1) := by decide +kernel
theorem dX11_costs_5 : decode cX11_costs 5 = .ok (.invokevirtual 161, 3) := by decide +kernel
theorem dX11_costs_8 : decode cX11_costs 8 = .ok (.ifCond .ne 6, 3) := by decide +kernel
theorem dX11_costs_11 : decode cX11_costs 11 = .ok (.ldc 225, 2) := by decide +kernel
theorem dX11_costs_13 : decode cX11_costs 13 = .ok (.ireturn, 1) := by decide +kernel
theorem dX11_costs_14 : decode cX11_costs 14 = .ok (.aload_n 0, 1) := by decide +kernel
theorem dX11_costs_15 : decode cX11_costs 15 = .ok (.getfield 71, 3) := by decide +kernel
theorem dX11_costs_18 : decode cX11_costs 18 = .ok (.invokevirtual 177, 3) := by decide +kernel
theorem dX11_costs_21 : decode cX11_costs 21 = .ok (.aload_n 0, 1) := by decide +kernel
theorem dX11_costs_22 : decode cX11_costs 22 = .ok (.getfield 40, 3) := by decide +kernel
theorem dX11_costs_25 : decode cX11_costs 25 = .ok (.getfield 164, 3) := by decide +kernel
theorem dX11_costs_28 : decode cX11_costs 28 = .ok (.iconst 1, 1) := by decide +kernel
theorem dX11_costs_29 : decode cX11_costs 29 = .ok (.iload_n 1, 1) := by decide +kernel
theorem dX11_costs_30 : decode cX11_costs 30 = .ok (.ishl, 1) := by decide +kernel
theorem dX11_costs_31 : decode cX11_costs 31 = .ok (.iconst (-1), 1) := by decide +kernel
theorem dX11_costs_32 : decode cX11_costs 32 = .ok (.ixor, 1) := by decide +kernel
theorem dX11_costs_33 : decode cX11_costs 33 = .ok (.iand, 1) := by decide +kernel
theorem dX11_costs_34 : decode cX11_costs 34 = .ok (.istore_n 2, 1) := by decide +kernel
theorem dX11_costs_35 : decode cX11_costs 35 = .ok (.aload_n 0, 1) := by decide +kernel
theorem dX11_costs_36 : decode cX11_costs 36 = .ok (.getfield 40, 3) := by decide +kernel
theorem dX11_costs_39 : decode cX11_costs 39 = .ok (.aload_n 0, 1) := by decide +kernel
theorem dX11_costs_40 : decode cX11_costs 40 = .ok (.getfield 80, 3) := by decide +kernel
theorem dX11_costs_43 : decode cX11_costs 43 = .ok (.iload_n 2, 1) := by decide +kernel
theorem dX11_costs_44 : decode cX11_costs 44 = .ok (.invokevirtual 216, 3) := by decide +kernel
theorem dX11_costs_47 : decode cX11_costs 47 = .ok (.invokevirtual 219, 3) := by decide +kernel
theorem dX11_costs_50 : decode cX11_costs 50 = .ok (.istore_n 3, 1) := by decide +kernel
theorem dX11_costs_51 : decode cX11_costs 51 = .ok (.aload_n 0, 1) := by decide +kernel
theorem dX11_costs_52 : decode cX11_costs 52 = .ok (.getfield 40, 3) := by decide +kernel
theorem dX11_costs_55 : decode cX11_costs 55 = .ok (.aload_n 0, 1) := by decide +kernel
theorem dX11_costs_56 : decode cX11_costs 56 = .ok (.getfield 80, 3) := by decide +kernel
theorem dX11_costs_59 : decode cX11_costs 59 = .ok (.aload_n 0, 1) := by decide +kernel
theorem dX11_costs_60 : decode cX11_costs 60 = .ok (.getfield 40, 3) := by decide +kernel
theorem dX11_costs_63 : decode cX11_costs 63 = .ok (.getfield 164, 3) := by decide +kernel
theorem dX11_costs_66 : decode cX11_costs 66 = .ok (.invokevirtual 216, 3) := by decide +kernel
theorem dX11_costs_69 : decode cX11_costs 69 = .ok (.iload_n 2, 1) := by decide +kernel
theorem dX11_costs_70 : decode cX11_costs 70 = .ok (.iand, 1) := by decide +kernel
theorem dX11_costs_71 : decode cX11_costs 71 = .ok (.invokevirtual 219, 3) := by decide +kernel
theorem dX11_costs_74 : decode cX11_costs 74 = .ok (.istore 4, 2) := by decide +kernel
theorem dX11_costs_76 : decode cX11_costs 76 = .ok (.iload_n 3, 1) := by decide +kernel
theorem dX11_costs_77 : decode cX11_costs 77 = .ok (.iload 4, 2) := by decide +kernel
theorem dX11_costs_79 : decode cX11_costs 79 = .ok (.isub, 1) := by decide +kernel
theorem dX11_costs_80 : decode cX11_costs 80 = .ok (.ireturn, 1) := by decide +kernel
theorem dX11_rooms_0 : decode cX11_rooms 0 = .ok (.aload_n 0, 1) := by decide +kernel
theorem dX11_rooms_1 : decode cX11_rooms 1 = .ok (.iload_n 1, 1) := by decide +kernel
theorem dX11_rooms_2 : decode cX11_rooms 2 = .ok (.bipush 6, 2) := by decide +kernel
theorem dX11_rooms_4 : decode cX11_rooms 4 = .ok (.invokevirtual 203, 3) := by decide +kernel
theorem dX11_rooms_7 : decode cX11_rooms 7 = .ok (.ifCond .eq 36, 3) := by decide +kernel
theorem dX11_rooms_10 : decode cX11_rooms 10 = .ok (.iload_n 2, 1) := by decide +kernel
theorem dX11_rooms_11 : decode cX11_rooms 11 = .ok (.iload_n 1, 1) := by decide +kernel
theorem dX11_rooms_12 : decode cX11_rooms 12 = .ok (.invokestatic 226, 3) := by decide +kernel
theorem dX11_rooms_15 : decode cX11_rooms 15 = .ok (.if_icmp .ne 28, 3) := by decide +kernel
theorem dX11_rooms_18 : decode cX11_rooms 18 = .ok (.iload_n 2, 1) := by decide +kernel
theorem dX11_rooms_19 : decode cX11_rooms 19 = .ok (.aload_n 0, 1) := by decide +kernel
theorem dX11_rooms_20 : decode cX11_rooms 20 = .ok (.getfield 12, 3) := by decide +kernel
theorem dX11_rooms_23 : decode cX11_rooms 23 = .ok (.invokevirtual 100, 3) := by decide +kernel
theorem dX11_rooms_26 : decode cX11_rooms 26 = .ok (.if_icmp .gt 17, 3) := by decide +kernel
theorem dX11_rooms_29 : decode cX11_rooms 29 = .ok (.iload_n 3, 1) := by decide +kernel
theorem dX11_rooms_30 : decode cX11_rooms 30 = .ok (.bipush 10, 2) := by decide +kernel
theorem dX11_rooms_32 : decode cX11_rooms 32 = .ok (.if_icmp .eq 13, 3) := by decide +kernel
theorem dX11_rooms_35 : decode cX11_rooms 35 = .ok (.iload_n 1, 1) := by decide +kernel
theorem dX11_rooms_36 : decode cX11_rooms 36 = .ok (.iload_n 3, 1) := by decide +kernel
theorem dX11_rooms_37 : decode cX11_rooms 37 = .ok (.invokestatic 231, 3) := by decide +kernel
theorem dX11_rooms_40 : decode cX11_rooms 40 = .ok (.ifCond .ne 5, 3) := by decide +kernel
theorem dX11_rooms_43 : decode cX11_rooms 43 = .ok (.iconst (-1), 1) := by decide +kernel
theorem dX11_rooms_44 : decode cX11_rooms 44 = .ok (.ireturn, 1) := by decide +kernel
theorem dX11_rooms_45 : decode cX11_rooms 45 = .ok (.aload_n 0, 1) := by decide +kernel
theorem dX11_rooms_46 : decode cX11_rooms 46 = .ok (.iload_n 1, 1) := by decide +kernel
theorem dX11_rooms_47 : decode cX11_rooms 47 = .ok (.iload_n 2, 1) := by decide +kernel
theorem dX11_rooms_48 : decode cX11_rooms 48 = .ok (.invokevirtual 234, 3) := by decide +kernel
theorem dX11_rooms_51 : decode cX11_rooms 51 = .ok (.istore 4, 2) := by decide +kernel
theorem dX11_rooms_53 : decode cX11_rooms 53 = .ok (.aload_n 0, 1) := by decide +kernel
theorem dX11_rooms_54 : decode cX11_rooms 54 = .ok (.getfield 12, 3) := by decide +kernel
theorem dX11_rooms_57 : decode cX11_rooms 57 = .ok (.invokevirtual 116, 3) := by decide +kernel
theorem dX11_rooms_60 : decode cX11_rooms 60 = .ok (.iload 4, 2) := by decide +kernel
theorem dX11_rooms_62 : decode cX11_rooms 62 = .ok (.iconst (-1), 1) := by decide +kernel
theorem dX11_rooms_63 : decode cX11_rooms 63 = .ok (.if_icmp .ne 6, 3) := by decide +kernel
theorem dX11_rooms_66 : decode cX11_rooms 66 = .ok (.bipush (-3), 2) := by decide +kernel
theorem dX11_rooms_68 : decode cX11_rooms 68 = .ok (.ireturn, 1) := by decide +kernel
theorem dX11_rooms_69 : decode cX11_rooms 69 = .ok (.aload_n 0, 1) := by decide +kernel
theorem dX11_rooms_70 : decode cX11_rooms 70 = .ok (.getfield 71, 3) := by decide +kernel
theorem dX11_rooms_73 : decode cX11_rooms 73 = .ok (.invokevirtual 177, 3) := by decide +kernel
theorem dX11_rooms_76 : decode cX11_rooms 76 = .ok (.aload_n 0, 1) := by decide +kernel
theorem dX11_rooms_77 : decode cX11_rooms 77 = .ok (.getfield 96, 3) := by decide +kernel
theorem dX11_rooms_80 : decode cX11_rooms 80 = .ok (.iload_n 1, 1) := by decide +kernel
theorem dX11_rooms_81 : decode cX11_rooms 81 = .ok (.iload 4, 2) := by decide +kernel
theorem dX11_rooms_83 : decode cX11_rooms 83 = .ok (.invokevirtual 237, 3) := by decide +kernel
theorem dX11_rooms_86 : decode cX11_rooms 86 = .ok (.istore 5, 2) := by decide +kernel
theorem dX11_rooms_88 : decode cX11_rooms 88 = .ok (.iload_n 3, 1) := by decide +kernel
theorem dX11_rooms_89 : decode cX11_rooms 89 = .ok (.bipush 10, 2) := by decide +kernel
theorem dX11_rooms_91 : decode cX11_rooms 91 = .ok (.if_icmp .eq 23, 3) := by decide +kernel
theorem dX11_rooms_94 : decode cX11_rooms 94 = .ok (.iload 5, 2) := by decide +kernel
theorem dX11_rooms_96 : decode cX11_rooms 96 = .ok (.ifCond .eq 15, 3) := by decide +kernel
theorem dX11_rooms_99 : decode cX11_rooms 99 = .ok (.aload_n 0, 1) := by decide +kernel
theorem dX11_rooms_100 : decode cX11_rooms 100 = .ok (.getfield 96, 3) := by decide +kernel
theorem dX11_rooms_103 : decode cX11_rooms 103 = .ok (.getfield 240, 3) := by decide +kernel
theorem dX11_rooms_106 : decode cX11_rooms 106 = .ok (.iload_n 3, 1) := by decide +kernel
theorem dX11_rooms_107 : decode cX11_rooms 107 = .ok (.iaload, 1) := by decide +kernel
theorem dX11_rooms_108 : decode cX11_rooms 108 = .ok (.goto 5, 3) := by decide +kernel
theorem dX11_rooms_111 : decode cX11_rooms 111 = .ok (.bipush (-2), 2) := by decide +kernel
theorem dX11_rooms_113 : decode cX11_rooms 113 = .ok (.ireturn, 1) := by decide +kernel
theorem dX11_rooms_114 : decode cX11_rooms 114 = .ok (.iload 5, 2) := by decide +kernel
theorem dX11_rooms_116 : decode cX11_rooms 116 = .ok (.ifCond .eq 11, 3) := by decide +kernel
theorem dX11_rooms_119 : decode cX11_rooms 119 = .ok (.aload_n 0, 1) := by decide +kernel
theorem dX11_rooms_120 : decode cX11_rooms 120 = .ok (.getfield 96, 3) := by decide +kernel
theorem dX11_rooms_123 : decode cX11_rooms 123 = .ok (.iload_n 1, 1) := by decide +kernel
theorem dX11_rooms_124 : decode cX11_rooms 124 = .ok (.invokevirtual 243, 3) := by decide +kernel
theorem dX11_rooms_127 : decode cX11_rooms 127 = .ok (.iload 5, 2) := by decide +kernel
theorem dX11_rooms_129 : decode cX11_rooms 129 = .ok (.ifCond .eq 7, 3) := by decide +kernel
theorem dX11_rooms_132 : decode cX11_rooms 132 = .ok (.iconst 1, 1) := by decide +kernel
theorem dX11_rooms_133 : decode cX11_rooms 133 = .ok (.goto 4, 3) := by decide +kernel
theorem dX11_rooms_136 : decode cX11_rooms 136 = .ok (.iconst 0, 1) := by decide +kernel
theorem dX11_rooms_137 : decode cX11_rooms 137 = .ok (.ireturn, 1) := by decide +kernel
theorem dX11_shifting_0 : decode cX11_shifting 0 = .ok (.aload_n 0, 1) := by decide +kernel
theorem dX11_shifting_1 : decode cX11_shifting 1 = .ok (.iload_n 1, 1) := by decide +kernel
theorem dX11_shifting_2 : decode cX11_shifting 2 = .ok (.iconst 5, 1) := by decide +kernel
theorem dX11_shifting_3 : decode cX11_shifting 3 = .ok (.invokevirtual 203, 3) := by decide +kernel
theorem dX11_shifting_6 : decode cX11_shifting 6 = .ok (.ifCond .eq 33, 3) := by decide +kernel
theorem dX11_shifting_9 : decode cX11_shifting 9 = .ok (.iload_n 2, 1) := by decide +kernel
theorem dX11_shifting_10 : decode cX11_shifting 10 = .ok (.iconst 1, 1) := by decide +kernel
theorem dX11_shifting_11 : decode cX11_shifting 11 = .ok (.if_icmp .lt 28, 3) := by decide +kernel
theorem dX11_shifting_14 : decode cX11_shifting 14 = .ok (.iload_n 2, 1) := by decide +kernel
theorem dX11_shifting_15 : decode cX11_shifting 15 = .ok (.iconst 2, 1) := by decide +kernel
theorem dX11_shifting_16 : decode cX11_shifting 16 = .ok (.if_icmp .gt 23, 3) := by decide +kernel
