theorem dX11_shifting_19 : decode cX11_shifting 19 = .ok (.iload_n 3, 1) := by decide +kernel
theorem dX11_shifting_20 : decode cX11_shifting 20 = .ok (.bipush 10, 2) := by decide +kernel
theorem dX11_shifting_22 : decode cX11_shifting 22 = .ok (.if_icmp .eq 19, 3) := by decide +kernel
theorem dX11_shifting_25 : decode cX11_shifting 25 = .ok (.iload_n 3, 1) := by decide +kernel
theorem dX11_shifting_26 : decode cX11_shifting 26 = .ok (.bipush 11, 2) := by decide +kernel
theorem dX11_shifting_28 : decode cX11_shifting 28 = .ok (.if_icmp .eq 13, 3) := by decide +kernel
theorem dX11_shifting_31 : decode cX11_shifting 31 = .ok (.iload_n 1, 1) := by decide +kernel
theorem dX11_shifting_32 : decode cX11_shifting 32 = .ok (.iload_n 3, 1) := by decide +kernel
theorem dX11_shifting_33 : decode cX11_shifting 33 = .ok (.invokestatic 231, 3) := by decide +kernel
theorem dX11_shifting_36 : decode cX11_shifting 36 = .ok (.ifCond .ne 5, 3) := by decide +kernel
theorem dX11_shifting_39 : decode cX11_shifting 39 = .ok (.iconst (-1), 1) := by decide +kernel
theorem dX11_shifting_40 : decode cX11_shifting 40 = .ok (.ireturn, 1) := by decide +kernel
theorem dX11_shifting_41 : decode cX11_shifting 41 = .ok (.aload_n 0, 1) := by decide +kernel
theorem dX11_shifting_42 : decode cX11_shifting 42 = .ok (.getfield 71, 3) := by decide +kernel
theorem dX11_shifting_45 : decode cX11_shifting 45 = .ok (.invokevirtual 177, 3) := by decide +kernel
theorem dX11_shifting_48 : decode cX11_shifting 48 = .ok (.aload_n 0, 1) := by decide +kernel
theorem dX11_shifting_49 : decode cX11_shifting 49 = .ok (.getfield 96, 3) := by decide +kernel
theorem dX11_shifting_52 : decode cX11_shifting 52 = .ok (.iload_n 1, 1) := by decide +kernel
theorem dX11_shifting_53 : decode cX11_shifting 53 = .ok (.iload_n 2, 1) := by decide +kernel
theorem dX11_shifting_54 : decode cX11_shifting 54 = .ok (.invokevirtual 246, 3) := by decide +kernel
theorem dX11_shifting_57 : decode cX11_shifting 57 = .ok (.ifCond .ne 6, 3) := by decide +kernel
theorem dX11_shifting_60 : decode cX11_shifting 60 = .ok (.bipush (-2), 2) := by decide +kernel
theorem dX11_shifting_62 : decode cX11_shifting 62 = .ok (.ireturn, 1) := by decide +kernel
theorem dX11_shifting_63 : decode cX11_shifting 63 = .ok (.iload_n 3, 1) := by decide +kernel
theorem dX11_shifting_64 : decode cX11_shifting 64 = .ok (.bipush 11, 2) := by decide +kernel
theorem dX11_shifting_66 : decode cX11_shifting 66 = .ok (.if_icmp .ne 11, 3) := by decide +kernel
theorem dX11_shifting_69 : decode cX11_shifting 69 = .ok (.aload_n 0, 1) := by decide +kernel
theorem dX11_shifting_70 : decode cX11_shifting 70 = .ok (.getfield 96, 3) := by decide +kernel
theorem dX11_shifting_73 : decode cX11_shifting 73 = .ok (.iload_n 1, 1) := by decide +kernel
theorem dX11_shifting_74 : decode cX11_shifting 74 = .ok (.invokevirtual 249, 3) := by decide +kernel
theorem dX11_shifting_77 : decode cX11_shifting 77 = .ok (.iload_n 3, 1) := by decide +kernel
theorem dX11_shifting_78 : decode cX11_shifting 78 = .ok (.bipush 10, 2) := by decide +kernel
theorem dX11_shifting_80 : decode cX11_shifting 80 = .ok (.if_icmp .ge 17, 3) := by decide +kernel
theorem dX11_shifting_83 : decode cX11_shifting 83 = .ok (.aload_n 0, 1) := by decide +kernel
theorem dX11_shifting_84 : decode cX11_shifting 84 = .ok (.getfield 96, 3) := by decide +kernel
theorem dX11_shifting_87 : decode cX11_shifting 87 = .ok (.getfield 252, 3) := by decide +kernel
theorem dX11_shifting_90 : decode cX11_shifting 90 = .ok (.iload_n 3, 1) := by decide +kernel
theorem dX11_shifting_91 : decode cX11_shifting 91 = .ok (.iaload, 1) := by decide +kernel
theorem dX11_shifting_92 : decode cX11_shifting 92 = .ok (.iconst 3, 1) := by decide +kernel
theorem dX11_shifting_93 : decode cX11_shifting 93 = .ok (.iadd, 1) := by decide +kernel
theorem dX11_shifting_94 : decode cX11_shifting 94 = .ok (.goto 10, 3) := by decide +kernel
theorem dX11_shifting_97 : decode cX11_shifting 97 = .ok (.aload_n 0, 1) := by decide +kernel
theorem dX11_shifting_98 : decode cX11_shifting 98 = .ok (.getfield 96, 3) := by decide +kernel
theorem dX11_shifting_101 : decode cX11_shifting 101 = .ok (.getfield 255, 3) := by decide +kernel
theorem dX11_shifting_104 : decode cX11_shifting 104 = .ok (.ireturn, 1) := by decide +kernel
theorem dX11_larger_0 : decode cX11_larger 0 = .ok (.iload_n 1, 1) := by decide +kernel
theorem dX11_larger_1 : decode cX11_larger 1 = .ok (.iconst 5, 1) := by decide +kernel
theorem dX11_larger_2 : decode cX11_larger 2 = .ok (.invokestatic 108, 3) := by decide +kernel
theorem dX11_larger_5 : decode cX11_larger 5 = .ok (.ifCond .ne 5, 3) := by decide +kernel
theorem dX11_larger_8 : decode cX11_larger 8 = .ok (.iconst (-1), 1) := by decide +kernel
theorem dX11_larger_9 : decode cX11_larger 9 = .ok (.ireturn, 1) := by decide +kernel
theorem dX11_larger_10 : decode cX11_larger 10 = .ok (.aload_n 0, 1) := by decide +kernel
theorem dX11_larger_11 : decode cX11_larger 11 = .ok (.getfield 71, 3) := by decide +kernel
theorem dX11_larger_14 : decode cX11_larger 14 = .ok (.invokevirtual 177, 3) := by decide +kernel
theorem dX11_larger_17 : decode cX11_larger 17 = .ok (.aload_n 0, 1) := by decide +kernel
theorem dX11_larger_18 : decode cX11_larger 18 = .ok (.getfield 80, 3) := by decide +kernel
theorem dX11_larger_21 : decode cX11_larger 21 = .ok (.invokevirtual 258, 3) := by decide +kernel
theorem dX11_larger_24 : decode cX11_larger 24 = .ok (.iload_n 1, 1) := by decide +kernel
theorem dX11_larger_25 : decode cX11_larger 25 = .ok (.ifCond .ne 11, 3) := by decide +kernel
theorem dX11_larger_28 : decode cX11_larger 28 = .ok (.aload_n 0, 1) := by decide +kernel
theorem dX11_larger_29 : decode cX11_larger 29 = .ok (.getfield 80, 3) := by decide +kernel
theorem dX11_larger_32 : decode cX11_larger 32 = .ok (.getfield 261, 3) := by decide +kernel
theorem dX11_larger_35 : decode cX11_larger 35 = .ok (.ireturn, 1) := by decide +kernel
theorem dX11_larger_36 : decode cX11_larger 36 = .ok (.iload_n 1, 1) := by decide +kernel
theorem dX11_larger_37 : decode cX11_larger 37 = .ok (.iconst 1, 1) := by decide +kernel
theorem dX11_larger_38 : decode cX11_larger 38 = .ok (.if_icmp .ne 13, 3) := by decide +kernel
theorem dX11_larger_41 : decode cX11_larger 41 = .ok (.aload_n 0, 1) := by decide +kernel
theorem dX11_larger_42 : decode cX11_larger 42 = .ok (.getfield 80, 3) := by decide +kernel
theorem dX11_larger_45 : decode cX11_larger 45 = .ok (.getfield 264, 3) := by decide +kernel
theorem dX11_larger_48 : decode cX11_larger 48 = .ok (.goto 14, 3) := by decide +kernel
theorem dX11_larger_51 : decode cX11_larger 51 = .ok (.aload_n 0, 1) := by decide +kernel
theorem dX11_larger_52 : decode cX11_larger 52 = .ok (.getfield 80, 3) := by decide +kernel
theorem dX11_larger_55 : decode cX11_larger 55 = .ok (.getfield 267, 3) := by decide +kernel
theorem dX11_larger_58 : decode cX11_larger 58 = .ok (.iload_n 1, 1) := by decide +kernel
theorem dX11_larger_59 : decode cX11_larger 59 = .ok (.iconst 2, 1) := by decide +kernel
theorem dX11_larger_60 : decode cX11_larger 60 = .ok (.isub, 1) := by decide +kernel
theorem dX11_larger_61 : decode cX11_larger 61 = .ok (.iaload, 1) := by decide +kernel
theorem dX11_larger_62 : decode cX11_larger 62 = .ok (.ireturn, 1) := by decide +kernel
theorem dX11_fair_0 : decode cX11_fair 0 = .ok (.aload_n 0, 1) := by decide +kernel
theorem dX11_fair_1 : decode cX11_fair 1 = .ok (.iload_n 1, 1) := by decide +kernel
theorem dX11_fair_2 : decode cX11_fair 2 = .ok (.bipush 8, 2) := by decide +kernel
theorem dX11_fair_4 : decode cX11_fair 4 = .ok (.invokevirtual 203, 3) := by decide +kernel
theorem dX11_fair_7 : decode cX11_fair 7 = .ok (.ifCond .eq 19, 3) := by decide +kernel
theorem dX11_fair_10 : decode cX11_fair 10 = .ok (.iload_n 1, 1) := by decide +kernel
theorem dX11_fair_11 : decode cX11_fair 11 = .ok (.iload_n 2, 1) := by decide +kernel
theorem dX11_fair_12 : decode cX11_fair 12 = .ok (.invokestatic 231, 3) := by decide +kernel
theorem dX11_fair_15 : decode cX11_fair 15 = .ok (.ifCond .eq 11, 3) := by decide +kernel
theorem dX11_fair_18 : decode cX11_fair 18 = .ok (.iload_n 3, 1) := by decide +kernel
theorem dX11_fair_19 : decode cX11_fair 19 = .ok (.iconst 2, 1) := by decide +kernel
theorem dX11_fair_20 : decode cX11_fair 20 = .ok (.invokestatic 108, 3) := by decide +kernel
theorem dX11_fair_23 : decode cX11_fair 23 = .ok (.ifCond .ne 7, 3) := by decide +kernel
theorem dX11_fair_26 : decode cX11_fair 26 = .ok (.ldc2_w 270, 3) := by decide +kernel
theorem dX11_fair_29 : decode cX11_fair 29 = .ok (.lreturn, 1) := by decide +kernel
theorem dX11_fair_30 : decode cX11_fair 30 = .ok (.aload_n 0, 1) := by decide +kernel
theorem dX11_fair_31 : decode cX11_fair 31 = .ok (.getfield 71, 3) := by decide +kernel
theorem dX11_fair_34 : decode cX11_fair 34 = .ok (.invokevirtual 177, 3) := by decide +kernel
theorem dX11_fair_37 : decode cX11_fair 37 = .ok (.aload_n 0, 1) := by decide +kernel
theorem dX11_fair_38 : decode cX11_fair 38 = .ok (.getfield 80, 3) := by decide +kernel
theorem dX11_fair_41 : decode cX11_fair 41 = .ok (.iload_n 1, 1) := by decide +kernel
theorem dX11_fair_42 : decode cX11_fair 42 = .ok (.iload_n 2, 1) := by decide +kernel
theorem dX11_fair_43 : decode cX11_fair 43 = .ok (.invokevirtual 272, 3) := by decide +kernel
theorem dX11_fair_46 : decode cX11_fair 46 = .ok (.iload_n 3, 1) := by decide +kernel
theorem dX11_fair_47 : decode cX11_fair 47 = .ok (.ifCond .ne 13, 3) := by decide +kernel
theorem dX11_fair_50 : decode cX11_fair 50 = .ok (.aload_n 0, 1) := by decide +kernel
theorem dX11_fair_51 : decode cX11_fair 51 = .ok (.getfield 80, 3) := by decide +kernel
theorem dX11_fair_54 : decode cX11_fair 54 = .ok (.getfield 276, 3) := by decide +kernel
theorem dX11_fair_57 : decode cX11_fair 57 = .ok (.goto 10, 3) := by decide +kernel
theorem dX11_fair_60 : decode cX11_fair 60 = .ok (.aload_n 0, 1) := by decide +kernel
theorem dX11_fair_61 : decode cX11_fair 61 = .ok (.getfield 80, 3) := by decide +kernel
theorem dX11_fair_64 : decode cX11_fair 64 = .ok (.getfield 280, 3) := by decide +kernel
theorem dX11_fair_67 : decode cX11_fair 67 = .ok (.lreturn, 1) := by decide +kernel
theorem dX11_drought_0 : decode cX11_drought 0 = .ok (.aload_n 0, 1) := by decide +kernel
theorem dX11_drought_1 : decode cX11_drought 1 = .ok (.iload_n 1, 1) := by decide +kernel
theorem dX11_drought_2 : decode cX11_drought 2 = .ok (.bipush 6, 2) := by decide +kernel
theorem dX11_drought_4 : decode cX11_drought 4 = .ok (.invokevirtual 203, 3) := by decide +kernel
theorem dX11_drought_7 : decode cX11_drought 7 = .ok (.ifCond .ne 6, 3) := by decide +kernel
theorem dX11_drought_10 : decode cX11_drought 10 = .ok (.bipush (-3), 2) := by decide +kernel
theorem dX11_drought_12 : decode cX11_drought 12 = .ok (.ireturn, 1) := by decide +kernel
theorem dX11_drought_13 : decode cX11_drought 13 = .ok (.iload_n 2, 1) := by decide +kernel
theorem dX11_drought_14 : decode cX11_drought 14 = .ok (.iconst (-1), 1) := by decide +kernel
theorem dX11_drought_15 : decode cX11_drought 15 = .ok (.if_icmp .eq 17, 3) := by decide +kernel
theorem dX11_drought_18 : decode cX11_drought 18 = .ok (.iload_n 2, 1) := by decide +kernel
theorem dX11_drought_19 : decode cX11_drought 19 = .ok (.iload_n 1, 1) := by decide +kernel
theorem dX11_drought_20 : decode cX11_drought 20 = .ok (.invokestatic 226, 3) := by decide +kernel
theorem dX11_drought_23 : decode cX11_drought 23 = .ok (.invokestatic 108, 3) := by decide +kernel
theorem dX11_drought_26 : decode cX11_drought 26 = .ok (.ifCond .ne 6, 3) := by decide +kernel
theorem dX11_drought_29 : decode cX11_drought 29 = .ok (.bipush (-2), 2) := by decide +kernel
theorem dX11_drought_31 : decode cX11_drought 31 = .ok (.ireturn, 1) := by decide +kernel
theorem dX11_drought_32 : decode cX11_drought 32 = .ok (.aload_n 0, 1) := by decide +kernel
theorem dX11_drought_33 : decode cX11_drought 33 = .ok (.getfield 71, 3) := by decide +kernel
theorem dX11_drought_36 : decode cX11_drought 36 = .ok (.invokevirtual 177, 3) := by decide +kernel
theorem dX11_drought_39 : decode cX11_drought 39 = .ok (.aload_n 0, 1) := by decide +kernel
theorem dX11_drought_40 : decode cX11_drought 40 = .ok (.getfield 89, 3) := by decide +kernel
theorem dX11_drought_43 : decode cX11_drought 43 = .ok (.iload_n 1, 1) := by decide +kernel
theorem dX11_drought_44 : decode cX11_drought 44 = .ok (.invokevirtual 283, 3) := by decide +kernel
theorem dX11_drought_47 : decode cX11_drought 47 = .ok (.iload_n 2, 1) := by decide +kernel
theorem dX11_drought_48 : decode cX11_drought 48 = .ok (.iconst (-1), 1) := by decide +kernel
theorem dX11_drought_49 : decode cX11_drought 49 = .ok (.if_icmp .ne 15, 3) := by decide +kernel
theorem dX11_drought_52 : decode cX11_drought 52 = .ok (.aload_n 0, 1) := by decide +kernel
theorem dX11_drought_53 : decode cX11_drought 53 = .ok (.getfield 89, 3) := by decide +kernel
theorem dX11_drought_56 : decode cX11_drought 56 = .ok (.getfield 286, 3) := by decide +kernel
theorem dX11_drought_59 : decode cX11_drought 59 = .ok (.iconst 0, 1) := by decide +kernel
theorem dX11_drought_60 : decode cX11_drought 60 = .ok (.iaload, 1) := by decide +kernel
theorem dX11_drought_61 : decode cX11_drought 61 = .ok (.goto 11, 3) := by decide +kernel
theorem dX11_drought_64 : decode cX11_drought 64 = .ok (.aload_n 0, 1) := by decide +kernel
theorem dX11_drought_65 : decode cX11_drought 65 = .ok (.getfield 89, 3) := by decide +kernel
theorem dX11_drought_68 : decode cX11_drought 68 = .ok (.iload_n 2, 1) := by decide +kernel
theorem dX11_drought_69 : decode cX11_drought 69 = .ok (.invokevirtual 289, 3) := by decide +kernel
theorem dX11_drought_72 : decode cX11_drought 72 = .ok (.ireturn, 1) := by decide +kernel
theorem dX11_meter_0 : decode cX11_meter 0 = .ok (.iload_n 2, 1) := by decide +kernel
theorem dX11_meter_1 : decode cX11_meter 1 = .ok (.iconst (-1), 1) := by decide +kernel
theorem dX11_meter_2 : decode cX11_meter 2 = .ok (.if_icmp .eq 16, 3) := by decide +kernel
theorem dX11_meter_5 : decode cX11_meter 5 = .ok (.iload_n 2, 1) := by decide +kernel
theorem dX11_meter_6 : decode cX11_meter 6 = .ok (.iconst 3, 1) := by decide +kernel
theorem dX11_meter_7 : decode cX11_meter 7 = .ok (.if_icmp .eq 11, 3) := by decide +kernel
theorem dX11_meter_10 : decode cX11_meter 10 = .ok (.iload_n 2, 1) := by decide +kernel
theorem dX11_meter_11 : decode cX11_meter 11 = .ok (.iload_n 1, 1) := by decide +kernel
theorem dX11_meter_12 : decode cX11_meter 12 = .ok (.invokestatic 108, 3) := by decide +kernel
theorem dX11_meter_15 : decode cX11_meter 15 = .ok (.ifCond .eq 7, 3) := by decide +kernel
theorem dX11_meter_18 : decode cX11_meter 18 = .ok (.iconst 1, 1) := by decide +kernel
theorem dX11_meter_19 : decode cX11_meter 19 = .ok (.goto 4, 3) := by decide +kernel
theorem dX11_meter_22 : decode cX11_meter 22 = .ok (.iconst 0, 1) := by decide +kernel
theorem dX11_meter_23 : decode cX11_meter 23 = .ok (.istore_n 3, 1) := by decide +kernel
theorem dX11_meter_24 : decode cX11_meter 24 = .ok (.iload_n 1, 1) := by decide +kernel
theorem dX11_meter_25 : decode cX11_meter 25 = .ok (.iconst 1, 1) := by decide +kernel
theorem dX11_meter_26 : decode cX11_meter 26 = .ok (.if_icmp .lt 24, 3) := by decide +kernel
theorem dX11_meter_29 : decode cX11_meter 29 = .ok (.iload_n 1, 1) := by decide +kernel
theorem dX11_meter_30 : decode cX11_meter 30 = .ok (.iconst 3, 1) := by decide +kernel
theorem dX11_meter_31 : decode cX11_meter 31 = .ok (.if_icmp .gt 19, 3) := by decide +kernel
theorem dX11_meter_34 : decode cX11_meter 34 = .ok (.iload_n 3, 1) := by decide +kernel
theorem dX11_meter_35 : decode cX11_meter 35 = .ok (.ifCond .eq 15, 3) := by decide +kernel
theorem dX11_meter_38 : decode cX11_meter 38 = .ok (.aload_n 0, 1) := by decide +kernel
theorem dX11_meter_39 : decode cX11_meter 39 = .ok (.getfield 12, 3) := by decide +kernel
theorem dX11_meter_42 : decode cX11_meter 42 = .ok (.invokevirtual 100, 3) := by decide +kernel
theorem dX11_meter_45 : decode cX11_meter 45 = .ok (.bipush 48, 2) := by decide +kernel
theorem dX11_meter_47 : decode cX11_meter 47 = .ok (.if_icmp .ge 6, 3) := by decide +kernel
theorem dX11_meter_50 : decode cX11_meter 50 = .ok (.bipush (-3), 2) := by decide +kernel
theorem dX11_meter_52 : decode cX11_meter 52 = .ok (.ireturn, 1) := by decide +kernel
theorem dX11_meter_53 : decode cX11_meter 53 = .ok (.aload_n 0, 1) := by decide +kernel
theorem dX11_meter_54 : decode cX11_meter 54 = .ok (.getfield 26, 3) := by decide +kernel
theorem dX11_meter_57 : decode cX11_meter 57 = .ok (.aload_n 0, 1) := by decide +kernel
theorem dX11_meter_58 : decode cX11_meter 58 = .ok (.getfield 12, 3) := by decide +kernel
theorem dX11_meter_61 : decode cX11_meter 61 = .ok (.iload_n 1, 1) := by decide +kernel
theorem dX11_meter_62 : decode cX11_meter 62 = .ok (.invokevirtual 292, 3) := by decide +kernel
theorem dX11_meter_65 : decode cX11_meter 65 = .ok (.aload_n 0, 1) := by decide +kernel
theorem dX11_meter_66 : decode cX11_meter 66 = .ok (.getfield 12, 3) := by decide +kernel
theorem dX11_meter_69 : decode cX11_meter 69 = .ok (.invokevirtual 116, 3) := by decide +kernel
theorem dX11_meter_72 : decode cX11_meter 72 = .ok (.iload_n 2, 1) := by decide +kernel
theorem dX11_meter_73 : decode cX11_meter 73 = .ok (.iconst (-1), 1) := by decide +kernel
theorem dX11_meter_74 : decode cX11_meter 74 = .ok (.if_icmp .ne 11, 3) := by decide +kernel
theorem dX11_meter_77 : decode cX11_meter 77 = .ok (.aload_n 0, 1) := by decide +kernel
theorem dX11_meter_78 : decode cX11_meter 78 = .ok (.getfield 26, 3) := by decide +kernel
theorem dX11_meter_81 : decode cX11_meter 81 = .ok (.getfield 296, 3) := by decide +kernel
theorem dX11_meter_84 : decode cX11_meter 84 = .ok (.ireturn, 1) := by decide +kernel
theorem dX11_meter_85 : decode cX11_meter 85 = .ok (.aload_n 0, 1) := by decide +kernel
theorem dX11_meter_86 : decode cX11_meter 86 = .ok (.getfield 26, 3) := by decide +kernel
theorem dX11_meter_89 : decode cX11_meter 89 = .ok (.getfield 296, 3) := by decide +kernel
theorem dX11_meter_92 : decode cX11_meter 92 = .ok (.ifCond .ne 6, 3) := by decide +kernel
theorem dX11_meter_95 : decode cX11_meter 95 = .ok (.bipush (-2), 2) := by decide +kernel
theorem dX11_meter_97 : decode cX11_meter 97 = .ok (.ireturn, 1) := by decide +kernel
theorem dX11_meter_98 : decode cX11_meter 98 = .ok (.iload_n 2, 1) := by decide +kernel
theorem dX11_meter_99 : decode cX11_meter 99 = .ok (.iconst 3, 1) := by decide +kernel
theorem dX11_meter_100 : decode cX11_meter 100 = .ok (.if_icmp .ne 13, 3) := by decide +kernel
theorem dX11_meter_103 : decode cX11_meter 103 = .ok (.aload_n 0, 1) := by decide +kernel
theorem dX11_meter_104 : decode cX11_meter 104 = .ok (.getfield 26, 3) := by decide +kernel
theorem dX11_meter_107 : decode cX11_meter 107 = .ok (.getfield 299, 3) := by decide +kernel
theorem dX11_meter_110 : decode cX11_meter 110 = .ok (.goto 12, 3) := by decide +kernel
theorem dX11_meter_113 : decode cX11_meter 113 = .ok (.aload_n 0, 1) := by decide +kernel
theorem dX11_meter_114 : decode cX11_meter 114 = .ok (.getfield 26, 3) := by decide +kernel
theorem dX11_meter_117 : decode cX11_meter 117 = .ok (.getfield 302, 3) := by decide +kernel
theorem dX11_meter_120 : decode cX11_meter 120 = .ok (.iload_n 2, 1) := by decide +kernel
theorem dX11_meter_121 : decode cX11_meter 121 = .ok (.iaload, 1) := by decide +kernel
theorem dX11_meter_122 : decode cX11_meter 122 = .ok (.ireturn, 1) := by decide +kernel
theorem dX11_seed_0 : decode cX11_seed 0 = .ok (.iload_n 1, 1) := by decide +kernel
theorem dX11_seed_1 : decode cX11_seed 1 = .ok (.ldc_w 305, 3) := by decide +kernel
theorem dX11_seed_4 : decode cX11_seed 4 = .ok (.invokestatic 135, 3) := by decide +kernel
theorem dX11_seed_7 : decode cX11_seed 7 = .ok (.ifCond .ne 5, 3) := by decide +kernel
theorem dX11_seed_10 : decode cX11_seed 10 = .ok (.iconst 0, 1) := by decide +kernel
theorem dX11_seed_11 : decode cX11_seed 11 = .ok (.ireturn, 1) := by decide +kernel
theorem dX11_seed_12 : decode cX11_seed 12 = .ok (.aload_n 0, 1) := by decide +kernel
theorem dX11_seed_13 : decode cX11_seed 13 = .ok (.getfield 40, 3) := by decide +kernel
theorem dX11_seed_16 : decode cX11_seed 16 = .ok (.iload_n 1, 1) := by decide +kernel
theorem dX11_seed_17 : decode cX11_seed 17 = .ok (.putfield 306, 3) := by decide +kernel
theorem dX11_seed_20 : decode cX11_seed 20 = .ok (.iconst 1, 1) := by decide +kernel
theorem dX11_seed_21 : decode cX11_seed 21 = .ok (.ireturn, 1) := by decide +kernel
theorem dX11_draw_0 : decode cX11_draw 0 = .ok (.iload_n 1, 1) := by decide +kernel
theorem dX11_draw_1 : decode cX11_draw 1 = .ok (.iconst 1, 1) := by decide +kernel
theorem dX11_draw_2 : decode cX11_draw 2 = .ok (.if_icmp .lt 9, 3) := by decide +kernel
theorem dX11_draw_5 : decode cX11_draw 5 = .ok (.iload_n 1, 1) := by decide +kernel
theorem dX11_draw_6 : decode cX11_draw 6 = .ok (.bipush 20, 2) := by decide +kernel
theorem dX11_draw_8 : decode cX11_draw 8 = .ok (.if_icmp .le 5, 3) := by decide +kernel
theorem dX11_draw_11 : decode cX11_draw 11 = .ok (.iconst (-1), 1) := by decide +kernel
theorem dX11_draw_12 : decode cX11_draw 12 = .ok (.ireturn, 1) := by decide +kernel
theorem dX11_draw_13 : decode cX11_draw 13 = .ok (.iconst 0, 1) := by decide +kernel
theorem dX11_draw_14 : decode cX11_draw 14 = .ok (.istore_n 2, 1) := by decide +kernel
theorem dX11_draw_15 : decode cX11_draw 15 = .ok (.iload_n 2, 1) := by decide +kernel
theorem dX11_draw_16 : decode cX11_draw 16 = .ok (.iload_n 1, 1) := by decide +kernel
theorem dX11_draw_17 : decode cX11_draw 17 = .ok (.if_icmp .ge 13, 3) := by decide +kernel
theorem dX11_draw_20 : decode cX11_draw 20 = .ok (.aload_n 0, 1) := by decide +kernel
theorem dX11_draw_21 : decode cX11_draw 21 = .ok (.invokevirtual 309, 3) := by decide +kernel
theorem dX11_draw_24 : decode cX11_draw 24 = .ok (.iinc 2 1, 3) := by decide +kernel
theorem dX11_draw_27 : decode cX11_draw 27 = .ok (.goto (-12), 3) := by decide +kernel
theorem dX11_draw_30 : decode cX11_draw 30 = .ok (.aload_n 0, 1) := by decide +kernel
theorem dX11_draw_31 : decode cX11_draw 31 = .ok (.getfield 89, 3) := by decide +kernel
theorem dX11_draw_34 : decode cX11_draw 34 = .ok (.invokevirtual 186, 3) := by decide +kernel
theorem dX11_draw_37 : decode cX11_draw 37 = .ok (.aload_n 0, 1) := by decide +kernel
theorem dX11_draw_38 : decode cX11_draw 38 = .ok (.getfield 89, 3) := by decide +kernel
theorem dX11_draw_41 : decode cX11_draw 41 = .ok (.getfield 196, 3) := by decide +kernel
theorem dX11_draw_44 : decode cX11_draw 44 = .ok (.ireturn, 1) := by decide +kernel
theorem dX11_keep_0 : decode cX11_keep 0 = .ok (.aload_n 0, 1) := by decide +kernel
theorem dX11_keep_1 : decode cX11_keep 1 = .ok (.getfield 44, 3) := by decide +kernel
theorem dX11_keep_4 : decode cX11_keep 4 = .ok (.aload_n 0, 1) := by decide +kernel
theorem dX11_keep_5 : decode cX11_keep 5 = .ok (.getfield 40, 3) := by decide +kernel
theorem dX11_keep_8 : decode cX11_keep 8 = .ok (.invokevirtual 312, 3) := by decide +kernel
theorem dX11_keep_11 : decode cX11_keep 11 = .ok (.aload_n 0, 1) := by decide +kernel
theorem dX11_keep_12 : decode cX11_keep 12 = .ok (.iconst 1, 1) := by decide +kernel
theorem dX11_keep_13 : decode cX11_keep 13 = .ok (.putfield 315, 3) := by decide +kernel
theorem dX11_keep_16 : decode cX11_keep 16 = .ok (.aload_n 0, 1) := by decide +kernel
theorem dX11_keep_17 : decode cX11_keep 17 = .ok (.getfield 40, 3) := by decide +kernel
theorem dX11_keep_20 : decode cX11_keep 20 = .ok (.getfield 164, 3) := by decide +kernel
theorem dX11_keep_23 : decode cX11_keep 23 = .ok (.invokestatic 226, 3) := by decide +kernel
theorem dX11_keep_26 : decode cX11_keep 26 = .ok (.ireturn, 1) := by decide +kernel
theorem dX11_undo_0 : decode cX11_undo 0 = .ok (.aload_n 0, 1) := by decide +kernel
theorem dX11_undo_1 : decode cX11_undo 1 = .ok (.getfield 315, 3) := by decide +kernel
theorem dX11_undo_4 : decode cX11_undo 4 = .ok (.ifCond .ne 5, 3) := by decide +kernel
theorem dX11_undo_7 : decode cX11_undo 7 = .ok (.iconst 0, 1) := by decide +kernel
theorem dX11_undo_8 : decode cX11_undo 8 = .ok (.ireturn, 1) := by decide +kernel
theorem dX11_undo_9 : decode cX11_undo 9 = .ok (.aload_n 0, 1) := by decide +kernel
theorem dX11_undo_10 : decode cX11_undo 10 = .ok (.getfield 40, 3) := by decide +kernel
theorem dX11_undo_13 : decode cX11_undo 13 = .ok (.aload_n 0, 1) := by decide +kernel
theorem dX11_undo_14 : decode cX11_undo 14 = .ok (.getfield 44, 3) := by decide +kernel
theorem dX11_undo_17 : decode cX11_undo 17 = .ok (.invokevirtual 312, 3) := by decide +kernel
theorem dX11_undo_20 : decode cX11_undo 20 = .ok (.iconst 1, 1) := by decide +kernel
theorem dX11_undo_21 : decode cX11_undo 21 = .ok (.ireturn, 1) := by decide +kernel
theorem dX11_check_0 : decode cX11_check 0 = .ok (.aload_n 0, 1) := by decide +kernel
theorem dX11_check_1 : decode cX11_check 1 = .ok (.getfield 26, 3) := by decide +kernel
theorem dX11_check_4 : decode cX11_check 4 = .ok (.iload_n 1, 1) := by decide +kernel
theorem dX11_check_5 : decode cX11_check 5 = .ok (.invokevirtual 119, 3) := by decide +kernel
theorem dX11_check_8 : decode cX11_check 8 = .ok (.ifCond .eq 33, 3) := by decide +kernel
theorem dX11_check_11 : decode cX11_check 11 = .ok (.iload_n 2, 1) := by decide +kernel
theorem dX11_check_12 : decode cX11_check 12 = .ok (.iconst 3, 1) := by decide +kernel
theorem dX11_check_13 : decode cX11_check 13 = .ok (.invokestatic 108, 3) := by decide +kernel
theorem dX11_check_16 : decode cX11_check 16 = .ok (.ifCond .eq 25, 3) := by decide +kernel
theorem dX11_check_19 : decode cX11_check 19 = .ok (.iload_n 3, 1) := by decide +kernel
theorem dX11_check_20 : decode cX11_check 20 = .ok (.bipush 24, 2) := by decide +kernel
theorem dX11_check_22 : decode cX11_check 22 = .ok (.invokestatic 135, 3) := by decide +kernel
theorem dX11_check_25 : decode cX11_check 25 = .ok (.ifCond .eq 16, 3) := by decide +kernel
theorem dX11_check_28 : decode cX11_check 28 = .ok (.iconst 4, 1) := by decide +kernel
theorem dX11_check_29 : decode cX11_check 29 = .ok (.iload_n 3, 1) := by decide +kernel
theorem dX11_check_30 : decode cX11_check 30 = .ok (.imul, 1) := by decide +kernel
theorem dX11_check_31 : decode cX11_check 31 = .ok (.aload_n 0, 1) := by decide +kernel
theorem dX11_check_32 : decode cX11_check 32 = .ok (.getfield 12, 3) := by decide +kernel
theorem dX11_check_35 : decode cX11_check 35 = .ok (.invokevirtual 100, 3) := by decide +kernel
theorem dX11_check_38 : decode cX11_check 38 = .ok (.if_icmp .le 6, 3) := by decide +kernel
theorem dX11_check_41 : decode cX11_check 41 = .ok (.bipush (-2), 2) := by decide +kernel
theorem dX11_check_43 : decode cX11_check 43 = .ok (.ireturn, 1) := by decide +kernel
theorem dX11_check_44 : decode cX11_check 44 = .ok (.iconst (-1), 1) := by decide +kernel
theorem dX11_check_45 : decode cX11_check 45 = .ok (.istore 4, 2) := by decide +kernel
theorem dX11_check_47 : decode cX11_check 47 = .ok (.iconst 0, 1) := by decide +kernel
theorem dX11_check_48 : decode cX11_check 48 = .ok (.istore 5, 2) := by decide +kernel
theorem dX11_check_50 : decode cX11_check 50 = .ok (.iload 5, 2) := by decide +kernel
theorem dX11_check_52 : decode cX11_check 52 = .ok (.iload_n 3, 1) := by decide +kernel
theorem dX11_check_53 : decode cX11_check 53 = .ok (.if_icmp .ge 49, 3) := by decide +kernel
theorem dX11_check_56 : decode cX11_check 56 = .ok (.iload 4, 2) := by decide +kernel
theorem dX11_check_58 : decode cX11_check 58 = .ok (.iconst (-1), 1) := by decide +kernel
theorem dX11_check_59 : decode cX11_check 59 = .ok (.if_icmp .ne 43, 3) := by decide +kernel
theorem dX11_check_62 : decode cX11_check 62 = .ok (.aload_n 0, 1) := by decide +kernel
theorem dX11_check_63 : decode cX11_check 63 = .ok (.getfield 12, 3) := by decide +kernel
theorem dX11_check_66 : decode cX11_check 66 = .ok (.iconst 4, 1) := by decide +kernel
theorem dX11_check_67 : decode cX11_check 67 = .ok (.iload 5, 2) := by decide +kernel
theorem dX11_check_69 : decode cX11_check 69 = .ok (.imul, 1) := by decide +kernel
theorem dX11_check_70 : decode cX11_check 70 = .ok (.invokevirtual 319, 3) := by decide +kernel
theorem dX11_check_73 : decode cX11_check 73 = .ok (.aload_n 0, 1) := by decide +kernel
theorem dX11_check_74 : decode cX11_check 74 = .ok (.getfield 26, 3) := by decide +kernel
theorem dX11_check_77 : decode cX11_check 77 = .ok (.iload_n 1, 1) := by decide +kernel
theorem dX11_check_78 : decode cX11_check 78 = .ok (.invokevirtual 123, 3) := by decide +kernel
theorem dX11_check_81 : decode cX11_check 81 = .ok (.iload_n 2, 1) := by decide +kernel
theorem dX11_check_82 : decode cX11_check 82 = .ok (.bipush 24, 2) := by decide +kernel
theorem dX11_check_84 : decode cX11_check 84 = .ok (.imul, 1) := by decide +kernel
theorem dX11_check_85 : decode cX11_check 85 = .ok (.iload 5, 2) := by decide +kernel
theorem dX11_check_87 : decode cX11_check 87 = .ok (.iadd, 1) := by decide +kernel
theorem dX11_check_88 : decode cX11_check 88 = .ok (.iaload, 1) := by decide +kernel
theorem dX11_check_89 : decode cX11_check 89 = .ok (.if_icmp .eq 7, 3) := by decide +kernel
theorem dX11_check_92 : decode cX11_check 92 = .ok (.iload 5, 2) := by decide +kernel
theorem dX11_check_94 : decode cX11_check 94 = .ok (.istore 4, 2) := by decide +kernel
theorem dX11_check_96 : decode cX11_check 96 = .ok (.iinc 5 1, 3) := by decide +kernel
theorem dX11_check_99 : decode cX11_check 99 = .ok (.goto (-49), 3) := by decide +kernel
theorem dX11_check_102 : decode cX11_check 102 = .ok (.aload_n 0, 1) := by decide +kernel
theorem dX11_check_103 : decode cX11_check 103 = .ok (.getfield 12, 3) := by decide +kernel
theorem dX11_check_106 : decode cX11_check 106 = .ok (.invokevirtual 116, 3) := by decide +kernel
theorem dX11_check_109 : decode cX11_check 109 = .ok (.iload 4, 2) := by decide +kernel
theorem dX11_check_111 : decode cX11_check 111 = .ok (.ireturn, 1) := by decide +kernel
theorem dX11_count_0 : decode cX11_count 0 = .ok (.iload_n 1, 1) := by decide +kernel
theorem dX11_count_1 : decode cX11_count 1 = .ok (.tableswitch 87 0 5 #[39, 47, 55, 63, 71, 79], 39) := by decide +kernel
theorem dX11_count_40 : decode cX11_count 40 = .ok (.aload_n 0, 1) := by decide +kernel
theorem dX11_count_41 : decode cX11_count 41 = .ok (.getfield 26, 3) := by decide +kernel
theorem dX11_count_44 : decode cX11_count 44 = .ok (.getfield 322, 3) := by decide +kernel
theorem dX11_count_47 : decode cX11_count 47 = .ok (.ireturn, 1) := by decide +kernel
theorem dX11_count_48 : decode cX11_count 48 = .ok (.aload_n 0, 1) := by decide +kernel
theorem dX11_count_49 : decode cX11_count 49 = .ok (.getfield 33, 3) := by decide +kernel
theorem dX11_count_52 : decode cX11_count 52 = .ok (.getfield 127, 3) := by decide +kernel
theorem dX11_count_55 : decode cX11_count 55 = .ok (.ireturn, 1) := by decide +kernel
theorem dX11_count_56 : decode cX11_count 56 = .ok (.aload_n 0, 1) := by decide +kernel
theorem dX11_count_57 : decode cX11_count 57 = .ok (.getfield 40, 3) := by decide +kernel
theorem dX11_count_60 : decode cX11_count 60 = .ok (.getfield 164, 3) := by decide +kernel
theorem dX11_count_63 : decode cX11_count 63 = .ok (.ireturn, 1) := by decide +kernel
theorem dX11_count_64 : decode cX11_count 64 = .ok (.aload_n 0, 1) := by decide +kernel
theorem dX11_count_65 : decode cX11_count 65 = .ok (.getfield 50, 3) := by decide +kernel
theorem dX11_count_68 : decode cX11_count 68 = .ok (.getfield 325, 3) := by decide +kernel
theorem dX11_count_71 : decode cX11_count 71 = .ok (.ireturn, 1) := by decide +kernel
theorem dX11_count_72 : decode cX11_count 72 = .ok (.aload_n 0, 1) := by decide +kernel
theorem dX11_count_73 : decode cX11_count 73 = .ok (.getfield 12, 3) := by decide +kernel
theorem dX11_count_76 : decode cX11_count 76 = .ok (.invokevirtual 100, 3) := by decide +kernel
theorem dX11_count_79 : decode cX11_count 79 = .ok (.ireturn, 1) := by decide +kernel
theorem dX11_count_80 : decode cX11_count 80 = .ok (.aload_n 0, 1) := by decide +kernel
theorem dX11_count_81 : decode cX11_count 81 = .ok (.getfield 40, 3) := by decide +kernel
theorem dX11_count_84 : decode cX11_count 84 = .ok (.getfield 306, 3) := by decide +kernel
theorem dX11_count_87 : decode cX11_count 87 = .ok (.ireturn, 1) := by decide +kernel
theorem dX11_count_88 : decode cX11_count 88 = .ok (.aload_n 0, 1) := by decide +kernel
theorem dX11_count_89 : decode cX11_count 89 = .ok (.iload_n 1, 1) := by decide +kernel
theorem dX11_count_90 : decode cX11_count 90 = .ok (.invokevirtual 328, 3) := by decide +kernel
theorem dX11_count_93 : decode cX11_count 93 = .ok (.ireturn, 1) := by decide +kernel
theorem dX11_countOfOne_0 : decode cX11_countOfOne 0 = .ok (.iload_n 1, 1) := by decide +kernel
theorem dX11_countOfOne_1 : decode cX11_countOfOne 1 = .ok (.bipush 10, 2) := by decide +kernel
theorem dX11_countOfOne_3 : decode cX11_countOfOne 3 = .ok (.if_icmp .lt 9, 3) := by decide +kernel
theorem dX11_countOfOne_6 : decode cX11_countOfOne 6 = .ok (.iload_n 1, 1) := by decide +kernel
theorem dX11_countOfOne_7 : decode cX11_countOfOne 7 = .ok (.bipush 60, 2) := by decide +kernel
theorem dX11_countOfOne_9 : decode cX11_countOfOne 9 = .ok (.if_icmp .lt 5, 3) := by decide +kernel
theorem dX11_countOfOne_12 : decode cX11_countOfOne 12 = .ok (.iconst (-1), 1) := by decide +kernel
theorem dX11_countOfOne_13 : decode cX11_countOfOne 13 = .ok (.ireturn, 1) := by decide +kernel
theorem dX11_countOfOne_14 : decode cX11_countOfOne 14 = .ok (.iload_n 1, 1) := by decide +kernel
theorem dX11_countOfOne_15 : decode cX11_countOfOne 15 = .ok (.bipush 10, 2) := by decide +kernel
theorem dX11_countOfOne_17 : decode cX11_countOfOne 17 = .ok (.irem, 1) := by decide +kernel
theorem dX11_countOfOne_18 : decode cX11_countOfOne 18 = .ok (.istore_n 2, 1) := by decide +kernel
theorem dX11_countOfOne_19 : decode cX11_countOfOne 19 = .ok (.iload_n 1, 1) := by decide +kernel
theorem dX11_countOfOne_20 : decode cX11_countOfOne 20 = .ok (.bipush 50, 2) := by decide +kernel
theorem dX11_countOfOne_22 : decode cX11_countOfOne 22 = .ok (.if_icmp .lt 28, 3) := by decide +kernel
theorem dX11_countOfOne_25 : decode cX11_countOfOne 25 = .ok (.iload_n 2, 1) := by decide +kernel
theorem dX11_countOfOne_26 : decode cX11_countOfOne 26 = .ok (.aload_n 0, 1) := by decide +kernel
theorem dX11_countOfOne_27 : decode cX11_countOfOne 27 = .ok (.getfield 33, 3) := by decide +kernel
theorem dX11_countOfOne_30 : decode cX11_countOfOne 30 = .ok (.getfield 127, 3) := by decide +kernel
theorem dX11_countOfOne_33 : decode cX11_countOfOne 33 = .ok (.if_icmp .ge 15, 3) := by decide +kernel
theorem dX11_countOfOne_36 : decode cX11_countOfOne 36 = .ok (.aload_n 0, 1) := by decide +kernel
theorem dX11_countOfOne_37 : decode cX11_countOfOne 37 = .ok (.getfield 33, 3) := by decide +kernel
theorem dX11_countOfOne_40 : decode cX11_countOfOne 40 = .ok (.getfield 131, 3) := by decide +kernel
theorem dX11_countOfOne_43 : decode cX11_countOfOne 43 = .ok (.iload_n 2, 1) := by decide +kernel
theorem dX11_countOfOne_44 : decode cX11_countOfOne 44 = .ok (.iaload, 1) := by decide +kernel
theorem dX11_countOfOne_45 : decode cX11_countOfOne 45 = .ok (.goto 4, 3) := by decide +kernel
theorem dX11_countOfOne_48 : decode cX11_countOfOne 48 = .ok (.iconst (-1), 1) := by decide +kernel
theorem dX11_countOfOne_49 : decode cX11_countOfOne 49 = .ok (.ireturn, 1) := by decide +kernel
theorem dX11_countOfOne_50 : decode cX11_countOfOne 50 = .ok (.aload_n 0, 1) := by decide +kernel
theorem dX11_countOfOne_51 : decode cX11_countOfOne 51 = .ok (.getfield 40, 3) := by decide +kernel
theorem dX11_countOfOne_54 : decode cX11_countOfOne 54 = .ok (.iload_n 2, 1) := by decide +kernel
theorem dX11_countOfOne_55 : decode cX11_countOfOne 55 = .ok (.invokevirtual 161, 3) := by decide +kernel
theorem dX11_countOfOne_58 : decode cX11_countOfOne 58 = .ok (.ifCond .ne 5, 3) := by decide +kernel
theorem dX11_countOfOne_61 : decode cX11_countOfOne 61 = .ok (.iconst (-1), 1) := by decide +kernel
theorem dX11_countOfOne_62 : decode cX11_countOfOne 62 = .ok (.ireturn, 1) := by decide +kernel
theorem dX11_countOfOne_63 : decode cX11_countOfOne 63 = .ok (.iload_n 1, 1) := by decide +kernel
theorem dX11_countOfOne_64 : decode cX11_countOfOne 64 = .ok (.bipush 20, 2) := by decide +kernel
theorem dX11_countOfOne_66 : decode cX11_countOfOne 66 = .ok (.if_icmp .ge 13, 3) := by decide +kernel
theorem dX11_countOfOne_69 : decode cX11_countOfOne 69 = .ok (.aload_n 0, 1) := by decide +kernel
theorem dX11_countOfOne_70 : decode cX11_countOfOne 70 = .ok (.getfield 40, 3) := by decide +kernel
theorem dX11_countOfOne_73 : decode cX11_countOfOne 73 = .ok (.getfield 331, 3) := by decide +kernel
theorem dX11_countOfOne_76 : decode cX11_countOfOne 76 = .ok (.iload_n 2, 1) := by decide +kernel
theorem dX11_countOfOne_77 : decode cX11_countOfOne 77 = .ok (.iaload, 1) := by decide +kernel
theorem dX11_countOfOne_78 : decode cX11_countOfOne 78 = .ok (.ireturn, 1) := by decide +kernel
theorem dX11_countOfOne_79 : decode cX11_countOfOne 79 = .ok (.iload_n 1, 1) := by decide +kernel
theorem dX11_countOfOne_80 : decode cX11_countOfOne 80 = .ok (.bipush 30, 2) := by decide +kernel
theorem dX11_countOfOne_82 : decode cX11_countOfOne 82 = .ok (.if_icmp .ge 13, 3) := by decide +kernel
theorem dX11_countOfOne_85 : decode cX11_countOfOne 85 = .ok (.aload_n 0, 1) := by decide +kernel
theorem dX11_countOfOne_86 : decode cX11_countOfOne 86 = .ok (.getfield 40, 3) := by decide +kernel
theorem dX11_countOfOne_89 : decode cX11_countOfOne 89 = .ok (.getfield 334, 3) := by decide +kernel
theorem dX11_countOfOne_92 : decode cX11_countOfOne 92 = .ok (.iload_n 2, 1) := by decide +kernel
theorem dX11_countOfOne_93 : decode cX11_countOfOne 93 = .ok (.iaload, 1) := by decide +kernel
theorem dX11_countOfOne_94 : decode cX11_countOfOne 94 = .ok (.ireturn, 1) := by decide +kernel
theorem dX11_countOfOne_95 : decode cX11_countOfOne 95 = .ok (.iload_n 1, 1) := by decide +kernel
theorem dX11_countOfOne_96 : decode cX11_countOfOne 96 = .ok (.bipush 40, 2) := by decide +kernel
theorem dX11_countOfOne_98 : decode cX11_countOfOne 98 = .ok (.if_icmp .ge 15, 3) := by decide +kernel
theorem dX11_countOfOne_101 : decode cX11_countOfOne 101 = .ok (.aload_n 0, 1) := by decide +kernel
theorem dX11_countOfOne_102 : decode cX11_countOfOne 102 = .ok (.getfield 40, 3) := by decide +kernel
theorem dX11_countOfOne_105 : decode cX11_countOfOne 105 = .ok (.getfield 337, 3) := by decide +kernel
theorem dX11_countOfOne_108 : decode cX11_countOfOne 108 = .ok (.iload_n 2, 1) := by decide +kernel
theorem dX11_countOfOne_109 : decode cX11_countOfOne 109 = .ok (.iaload, 1) := by decide +kernel
theorem dX11_countOfOne_110 : decode cX11_countOfOne 110 = .ok (.goto 14, 3) := by decide +kernel
theorem dX11_countOfOne_113 : decode cX11_countOfOne 113 = .ok (.aload_n 0, 1) := by decide +kernel
theorem dX11_countOfOne_114 : decode cX11_countOfOne 114 = .ok (.getfield 40, 3) := by decide +kernel
theorem dX11_countOfOne_117 : decode cX11_countOfOne 117 = .ok (.getfield 167, 3) := by decide +kernel
theorem dX11_countOfOne_120 : decode cX11_countOfOne 120 = .ok (.iload_n 2, 1) := by decide +kernel
theorem dX11_countOfOne_121 : decode cX11_countOfOne 121 = .ok (.iaload, 1) := by decide +kernel
theorem dX11_countOfOne_122 : decode cX11_countOfOne 122 = .ok (.iconst 3, 1) := by decide +kernel
theorem dX11_countOfOne_123 : decode cX11_countOfOne 123 = .ok (.iadd, 1) := by decide +kernel
theorem dX11_countOfOne_124 : decode cX11_countOfOne 124 = .ok (.ireturn, 1) := by decide +kernel
theorem dX11_drawOne_0 : decode cX11_drawOne 0 = .ok (.aload_n 0, 1) := by decide +kernel
theorem dX11_drawOne_1 : decode cX11_drawOne 1 = .ok (.getfield 40, 3) := by decide +kernel
theorem dX11_drawOne_4 : decode cX11_drawOne 4 = .ok (.sipush 25173, 3) := by decide +kernel
theorem dX11_drawOne_7 : decode cX11_drawOne 7 = .ok (.aload_n 0, 1) := by decide +kernel
theorem dX11_drawOne_8 : decode cX11_drawOne 8 = .ok (.getfield 40, 3) := by decide +kernel
theorem dX11_drawOne_11 : decode cX11_drawOne 11 = .ok (.getfield 306, 3) := by decide +kernel
theorem dX11_drawOne_14 : decode cX11_drawOne 14 = .ok (.imul, 1) := by decide +kernel
theorem dX11_drawOne_15 : decode cX11_drawOne 15 = .ok (.sipush 13849, 3) := by decide +kernel
theorem dX11_drawOne_18 : decode cX11_drawOne 18 = .ok (.iadd, 1) := by decide +kernel
theorem dX11_drawOne_19 : decode cX11_drawOne 19 = .ok (.ldc_w 340, 3) := by decide +kernel
theorem dX11_drawOne_22 : decode cX11_drawOne 22 = .ok (.irem, 1) := by decide +kernel
theorem dX11_drawOne_23 : decode cX11_drawOne 23 = .ok (.putfield 306, 3) := by decide +kernel
theorem dX11_drawOne_26 : decode cX11_drawOne 26 = .ok (.aload_n 0, 1) := by decide +kernel
theorem dX11_drawOne_27 : decode cX11_drawOne 27 = .ok (.getfield 40, 3) := by decide +kernel
theorem dX11_drawOne_30 : decode cX11_drawOne 30 = .ok (.getfield 306, 3) := by decide +kernel
theorem dX11_drawOne_33 : decode cX11_drawOne 33 = .ok (.bipush 10, 2) := by decide +kernel
theorem dX11_drawOne_35 : decode cX11_drawOne 35 = .ok (.irem, 1) := by decide +kernel
theorem dX11_drawOne_36 : decode cX11_drawOne 36 = .ok (.istore_n 1, 1) := by decide +kernel
theorem dX11_drawOne_37 : decode cX11_drawOne 37 = .ok (.aload_n 0, 1) := by decide +kernel
theorem dX11_drawOne_38 : decode cX11_drawOne 38 = .ok (.getfield 40, 3) := by decide +kernel
theorem dX11_drawOne_41 : decode cX11_drawOne 41 = .ok (.getfield 306, 3) := by decide +kernel
theorem dX11_drawOne_44 : decode cX11_drawOne 44 = .ok (.bipush 10, 2) := by decide +kernel
theorem dX11_drawOne_46 : decode cX11_drawOne 46 = .ok (.idiv, 1) := by decide +kernel
theorem dX11_drawOne_47 : decode cX11_drawOne 47 = .ok (.bipush 12, 2) := by decide +kernel
theorem dX11_drawOne_49 : decode cX11_drawOne 49 = .ok (.irem, 1) := by decide +kernel
theorem dX11_drawOne_50 : decode cX11_drawOne 50 = .ok (.istore_n 2, 1) := by decide +kernel
theorem dX11_drawOne_51 : decode cX11_drawOne 51 = .ok (.aload_n 0, 1) := by decide +kernel
theorem dX11_drawOne_52 : decode cX11_drawOne 52 = .ok (.getfield 40, 3) := by decide +kernel
theorem dX11_drawOne_55 : decode cX11_drawOne 55 = .ok (.iload_n 1, 1) := by decide +kernel
theorem dX11_drawOne_56 : decode cX11_drawOne 56 = .ok (.invokevirtual 161, 3) := by decide +kernel
theorem dX11_drawOne_59 : decode cX11_drawOne 59 = .ok (.ifCond .eq 24, 3) := by decide +kernel
theorem dX11_drawOne_62 : decode cX11_drawOne 62 = .ok (.aload_n 0, 1) := by decide +kernel
theorem dX11_drawOne_63 : decode cX11_drawOne 63 = .ok (.getfield 26, 3) := by decide +kernel
theorem dX11_drawOne_66 : decode cX11_drawOne 66 = .ok (.iload_n 2, 1) := by decide +kernel
theorem dX11_drawOne_67 : decode cX11_drawOne 67 = .ok (.invokevirtual 119, 3) := by decide +kernel
theorem dX11_drawOne_70 : decode cX11_drawOne 70 = .ok (.ifCond .eq 13, 3) := by decide +kernel
theorem dX11_drawOne_73 : decode cX11_drawOne 73 = .ok (.aload_n 0, 1) := by decide +kernel
theorem dX11_drawOne_74 : decode cX11_drawOne 74 = .ok (.getfield 40, 3) := by decide +kernel
theorem dX11_drawOne_77 : decode cX11_drawOne 77 = .ok (.getfield 334, 3) := by decide +kernel
theorem dX11_drawOne_80 : decode cX11_drawOne 80 = .ok (.iload_n 1, 1) := by decide +kernel
theorem dX11_drawOne_81 : decode cX11_drawOne 81 = .ok (.iload_n 2, 1) := by decide +kernel
theorem dX11_drawOne_82 : decode cX11_drawOne 82 = .ok (.iastore, 1) := by decide +kernel
theorem dX11_drawOne_83 : decode cX11_drawOne 83 = .ok (.return_, 1) := by decide +kernel
theorem dX11_roomsOnTape_0 : decode cX11_roomsOnTape 0 = .ok (.iconst 0, 1) := by decide +kernel
theorem dX11_roomsOnTape_1 : decode cX11_roomsOnTape 1 = .ok (.istore_n 3, 1) := by decide +kernel
theorem dX11_roomsOnTape_2 : decode cX11_roomsOnTape 2 = .ok (.iconst 0, 1) := by decide +kernel
theorem dX11_roomsOnTape_3 : decode cX11_roomsOnTape 3 = .ok (.istore 4, 2) := by decide +kernel
theorem dX11_roomsOnTape_5 : decode cX11_roomsOnTape 5 = .ok (.iload 4, 2) := by decide +kernel
theorem dX11_roomsOnTape_7 : decode cX11_roomsOnTape 7 = .ok (.iload_n 2, 1) := by decide +kernel
theorem dX11_roomsOnTape_8 : decode cX11_roomsOnTape 8 = .ok (.if_icmp .ge 81, 3) := by decide +kernel
theorem dX11_roomsOnTape_11 : decode cX11_roomsOnTape 11 = .ok (.aload_n 0, 1) := by decide +kernel
theorem dX11_roomsOnTape_12 : decode cX11_roomsOnTape 12 = .ok (.getfield 12, 3) := by decide +kernel
theorem dX11_roomsOnTape_15 : decode cX11_roomsOnTape 15 = .ok (.iload 4, 2) := by decide +kernel
theorem dX11_roomsOnTape_17 : decode cX11_roomsOnTape 17 = .ok (.invokevirtual 341, 3) := by decide +kernel
theorem dX11_roomsOnTape_20 : decode cX11_roomsOnTape 20 = .ok (.istore 5, 2) := by decide +kernel
theorem dX11_roomsOnTape_22 : decode cX11_roomsOnTape 22 = .ok (.iload 5, 2) := by decide +kernel
theorem dX11_roomsOnTape_24 : decode cX11_roomsOnTape 24 = .ok (.aload_n 0, 1) := by decide +kernel
theorem dX11_roomsOnTape_25 : decode cX11_roomsOnTape 25 = .ok (.getfield 33, 3) := by decide +kernel
theorem dX11_roomsOnTape_28 : decode cX11_roomsOnTape 28 = .ok (.getfield 127, 3) := by decide +kernel
theorem dX11_roomsOnTape_31 : decode cX11_roomsOnTape 31 = .ok (.invokestatic 108, 3) := by decide +kernel
theorem dX11_roomsOnTape_34 : decode cX11_roomsOnTape 34 = .ok (.ifCond .eq 12, 3) := by decide +kernel
theorem dX11_roomsOnTape_37 : decode cX11_roomsOnTape 37 = .ok (.iload_n 3, 1) := by decide +kernel
theorem dX11_roomsOnTape_38 : decode cX11_roomsOnTape 38 = .ok (.iload 5, 2) := by decide +kernel
theorem dX11_roomsOnTape_40 : decode cX11_roomsOnTape 40 = .ok (.invokestatic 231, 3) := by decide +kernel
theorem dX11_roomsOnTape_43 : decode cX11_roomsOnTape 43 = .ok (.ifCond .eq 5, 3) := by decide +kernel
theorem dX11_roomsOnTape_46 : decode cX11_roomsOnTape 46 = .ok (.iconst (-1), 1) := by decide +kernel
theorem dX11_roomsOnTape_47 : decode cX11_roomsOnTape 47 = .ok (.ireturn, 1) := by decide +kernel
theorem dX11_roomsOnTape_48 : decode cX11_roomsOnTape 48 = .ok (.aload_n 0, 1) := by decide +kernel
theorem dX11_roomsOnTape_49 : decode cX11_roomsOnTape 49 = .ok (.getfield 40, 3) := by decide +kernel
theorem dX11_roomsOnTape_52 : decode cX11_roomsOnTape 52 = .ok (.iload 5, 2) := by decide +kernel
theorem dX11_roomsOnTape_54 : decode cX11_roomsOnTape 54 = .ok (.invokevirtual 153, 3) := by decide +kernel
theorem dX11_roomsOnTape_57 : decode cX11_roomsOnTape 57 = .ok (.istore 6, 2) := by decide +kernel
theorem dX11_roomsOnTape_59 : decode cX11_roomsOnTape 59 = .ok (.iload 6, 2) := by decide +kernel
theorem dX11_roomsOnTape_61 : decode cX11_roomsOnTape 61 = .ok (.iconst (-1), 1) := by decide +kernel
theorem dX11_roomsOnTape_62 : decode cX11_roomsOnTape 62 = .ok (.if_icmp .eq 14, 3) := by decide +kernel
theorem dX11_roomsOnTape_65 : decode cX11_roomsOnTape 65 = .ok (.iload_n 1, 1) := by decide +kernel
theorem dX11_roomsOnTape_66 : decode cX11_roomsOnTape 66 = .ok (.iload 6, 2) := by decide +kernel
theorem dX11_roomsOnTape_68 : decode cX11_roomsOnTape 68 = .ok (.invokestatic 231, 3) := by decide +kernel
theorem dX11_roomsOnTape_71 : decode cX11_roomsOnTape 71 = .ok (.ifCond .ne 5, 3) := by decide +kernel
theorem dX11_roomsOnTape_74 : decode cX11_roomsOnTape 74 = .ok (.iconst (-1), 1) := by decide +kernel
theorem dX11_roomsOnTape_75 : decode cX11_roomsOnTape 75 = .ok (.ireturn, 1) := by decide +kernel
theorem dX11_roomsOnTape_76 : decode cX11_roomsOnTape 76 = .ok (.iload_n 3, 1) := by decide +kernel
theorem dX11_roomsOnTape_77 : decode cX11_roomsOnTape 77 = .ok (.iconst 1, 1) := by decide +kernel
theorem dX11_roomsOnTape_78 : decode cX11_roomsOnTape 78 = .ok (.iload 5, 2) := by decide +kernel
theorem dX11_roomsOnTape_80 : decode cX11_roomsOnTape 80 = .ok (.ishl, 1) := by decide +kernel
theorem dX11_roomsOnTape_81 : decode cX11_roomsOnTape 81 = .ok (.ior, 1) := by decide +kernel
theorem dX11_roomsOnTape_82 : decode cX11_roomsOnTape 82 = .ok (.istore_n 3, 1) := by decide +kernel
theorem dX11_roomsOnTape_83 : decode cX11_roomsOnTape 83 = .ok (.iinc 4 1, 3) := by decide +kernel
theorem dX11_roomsOnTape_86 : decode cX11_roomsOnTape 86 = .ok (.goto (-81), 3) := by decide +kernel
theorem dX11_roomsOnTape_89 : decode cX11_roomsOnTape 89 = .ok (.iload_n 3, 1) := by decide +kernel
theorem dX11_roomsOnTape_90 : decode cX11_roomsOnTape 90 = .ok (.ireturn, 1) := by decide +kernel
theorem dX11_areStays_0 : decode cX11_areStays 0 = .ok (.iload_n 1, 1) := by decide +kernel
theorem dX11_areStays_1 : decode cX11_areStays 1 = .ok (.ifCond .le 29, 3) := by decide +kernel
theorem dX11_areStays_4 : decode cX11_areStays 4 = .ok (.iload_n 1, 1) := by decide +kernel
theorem dX11_areStays_5 : decode cX11_areStays 5 = .ok (.aload_n 0, 1) := by decide +kernel
theorem dX11_areStays_6 : decode cX11_areStays 6 = .ok (.getfield 40, 3) := by decide +kernel
theorem dX11_areStays_9 : decode cX11_areStays 9 = .ok (.getfield 164, 3) := by decide +kernel
theorem dX11_areStays_12 : decode cX11_areStays 12 = .ok (.invokestatic 344, 3) := by decide +kernel
theorem dX11_areStays_15 : decode cX11_areStays 15 = .ok (.ifCond .eq 15, 3) := by decide +kernel
theorem dX11_areStays_18 : decode cX11_areStays 18 = .ok (.iload_n 1, 1) := by decide +kernel
theorem dX11_areStays_19 : decode cX11_areStays 19 = .ok (.invokestatic 226, 3) := by decide +kernel
theorem dX11_areStays_22 : decode cX11_areStays 22 = .ok (.iload_n 2, 1) := by decide +kernel
theorem dX11_areStays_23 : decode cX11_areStays 23 = .ok (.if_icmp .gt 7, 3) := by decide +kernel
theorem dX11_areStays_26 : decode cX11_areStays 26 = .ok (.iconst 1, 1) := by decide +kernel
theorem dX11_areStays_27 : decode cX11_areStays 27 = .ok (.goto 4, 3) := by decide +kernel
theorem dX11_areStays_30 : decode cX11_areStays 30 = .ok (.iconst 0, 1) := by decide +kernel
theorem dX11_areStays_31 : decode cX11_areStays 31 = .ok (.ireturn, 1) := by decide +kernel
theorem dX11_isBelow_0 : decode cX11_isBelow 0 = .ok (.iload_n 0, 1) := by decide +kernel
theorem dX11_isBelow_1 : decode cX11_isBelow 1 = .ok (.ifCond .lt 12, 3) := by decide +kernel
theorem dX11_isBelow_4 : decode cX11_isBelow 4 = .ok (.iload_n 0, 1) := by decide +kernel
theorem dX11_isBelow_5 : decode cX11_isBelow 5 = .ok (.iload_n 1, 1) := by decide +kernel
theorem dX11_isBelow_6 : decode cX11_isBelow 6 = .ok (.if_icmp .ge 7, 3) := by decide +kernel
theorem dX11_isBelow_9 : decode cX11_isBelow 9 = .ok (.iconst 1, 1) := by decide +kernel
theorem dX11_isBelow_10 : decode cX11_isBelow 10 = .ok (.goto 4, 3) := by decide +kernel
theorem dX11_isBelow_13 : decode cX11_isBelow 13 = .ok (.iconst 0, 1) := by decide +kernel
theorem dX11_isBelow_14 : decode cX11_isBelow 14 = .ok (.ireturn, 1) := by decide +kernel
theorem dX11_isUpTo_0 : decode cX11_isUpTo 0 = .ok (.iload_n 0, 1) := by decide +kernel
theorem dX11_isUpTo_1 : decode cX11_isUpTo 1 = .ok (.ifCond .lt 12, 3) := by decide +kernel
theorem dX11_isUpTo_4 : decode cX11_isUpTo 4 = .ok (.iload_n 0, 1) := by decide +kernel
theorem dX11_isUpTo_5 : decode cX11_isUpTo 5 = .ok (.iload_n 1, 1) := by decide +kernel
theorem dX11_isUpTo_6 : decode cX11_isUpTo 6 = .ok (.if_icmp .gt 7, 3) := by decide +kernel
theorem dX11_isUpTo_9 : decode cX11_isUpTo 9 = .ok (.iconst 1, 1) := by decide +kernel
theorem dX11_isUpTo_10 : decode cX11_isUpTo 10 = .ok (.goto 4, 3) := by decide +kernel
theorem dX11_isUpTo_13 : decode cX11_isUpTo 13 = .ok (.iconst 0, 1) := by decide +kernel
theorem dX11_isUpTo_14 : decode cX11_isUpTo 14 = .ok (.ireturn, 1) := by decide +kernel
theorem dX11_isIn_0 : decode cX11_isIn 0 = .ok (.iload_n 1, 1) := by decide +kernel
theorem dX11_isIn_1 : decode cX11_isIn 1 = .ok (.bipush 12, 2) := by decide +kernel
theorem dX11_isIn_3 : decode cX11_isIn 3 = .ok (.invokestatic 108, 3) := by decide +kernel
theorem dX11_isIn_6 : decode cX11_isIn 6 = .ok (.ifCond .eq 15, 3) := by decide +kernel
theorem dX11_isIn_9 : decode cX11_isIn 9 = .ok (.iload_n 0, 1) := by decide +kernel
theorem dX11_isIn_10 : decode cX11_isIn 10 = .ok (.iload_n 1, 1) := by decide +kernel
theorem dX11_isIn_11 : decode cX11_isIn 11 = .ok (.ishr, 1) := by decide +kernel
theorem dX11_isIn_12 : decode cX11_isIn 12 = .ok (.iconst 1, 1) := by decide +kernel
theorem dX11_isIn_13 : decode cX11_isIn 13 = .ok (.iand, 1) := by decide +kernel
theorem dX11_isIn_14 : decode cX11_isIn 14 = .ok (.ifCond .eq 7, 3) := by decide +kernel
theorem dX11_isIn_17 : decode cX11_isIn 17 = .ok (.iconst 1, 1) := by decide +kernel
theorem dX11_isIn_18 : decode cX11_isIn 18 = .ok (.goto 4, 3) := by decide +kernel
theorem dX11_isIn_21 : decode cX11_isIn 21 = .ok (.iconst 0, 1) := by decide +kernel
theorem dX11_isIn_22 : decode cX11_isIn 22 = .ok (.ireturn, 1) := by decide +kernel
theorem dX11_isPart_0 : decode cX11_isPart 0 = .ok (.iload_n 0, 1) := by decide +kernel
theorem dX11_isPart_1 : decode cX11_isPart 1 = .ok (.iload_n 1, 1) := by decide +kernel
theorem dX11_isPart_2 : decode cX11_isPart 2 = .ok (.iconst (-1), 1) := by decide +kernel
theorem dX11_isPart_3 : decode cX11_isPart 3 = .ok (.ixor, 1) := by decide +kernel
theorem dX11_isPart_4 : decode cX11_isPart 4 = .ok (.iand, 1) := by decide +kernel
theorem dX11_isPart_5 : decode cX11_isPart 5 = .ok (.ifCond .ne 7, 3) := by decide +kernel
theorem dX11_isPart_8 : decode cX11_isPart 8 = .ok (.iconst 1, 1) := by decide +kernel
theorem dX11_isPart_9 : decode cX11_isPart 9 = .ok (.goto 4, 3) := by decide +kernel
theorem dX11_isPart_12 : decode cX11_isPart 12 = .ok (.iconst 0, 1) := by decide +kernel
theorem dX11_isPart_13 : decode cX11_isPart 13 = .ok (.ireturn, 1) := by decide +kernel
theorem dX12_init_0 : decode cX12_init 0 = .ok (.aload_n 0, 1) := by decide +kernel
theorem dX12_init_1 : decode cX12_init 1 = .ok (.invokespecial 1, 3) := by decide +kernel
theorem dX12_init_4 : decode cX12_init 4 = .ok (.aload_n 0, 1) := by decide +kernel
theorem dX12_init_5 : decode cX12_init 5 = .ok (.sipush 200, 3) := by decide +kernel
theorem dX12_init_8 : decode cX12_init 8 = .ok (.newarray .byte, 2) := by decide +kernel
theorem dX12_init_10 : decode cX12_init 10 = .ok (.putfield 7, 3) := by decide +kernel
theorem dX12_init_13 : decode cX12_init 13 = .ok (.aload_n 0, 1) := by decide +kernel
theorem dX12_init_14 : decode cX12_init 14 = .ok (.sipush 864, 3) := by decide +kernel
theorem dX12_init_17 : decode cX12_init 17 = .ok (.newarray .int, 2) := by decide +kernel
theorem dX12_init_19 : decode cX12_init 19 = .ok (.putfield 13, 3) := by decide +kernel
theorem dX12_init_22 : decode cX12_init 22 = .ok (.aload_n 0, 1) := by decide +kernel
theorem dX12_init_23 : decode cX12_init 23 = .ok (.bipush 72, 2) := by decide +kernel
theorem dX12_init_25 : decode cX12_init 25 = .ok (.newarray .int, 2) := by decide +kernel
theorem dX12_init_27 : decode cX12_init 27 = .ok (.putfield 17, 3) := by decide +kernel
theorem dX12_init_30 : decode cX12_init 30 = .ok (.aload_n 0, 1) := by decide +kernel
theorem dX12_init_31 : decode cX12_init 31 = .ok (.bipush 10, 2) := by decide +kernel
theorem dX12_init_33 : decode cX12_init 33 = .ok (.newarray .int, 2) := by decide +kernel
theorem dX12_init_35 : decode cX12_init 35 = .ok (.putfield 20, 3) := by decide +kernel
theorem dX12_init_38 : decode cX12_init 38 = .ok (.aload_n 0, 1) := by decide +kernel
theorem dX12_init_39 : decode cX12_init 39 = .ok (.iconst 3, 1) := by decide +kernel
theorem dX12_init_40 : decode cX12_init 40 = .ok (.newarray .int, 2) := by decide +kernel
theorem dX12_init_42 : decode cX12_init 42 = .ok (.putfield 23, 3) := by decide +kernel
theorem dX12_init_45 : decode cX12_init 45 = .ok (.aload_n 0, 1) := by decide +kernel
theorem dX12_init_46 : decode cX12_init 46 = .ok (.iconst 3, 1) := by decide +kernel
theorem dX12_init_47 : decode cX12_init 47 = .ok (.newarray .int, 2) := by decide +kernel
theorem dX12_init_49 : decode cX12_init 49 = .ok (.putfield 26, 3) := by decide +kernel
theorem dX12_init_52 : decode cX12_init 52 = .ok (.aload_n 0, 1) := by decide +kernel
theorem dX12_init_53 : decode cX12_init 53 = .ok (.iconst 4, 1) := by decide +kernel
theorem dX12_init_54 : decode cX12_init 54 = .ok (.newarray .int, 2) := by decide +kernel
theorem dX12_init_56 : decode cX12_init 56 = .ok (.putfield 29, 3) := by decide +kernel
theorem dX12_init_59 : decode cX12_init 59 = .ok (.aload_n 0, 1) := by decide +kernel
theorem dX12_init_60 : decode cX12_init 60 = .ok (.bipush 10, 2) := by decide +kernel
theorem dX12_init_62 : decode cX12_init 62 = .ok (.newarray .int, 2) := by decide +kernel
theorem dX12_init_64 : decode cX12_init 64 = .ok (.putfield 32, 3) := by decide +kernel
theorem dX12_init_67 : decode cX12_init 67 = .ok (.aload_n 0, 1) := by decide +kernel
theorem dX12_init_68 : decode cX12_init 68 = .ok (.bipush 10, 2) := by decide +kernel
theorem dX12_init_70 : decode cX12_init 70 = .ok (.newarray .int, 2) := by decide +kernel
theorem dX12_init_72 : decode cX12_init 72 = .ok (.putfield 35, 3) := by decide +kernel
theorem dX12_init_75 : decode cX12_init 75 = .ok (.aload_n 0, 1) := by decide +kernel
theorem dX12_init_76 : decode cX12_init 76 = .ok (.bipush 10, 2) := by decide +kernel
theorem dX12_init_78 : decode cX12_init 78 = .ok (.newarray .int, 2) := by decide +kernel
theorem dX12_init_80 : decode cX12_init 80 = .ok (.putfield 38, 3) := by decide +kernel
theorem dX12_init_83 : decode cX12_init 83 = .ok (.aload_n 0, 1) := by decide +kernel
theorem dX12_init_84 : decode cX12_init 84 = .ok (.bipush 10, 2) := by decide +kernel
theorem dX12_init_86 : decode cX12_init 86 = .ok (.newarray .int, 2) := by decide +kernel
theorem dX12_init_88 : decode cX12_init 88 = .ok (.putfield 41, 3) := by decide +kernel
theorem dX12_init_91 : decode cX12_init 91 = .ok (.aload_n 0, 1) := by decide +kernel
theorem dX12_init_92 : decode cX12_init 92 = .ok (.sipush 180, 3) := by decide +kernel
theorem dX12_init_95 : decode cX12_init 95 = .ok (.newarray .int, 2) := by decide +kernel
theorem dX12_init_97 : decode cX12_init 97 = .ok (.putfield 44, 3) := by decide +kernel
theorem dX12_init_100 : decode cX12_init 100 = .ok (.aload_n 0, 1) := by decide +kernel
theorem dX12_init_101 : decode cX12_init 101 = .ok (.sipush 180, 3) := by decide +kernel
theorem dX12_init_104 : decode cX12_init 104 = .ok (.newarray .int, 2) := by decide +kernel
theorem dX12_init_106 : decode cX12_init 106 = .ok (.putfield 47, 3) := by decide +kernel
theorem dX12_init_109 : decode cX12_init 109 = .ok (.aload_n 0, 1) := by decide +kernel
theorem dX12_init_110 : decode cX12_init 110 = .ok (.bipush 12, 2) := by decide +kernel
theorem dX12_init_112 : decode cX12_init 112 = .ok (.newarray .int, 2) := by decide +kernel
theorem dX12_init_114 : decode cX12_init 114 = .ok (.putfield 50, 3) := by decide +kernel
theorem dX12_init_117 : decode cX12_init 117 = .ok (.aload_n 0, 1) := by decide +kernel
theorem dX12_init_118 : decode cX12_init 118 = .ok (.bipush 12, 2) := by decide +kernel
theorem dX12_init_120 : decode cX12_init 120 = .ok (.newarray .int, 2) := by decide +kernel
theorem dX12_init_122 : decode cX12_init 122 = .ok (.putfield 53, 3) := by decide +kernel
theorem dX12_init_125 : decode cX12_init 125 = .ok (.aload_n 0, 1) := by decide +kernel
theorem dX12_init_126 : decode cX12_init 126 = .ok (.bipush 12, 2) := by decide +kernel
theorem dX12_init_128 : decode cX12_init 128 = .ok (.newarray .int, 2) := by decide +kernel
theorem dX12_init_130 : decode cX12_init 130 = .ok (.putfield 56, 3) := by decide +kernel
theorem dX12_init_133 : decode cX12_init 133 = .ok (.aload_n 0, 1) := by decide +kernel
theorem dX12_init_134 : decode cX12_init 134 = .ok (.bipush 12, 2) := by decide +kernel
theorem dX12_init_136 : decode cX12_init 136 = .ok (.newarray .int, 2) := by decide +kernel
theorem dX12_init_138 : decode cX12_init 138 = .ok (.putfield 59, 3) := by decide +kernel
theorem dX12_init_141 : decode cX12_init 141 = .ok (.aload_n 0, 1) := by decide +kernel
theorem dX12_init_142 : decode cX12_init 142 = .ok (.sipush 180, 3) := by decide +kernel
theorem dX12_init_145 : decode cX12_init 145 = .ok (.newarray .int, 2) := by decide +kernel
theorem dX12_init_147 : decode cX12_init 147 = .ok (.putfield 62, 3) := by decide +kernel
theorem dX12_init_150 : decode cX12_init 150 = .ok (.aload_n 0, 1) := by decide +kernel
theorem dX12_init_151 : decode cX12_init 151 = .ok (.bipush 12, 2) := by decide +kernel
theorem dX12_init_153 : decode cX12_init 153 = .ok (.newarray .int, 2) := by decide +kernel
theorem dX12_init_155 : decode cX12_init 155 = .ok (.putfield 65, 3) := by decide +kernel
theorem dX12_init_158 : decode cX12_init 158 = .ok (.aload_n 0, 1) := by decide +kernel
theorem dX12_init_159 : decode cX12_init 159 = .ok (.bipush 12, 2) := by decide +kernel
theorem dX12_init_161 : decode cX12_init 161 = .ok (.newarray .int, 2) := by decide +kernel
theorem dX12_init_163 : decode cX12_init 163 = .ok (.putfield 68, 3) := by decide +kernel
theorem dX12_init_166 : decode cX12_init 166 = .ok (.aload_n 0, 1) := by decide +kernel
theorem dX12_init_167 : decode cX12_init 167 = .ok (.bipush 12, 2) := by decide +kernel
theorem dX12_init_169 : decode cX12_init 169 = .ok (.newarray .int, 2) := by decide +kernel
theorem dX12_init_171 : decode cX12_init 171 = .ok (.putfield 71, 3) := by decide +kernel
theorem dX12_init_174 : decode cX12_init 174 = .ok (.aload_n 0, 1) := by decide +kernel
theorem dX12_init_175 : decode cX12_init 175 = .ok (.bipush 12, 2) := by decide +kernel
theorem dX12_init_177 : decode cX12_init 177 = .ok (.newarray .int, 2) := by decide +kernel
theorem dX12_init_179 : decode cX12_init 179 = .ok (.putfield 74, 3) := by decide +kernel
theorem dX12_init_182 : decode cX12_init 182 = .ok (.aload_n 0, 1) := by decide +kernel
theorem dX12_init_183 : decode cX12_init 183 = .ok (.sipush 180, 3) := by decide +kernel
theorem dX12_init_186 : decode cX12_init 186 = .ok (.newarray .int, 2) := by decide +kernel
theorem dX12_init_188 : decode cX12_init 188 = .ok (.putfield 77, 3) := by decide +kernel
theorem dX12_init_191 : decode cX12_init 191 = .ok (.aload_n 0, 1) := by decide +kernel
theorem dX12_init_192 : decode cX12_init 192 = .ok (.bipush 9, 2) := by decide +kernel
theorem dX12_init_194 : decode cX12_init 194 = .ok (.newarray .int, 2) := by decide +kernel
theorem dX12_init_196 : decode cX12_init 196 = .ok (.putfield 80, 3) := by decide +kernel
theorem dX12_init_199 : decode cX12_init 199 = .ok (.aload_n 0, 1) := by decide +kernel
theorem dX12_init_200 : decode cX12_init 200 = .ok (.bipush 10, 2) := by decide +kernel
theorem dX12_init_202 : decode cX12_init 202 = .ok (.newarray .int, 2) := by decide +kernel
theorem dX12_init_204 : decode cX12_init 204 = .ok (.putfield 83, 3) := by decide +kernel
theorem dX12_init_207 : decode cX12_init 207 = .ok (.aload_n 0, 1) := by decide +kernel
theorem dX12_init_208 : decode cX12_init 208 = .ok (.bipush 10, 2) := by decide +kernel
theorem dX12_init_210 : decode cX12_init 210 = .ok (.newarray .int, 2) := by decide +kernel
theorem dX12_init_212 : decode cX12_init 212 = .ok (.putfield 86, 3) := by decide +kernel
theorem dX12_init_215 : decode cX12_init 215 = .ok (.aload_n 0, 1) := by decide +kernel
theorem dX12_init_216 : decode cX12_init 216 = .ok (.iconst 3, 1) := by decide +kernel
theorem dX12_init_217 : decode cX12_init 217 = .ok (.newarray .int, 2) := by decide +kernel
theorem dX12_init_219 : decode cX12_init 219 = .ok (.putfield 89, 3) := by decide +kernel
theorem dX12_init_222 : decode cX12_init 222 = .ok (.aload_n 0, 1) := by decide +kernel
theorem dX12_init_223 : decode cX12_init 223 = .ok (.iconst 4, 1) := by decide +kernel
theorem dX12_init_224 : decode cX12_init 224 = .ok (.newarray .int, 2) := by decide +kernel
theorem dX12_init_226 : decode cX12_init 226 = .ok (.putfield 92, 3) := by decide +kernel
theorem dX12_init_229 : decode cX12_init 229 = .ok (.aload_n 0, 1) := by decide +kernel
theorem dX12_init_230 : decode cX12_init 230 = .ok (.sipush 720, 3) := by decide +kernel
theorem dX12_init_233 : decode cX12_init 233 = .ok (.newarray .int, 2) := by decide +kernel
theorem dX12_init_235 : decode cX12_init 235 = .ok (.putfield 95, 3) := by decide +kernel
theorem dX12_init_238 : decode cX12_init 238 = .ok (.aload_n 0, 1) := by decide +kernel
theorem dX12_init_239 : decode cX12_init 239 = .ok (.bipush 10, 2) := by decide +kernel
theorem dX12_init_241 : decode cX12_init 241 = .ok (.newarray .int, 2) := by decide +kernel
theorem dX12_init_243 : decode cX12_init 243 = .ok (.putfield 98, 3) := by decide +kernel
theorem dX12_init_246 : decode cX12_init 246 = .ok (.aload_n 0, 1) := by decide +kernel
theorem dX12_init_247 : decode cX12_init 247 = .ok (.bipush 10, 2) := by decide +kernel
theorem dX12_init_249 : decode cX12_init 249 = .ok (.newarray .int, 2) := by decide +kernel
theorem dX12_init_251 : decode cX12_init 251 = .ok (.putfield 101, 3) := by decide +kernel
theorem dX12_init_254 : decode cX12_init 254 = .ok (.aload_n 0, 1) := by decide +kernel
theorem dX12_init_255 : decode cX12_init 255 = .ok (.bipush 6, 2) := by decide +kernel
theorem dX12_init_257 : decode cX12_init 257 = .ok (.newarray .int, 2) := by decide +kernel
theorem dX12_init_259 : decode cX12_init 259 = .ok (.putfield 104, 3) := by decide +kernel
theorem dX12_init_262 : decode cX12_init 262 = .ok (.aload_n 0, 1) := by decide +kernel
theorem dX12_init_263 : decode cX12_init 263 = .ok (.bipush 10, 2) := by decide +kernel
theorem dX12_init_265 : decode cX12_init 265 = .ok (.newarray .int, 2) := by decide +kernel
theorem dX12_init_267 : decode cX12_init 267 = .ok (.putfield 107, 3) := by decide +kernel
theorem dX12_init_270 : decode cX12_init 270 = .ok (.aload_n 0, 1) := by decide +kernel
theorem dX12_init_271 : decode cX12_init 271 = .ok (.bipush 10, 2) := by decide +kernel
theorem dX12_init_273 : decode cX12_init 273 = .ok (.newarray .int, 2) := by decide +kernel
theorem dX12_init_275 : decode cX12_init 275 = .ok (.putfield 110, 3) := by decide +kernel
theorem dX12_init_278 : decode cX12_init 278 = .ok (.aload_n 0, 1) := by decide +kernel
theorem dX12_init_279 : decode cX12_init 279 = .ok (.bipush 6, 2) := by decide +kernel
theorem dX12_init_281 : decode cX12_init 281 = .ok (.newarray .int, 2) := by decide +kernel
theorem dX12_init_283 : decode cX12_init 283 = .ok (.putfield 113, 3) := by decide +kernel
theorem dX12_init_286 : decode cX12_init 286 = .ok (.aload_n 0, 1) := by decide +kernel
theorem dX12_init_287 : decode cX12_init 287 = .ok (.bipush 24, 2) := by decide +kernel
theorem dX12_init_289 : decode cX12_init 289 = .ok (.newarray .int, 2) := by decide +kernel
theorem dX12_init_291 : decode cX12_init 291 = .ok (.putfield 116, 3) := by decide +kernel
theorem dX12_init_294 : decode cX12_init 294 = .ok (.aload_n 0, 1) := by decide +kernel
theorem dX12_init_295 : decode cX12_init 295 = .ok (.iconst 3, 1) := by decide +kernel
theorem dX12_init_296 : decode cX12_init 296 = .ok (.newarray .int, 2) := by decide +kernel
theorem dX12_init_298 : decode cX12_init 298 = .ok (.putfield 119, 3) := by decide +kernel
theorem dX12_init_301 : decode cX12_init 301 = .ok (.aload_n 0, 1) := by decide +kernel
theorem dX12_init_302 : decode cX12_init 302 = .ok (.iconst 3, 1) := by decide +kernel
theorem dX12_init_303 : decode cX12_init 303 = .ok (.newarray .int, 2) := by decide +kernel
theorem dX12_init_305 : decode cX12_init 305 = .ok (.putfield 122, 3) := by decide +kernel
theorem dX12_init_308 : decode cX12_init 308 = .ok (.aload_n 0, 1) := by decide +kernel
theorem dX12_init_309 : decode cX12_init 309 = .ok (.bipush 10, 2) := by decide +kernel
theorem dX12_init_311 : decode cX12_init 311 = .ok (.newarray .int, 2) := by decide +kernel
theorem dX12_init_313 : decode cX12_init 313 = .ok (.putfield 125, 3) := by decide +kernel
theorem dX12_init_316 : decode cX12_init 316 = .ok (.aload_n 0, 1) := by decide +kernel
theorem dX12_init_317 : decode cX12_init 317 = .ok (.bipush 10, 2) := by decide +kernel
theorem dX12_init_319 : decode cX12_init 319 = .ok (.newarray .int, 2) := by decide +kernel
theorem dX12_init_321 : decode cX12_init 321 = .ok (.putfield 128, 3) := by decide +kernel
theorem dX12_init_324 : decode cX12_init 324 = .ok (.aload_n 0, 1) := by decide +kernel
theorem dX12_init_325 : decode cX12_init 325 = .ok (.bipush 10, 2) := by decide +kernel
theorem dX12_init_327 : decode cX12_init 327 = .ok (.newarray .int, 2) := by decide +kernel
theorem dX12_init_329 : decode cX12_init 329 = .ok (.putfield 131, 3) := by decide +kernel
theorem dX12_init_332 : decode cX12_init 332 = .ok (.aload_n 0, 1) := by decide +kernel
theorem dX12_init_333 : decode cX12_init 333 = .ok (.bipush 10, 2) := by decide +kernel
theorem dX12_init_335 : decode cX12_init 335 = .ok (.newarray .int, 2) := by decide +kernel
theorem dX12_init_337 : decode cX12_init 337 = .ok (.putfield 134, 3) := by decide +kernel
theorem dX12_init_340 : decode cX12_init 340 = .ok (.aload_n 0, 1) := by decide +kernel
theorem dX12_init_341 : decode cX12_init 341 = .ok (.iconst 1, 1) := by decide +kernel
theorem dX12_init_342 : decode cX12_init 342 = .ok (.putfield 137, 3) := by decide +kernel
theorem dX12_init_345 : decode cX12_init 345 = .ok (.aload_n 0, 1) := by decide +kernel
theorem dX12_init_346 : decode cX12_init 346 = .ok (.sipush 9999, 3) := by decide +kernel
theorem dX12_init_349 : decode cX12_init 349 = .ok (.putfield 141, 3) := by decide +kernel
theorem dX12_init_352 : decode cX12_init 352 = .ok (.iconst 0, 1) := by decide +kernel
theorem dX12_init_353 : decode cX12_init 353 = .ok (.istore_n 1, 1) := by decide +kernel
theorem dX12_init_354 : decode cX12_init 354 = .ok (.iload_n 1, 1) := by decide +kernel
theorem dX12_init_355 : decode cX12_init 355 = .ok (.iconst 4, 1) := by decide +kernel
theorem dX12_init_356 : decode cX12_init 356 = .ok (.if_icmp .ge 18, 3) := by decide +kernel
theorem dX12_init_359 : decode cX12_init 359 = .ok (.aload_n 0, 1) := by decide +kernel
theorem dX12_init_360 : decode cX12_init 360 = .ok (.getfield 29, 3) := by decide +kernel
theorem dX12_init_363 : decode cX12_init 363 = .ok (.iload_n 1, 1) := by decide +kernel
theorem dX12_init_364 : decode cX12_init 364 = .ok (.sipush 999, 3) := by decide +kernel
theorem dX12_init_367 : decode cX12_init 367 = .ok (.iastore, 1) := by decide +kernel
theorem dX12_init_368 : decode cX12_init 368 = .ok (.iinc 1 1, 3) := by decide +kernel
theorem dX12_init_371 : decode cX12_init 371 = .ok (.goto (-17), 3) := by decide +kernel
theorem dX12_init_374 : decode cX12_init 374 = .ok (.return_, 1) := by decide +kernel
theorem dX12_in_0 : decode cX12_in 0 = .ok (.iload_n 0, 1) := by decide +kernel
theorem dX12_in_1 : decode cX12_in 1 = .ok (.iload_n 1, 1) := by decide +kernel
theorem dX12_in_2 : decode cX12_in 2 = .ok (.if_icmp .lt 12, 3) := by decide +kernel
theorem dX12_in_5 : decode cX12_in 5 = .ok (.iload_n 0, 1) := by decide +kernel
theorem dX12_in_6 : decode cX12_in 6 = .ok (.iload_n 2, 1) := by decide +kernel
theorem dX12_in_7 : decode cX12_in 7 = .ok (.if_icmp .gt 7, 3) := by decide +kernel
theorem dX12_in_10 : decode cX12_in 10 = .ok (.iconst 1, 1) := by decide +kernel
theorem dX12_in_11 : decode cX12_in 11 = .ok (.goto 4, 3) := by decide +kernel
theorem dX12_in_14 : decode cX12_in 14 = .ok (.iconst 0, 1) := by decide +kernel
theorem dX12_in_15 : decode cX12_in 15 = .ok (.ireturn, 1) := by decide +kernel
theorem dX12_min_0 : decode cX12_min 0 = .ok (.iload_n 0, 1) := by decide +kernel
theorem dX12_min_1 : decode cX12_min 1 = .ok (.iload_n 1, 1) := by decide +kernel
theorem dX12_min_2 : decode cX12_min 2 = .ok (.if_icmp .ge 7, 3) := by decide +kernel
theorem dX12_min_5 : decode cX12_min 5 = .ok (.iload_n 0, 1) := by decide +kernel
theorem dX12_min_6 : decode cX12_min 6 = .ok (.goto 4, 3) := by decide +kernel
theorem dX12_min_9 : decode cX12_min 9 = .ok (.iload_n 1, 1) := by decide +kernel
theorem dX12_min_10 : decode cX12_min 10 = .ok (.ireturn, 1) := by decide +kernel
theorem dX12_max_0 : decode cX12_max 0 = .ok (.iload_n 0, 1) := by decide +kernel
theorem dX12_max_1 : decode cX12_max 1 = .ok (.iload_n 1, 1) := by decide +kernel
theorem dX12_max_2 : decode cX12_max 2 = .ok (.if_icmp .le 7, 3) := by decide +kernel
theorem dX12_max_5 : decode cX12_max 5 = .ok (.iload_n 0, 1) := by decide +kernel
theorem dX12_max_6 : decode cX12_max 6 = .ok (.goto 4, 3) := by decide +kernel
theorem dX12_max_9 : decode cX12_max 9 = .ok (.iload_n 1, 1) := by decide +kernel
theorem dX12_max_10 : decode cX12_max 10 = .ok (.ireturn, 1) := by decide +kernel
theorem dX12_size_0 : decode cX12_size 0 = .ok (.iload_n 0, 1) := by decide +kernel
theorem dX12_size_1 : decode cX12_size 1 = .ok (.ifCond .ge 8, 3) := by decide +kernel
theorem dX12_size_4 : decode cX12_size 4 = .ok (.iload_n 0, 1) := by decide +kernel
theorem dX12_size_5 : decode cX12_size 5 = .ok (.ineg, 1) := by decide +kernel
theorem dX12_size_6 : decode cX12_size 6 = .ok (.goto 4, 3) := by decide +kernel
theorem dX12_size_9 : decode cX12_size 9 = .ok (.iload_n 0, 1) := by decide +kernel
theorem dX12_size_10 : decode cX12_size 10 = .ok (.ireturn, 1) := by decide +kernel
theorem dX12_bits_0 : decode cX12_bits 0 = .ok (.iconst 0, 1) := by decide +kernel
theorem dX12_bits_1 : decode cX12_bits 1 = .ok (.istore_n 1, 1) := by decide +kernel
theorem dX12_bits_2 : decode cX12_bits 2 = .ok (.iconst 0, 1) := by decide +kernel
theorem dX12_bits_3 : decode cX12_bits 3 = .ok (.istore_n 2, 1) := by decide +kernel
theorem dX12_bits_4 : decode cX12_bits 4 = .ok (.iload_n 2, 1) := by decide +kernel
theorem dX12_bits_5 : decode cX12_bits 5 = .ok (.bipush 12, 2) := by decide +kernel
theorem dX12_bits_7 : decode cX12_bits 7 = .ok (.if_icmp .ge 17, 3) := by decide +kernel
theorem dX12_bits_10 : decode cX12_bits 10 = .ok (.iload_n 1, 1) := by decide +kernel
theorem dX12_bits_11 : decode cX12_bits 11 = .ok (.iload_n 0, 1) := by decide +kernel
theorem dX12_bits_12 : decode cX12_bits 12 = .ok (.iload_n 2, 1) := by decide +kernel
theorem dX12_bits_13 : decode cX12_bits 13 = .ok (.ishr, 1) := by decide +kernel
theorem dX12_bits_14 : decode cX12_bits 14 = .ok (.iconst 1, 1) := by decide +kernel
theorem dX12_bits_15 : decode cX12_bits 15 = .ok (.iand, 1) := by decide +kernel
theorem dX12_bits_16 : decode cX12_bits 16 = .ok (.iadd, 1) := by decide +kernel
theorem dX12_bits_17 : decode cX12_bits 17 = .ok (.istore_n 1, 1) := by decide +kernel
theorem dX12_bits_18 : decode cX12_bits 18 = .ok (.iinc 2 1, 3) := by decide +kernel
theorem dX12_bits_21 : decode cX12_bits 21 = .ok (.goto (-17), 3) := by decide +kernel
theorem dX12_bits_24 : decode cX12_bits 24 = .ok (.iload_n 1, 1) := by decide +kernel
theorem dX12_bits_25 : decode cX12_bits 25 = .ok (.ireturn, 1) := by decide +kernel
theorem dX12_has_0 : decode cX12_has 0 = .ok (.iload_n 0, 1) := by decide +kernel
theorem dX12_has_1 : decode cX12_has 1 = .ok (.iload_n 1, 1) := by decide +kernel
theorem dX12_has_2 : decode cX12_has 2 = .ok (.ishr, 1) := by decide +kernel
theorem dX12_has_3 : decode cX12_has 3 = .ok (.iconst 1, 1) := by decide +kernel
theorem dX12_has_4 : decode cX12_has 4 = .ok (.iand, 1) := by decide +kernel
theorem dX12_has_5 : decode cX12_has 5 = .ok (.iconst 1, 1) := by decide +kernel
theorem dX12_has_6 : decode cX12_has 6 = .ok (.if_icmp .ne 7, 3) := by decide +kernel
theorem dX12_has_9 : decode cX12_has 9 = .ok (.iconst 1, 1) := by decide +kernel
theorem dX12_has_10 : decode cX12_has 10 = .ok (.goto 4, 3) := by decide +kernel
theorem dX12_has_13 : decode cX12_has 13 = .ok (.iconst 0, 1) := by decide +kernel
theorem dX12_has_14 : decode cX12_has 14 = .ok (.ireturn, 1) := by decide +kernel
theorem dX12_types_0 : decode cX12_types 0 = .ok (.iconst 3, 1) := by decide +kernel
theorem dX12_types_1 : decode cX12_types 1 = .ok (.istore_n 2, 1) := by decide +kernel
theorem dX12_types_2 : decode cX12_types 2 = .ok (.iload_n 2, 1) := by decide +kernel
theorem dX12_types_3 : decode cX12_types 3 = .ok (.ifCond .lt 35, 3) := by decide +kernel
theorem dX12_types_6 : decode cX12_types 6 = .ok (.aload_n 0, 1) := by decide +kernel
theorem dX12_types_7 : decode cX12_types 7 = .ok (.getfield 7, 3) := by decide +kernel
theorem dX12_types_10 : decode cX12_types 10 = .ok (.aload_n 0, 1) := by decide +kernel
theorem dX12_types_11 : decode cX12_types 11 = .ok (.getfield 144, 3) := by decide +kernel
theorem dX12_types_14 : decode cX12_types 14 = .ok (.iload_n 1, 1) := by decide +kernel
theorem dX12_types_15 : decode cX12_types 15 = .ok (.bipush 8, 2) := by decide +kernel
theorem dX12_types_17 : decode cX12_types 17 = .ok (.iload_n 2, 1) := by decide +kernel
theorem dX12_types_18 : decode cX12_types 18 = .ok (.imul, 1) := by decide +kernel
theorem dX12_types_19 : decode cX12_types 19 = .ok (.ishr, 1) := by decide +kernel
theorem dX12_types_20 : decode cX12_types 20 = .ok (.i2b, 1) := by decide +kernel
theorem dX12_types_21 : decode cX12_types 21 = .ok (.bastore, 1) := by decide +kernel
theorem dX12_types_22 : decode cX12_types 22 = .ok (.aload_n 0, 1) := by decide +kernel
theorem dX12_types_23 : decode cX12_types 23 = .ok (.aload_n 0, 1) := by decide +kernel
theorem dX12_types_24 : decode cX12_types 24 = .ok (.getfield 144, 3) := by decide +kernel
theorem dX12_types_27 : decode cX12_types 27 = .ok (.iconst 1, 1) := by decide +kernel
theorem dX12_types_28 : decode cX12_types 28 = .ok (.iadd, 1) := by decide +kernel
theorem dX12_types_29 : decode cX12_types 29 = .ok (.putfield 144, 3) := by decide +kernel
theorem dX12_types_32 : decode cX12_types 32 = .ok (.iinc 2 (-1), 3) := by decide +kernel
theorem dX12_types_35 : decode cX12_types 35 = .ok (.goto (-33), 3) := by decide +kernel
theorem dX12_types_38 : decode cX12_types 38 = .ok (.return_, 1) := by decide +kernel
theorem dX12_feed_0 : decode cX12_feed 0 = .ok (.aload_n 0, 1) := by decide +kernel
theorem dX12_feed_1 : decode cX12_feed 1 = .ok (.getfield 144, 3) := by decide +kernel
theorem dX12_feed_4 : decode cX12_feed 4 = .ok (.bipush 20, 2) := by decide +kernel
theorem dX12_feed_6 : decode cX12_feed 6 = .ok (.iadd, 1) := by decide +kernel
theorem dX12_feed_7 : decode cX12_feed 7 = .ok (.sipush 200, 3) := by decide +kernel
theorem dX12_feed_10 : decode cX12_feed 10 = .ok (.if_icmp .le 5, 3) := by decide +kernel
theorem dX12_feed_13 : decode cX12_feed 13 = .ok (.iconst (-1), 1) := by decide +kernel
theorem dX12_feed_14 : decode cX12_feed 14 = .ok (.ireturn, 1) := by decide +kernel
theorem dX12_feed_15 : decode cX12_feed 15 = .ok (.aload_n 0, 1) := by decide +kernel
theorem dX12_feed_16 : decode cX12_feed 16 = .ok (.iload_n 1, 1) := by decide +kernel
theorem dX12_feed_17 : decode cX12_feed 17 = .ok (.invokevirtual 147, 3) := by decide +kernel
theorem dX12_feed_20 : decode cX12_feed 20 = .ok (.aload_n 0, 1) := by decide +kernel
theorem dX12_feed_21 : decode cX12_feed 21 = .ok (.iload_n 2, 1) := by decide +kernel
theorem dX12_feed_22 : decode cX12_feed 22 = .ok (.invokevirtual 147, 3) := by decide +kernel
theorem dX12_feed_25 : decode cX12_feed 25 = .ok (.aload_n 0, 1) := by decide +kernel
theorem dX12_feed_26 : decode cX12_feed 26 = .ok (.iload_n 3, 1) := by decide +kernel
theorem dX12_feed_27 : decode cX12_feed 27 = .ok (.invokevirtual 147, 3) := by decide +kernel
theorem dX12_feed_30 : decode cX12_feed 30 = .ok (.aload_n 0, 1) := by decide +kernel
theorem dX12_feed_31 : decode cX12_feed 31 = .ok (.iload 4, 2) := by decide +kernel
theorem dX12_feed_33 : decode cX12_feed 33 = .ok (.invokevirtual 147, 3) := by decide +kernel
theorem dX12_feed_36 : decode cX12_feed 36 = .ok (.aload_n 0, 1) := by decide +kernel
theorem dX12_feed_37 : decode cX12_feed 37 = .ok (.iload 5, 2) := by decide +kernel
theorem dX12_feed_39 : decode cX12_feed 39 = .ok (.invokevirtual 147, 3) := by decide +kernel
theorem dX12_feed_42 : decode cX12_feed 42 = .ok (.aload_n 0, 1) := by decide +kernel
theorem dX12_feed_43 : decode cX12_feed 43 = .ok (.getfield 144, 3) := by decide +kernel
theorem dX12_feed_46 : decode cX12_feed 46 = .ok (.ireturn, 1) := by decide +kernel
theorem dX12_readsTwo_0 : decode cX12_readsTwo 0 = .ok (.aload_n 0, 1) := by decide +kernel
theorem dX12_readsTwo_1 : decode cX12_readsTwo 1 = .ok (.getfield 151, 3) := by decide +kernel
theorem dX12_readsTwo_4 : decode cX12_readsTwo 4 = .ok (.istore_n 1, 1) := by decide +kernel
theorem dX12_readsTwo_5 : decode cX12_readsTwo 5 = .ok (.aload_n 0, 1) := by decide +kernel
theorem dX12_readsTwo_6 : decode cX12_readsTwo 6 = .ok (.iconst 0, 1) := by decide +kernel
theorem dX12_readsTwo_7 : decode cX12_readsTwo 7 = .ok (.putfield 154, 3) := by decide +kernel
theorem dX12_readsTwo_10 : decode cX12_readsTwo 10 = .ok (.aload_n 0, 1) := by decide +kernel
theorem dX12_readsTwo_11 : decode cX12_readsTwo 11 = .ok (.invokevirtual 157, 3) := by decide +kernel
theorem dX12_readsTwo_14 : decode cX12_readsTwo 14 = .ok (.ifCond .eq 55, 3) := by decide +kernel
theorem dX12_readsTwo_17 : decode cX12_readsTwo 17 = .ok (.aload_n 0, 1) := by decide +kernel
theorem dX12_readsTwo_18 : decode cX12_readsTwo 18 = .ok (.getfield 151, 3) := by decide +kernel
theorem dX12_readsTwo_21 : decode cX12_readsTwo 21 = .ok (.iload_n 1, 1) := by decide +kernel
theorem dX12_readsTwo_22 : decode cX12_readsTwo 22 = .ok (.iconst 2, 1) := by decide +kernel
theorem dX12_readsTwo_23 : decode cX12_readsTwo 23 = .ok (.iadd, 1) := by decide +kernel
theorem dX12_readsTwo_24 : decode cX12_readsTwo 24 = .ok (.if_icmp .ne 13, 3) := by decide +kernel
theorem dX12_readsTwo_27 : decode cX12_readsTwo 27 = .ok (.aload_n 0, 1) := by decide +kernel
theorem dX12_readsTwo_28 : decode cX12_readsTwo 28 = .ok (.iconst 1, 1) := by decide +kernel
theorem dX12_readsTwo_29 : decode cX12_readsTwo 29 = .ok (.aload_n 0, 1) := by decide +kernel
theorem dX12_readsTwo_30 : decode cX12_readsTwo 30 = .ok (.getfield 151, 3) := by decide +kernel
theorem dX12_readsTwo_33 : decode cX12_readsTwo 33 = .ok (.invokevirtual 161, 3) := by decide +kernel
theorem dX12_readsTwo_36 : decode cX12_readsTwo 36 = .ok (.ireturn, 1) := by decide +kernel
theorem dX12_readsTwo_37 : decode cX12_readsTwo 37 = .ok (.aload_n 0, 1) := by decide +kernel
theorem dX12_readsTwo_38 : decode cX12_readsTwo 38 = .ok (.bipush 10, 2) := by decide +kernel
theorem dX12_readsTwo_40 : decode cX12_readsTwo 40 = .ok (.aload_n 0, 1) := by decide +kernel
theorem dX12_readsTwo_41 : decode cX12_readsTwo 41 = .ok (.getfield 154, 3) := by decide +kernel
theorem dX12_readsTwo_44 : decode cX12_readsTwo 44 = .ok (.imul, 1) := by decide +kernel
theorem dX12_readsTwo_45 : decode cX12_readsTwo 45 = .ok (.aload_n 0, 1) := by decide +kernel
theorem dX12_readsTwo_46 : decode cX12_readsTwo 46 = .ok (.invokevirtual 165, 3) := by decide +kernel
theorem dX12_readsTwo_49 : decode cX12_readsTwo 49 = .ok (.iadd, 1) := by decide +kernel
theorem dX12_readsTwo_50 : decode cX12_readsTwo 50 = .ok (.bipush 48, 2) := by decide +kernel
theorem dX12_readsTwo_52 : decode cX12_readsTwo 52 = .ok (.isub, 1) := by decide +kernel
theorem dX12_readsTwo_53 : decode cX12_readsTwo 53 = .ok (.putfield 154, 3) := by decide +kernel
theorem dX12_readsTwo_56 : decode cX12_readsTwo 56 = .ok (.aload_n 0, 1) := by decide +kernel
theorem dX12_readsTwo_57 : decode cX12_readsTwo 57 = .ok (.aload_n 0, 1) := by decide +kernel
theorem dX12_readsTwo_58 : decode cX12_readsTwo 58 = .ok (.getfield 151, 3) := by decide +kernel
theorem dX12_readsTwo_61 : decode cX12_readsTwo 61 = .ok (.iconst 1, 1) := by decide +kernel
theorem dX12_readsTwo_62 : decode cX12_readsTwo 62 = .ok (.iadd, 1) := by decide +kernel
theorem dX12_readsTwo_63 : decode cX12_readsTwo 63 = .ok (.putfield 151, 3) := by decide +kernel
theorem dX12_readsTwo_66 : decode cX12_readsTwo 66 = .ok (.goto (-56), 3) := by decide +kernel
theorem dX12_readsTwo_69 : decode cX12_readsTwo 69 = .ok (.aload_n 0, 1) := by decide +kernel
theorem dX12_readsTwo_70 : decode cX12_readsTwo 70 = .ok (.getfield 151, 3) := by decide +kernel
theorem dX12_readsTwo_73 : decode cX12_readsTwo 73 = .ok (.iload_n 1, 1) := by decide +kernel
theorem dX12_readsTwo_74 : decode cX12_readsTwo 74 = .ok (.if_icmp .gt 15, 3) := by decide +kernel
theorem dX12_readsTwo_77 : decode cX12_readsTwo 77 = .ok (.aload_n 0, 1) := by decide +kernel
theorem dX12_readsTwo_78 : decode cX12_readsTwo 78 = .ok (.iconst 1, 1) := by decide +kernel
theorem dX12_readsTwo_79 : decode cX12_readsTwo 79 = .ok (.aload_n 0, 1) := by decide +kernel
theorem dX12_readsTwo_80 : decode cX12_readsTwo 80 = .ok (.getfield 151, 3) := by decide +kernel
theorem dX12_readsTwo_83 : decode cX12_readsTwo 83 = .ok (.invokevirtual 161, 3) := by decide +kernel
theorem dX12_readsTwo_86 : decode cX12_readsTwo 86 = .ok (.ifCond .eq 7, 3) := by decide +kernel
theorem dX12_readsTwo_89 : decode cX12_readsTwo 89 = .ok (.iconst 1, 1) := by decide +kernel
theorem dX12_readsTwo_90 : decode cX12_readsTwo 90 = .ok (.goto 4, 3) := by decide +kernel
theorem dX12_readsTwo_93 : decode cX12_readsTwo 93 = .ok (.iconst 0, 1) := by decide +kernel
theorem dX12_readsTwo_94 : decode cX12_readsTwo 94 = .ok (.ireturn, 1) := by decide +kernel
theorem dX12_readsHour_0 : decode cX12_readsHour 0 = .ok (.aload_n 0, 1) := by decide +kernel
theorem dX12_readsHour_1 : decode cX12_readsHour 1 = .ok (.getfield 151, 3) := by decide +kernel
theorem dX12_readsHour_4 : decode cX12_readsHour 4 = .ok (.istore_n 3, 1) := by decide +kernel
theorem dX12_readsHour_5 : decode cX12_readsHour 5 = .ok (.aload_n 0, 1) := by decide +kernel
theorem dX12_readsHour_6 : decode cX12_readsHour 6 = .ok (.iconst 0, 1) := by decide +kernel
theorem dX12_readsHour_7 : decode cX12_readsHour 7 = .ok (.putfield 154, 3) := by decide +kernel
theorem dX12_readsHour_10 : decode cX12_readsHour 10 = .ok (.aload_n 0, 1) := by decide +kernel
theorem dX12_readsHour_11 : decode cX12_readsHour 11 = .ok (.invokevirtual 157, 3) := by decide +kernel
theorem dX12_readsHour_14 : decode cX12_readsHour 14 = .ok (.ifCond .eq 45, 3) := by decide +kernel
theorem dX12_readsHour_17 : decode cX12_readsHour 17 = .ok (.aload_n 0, 1) := by decide +kernel
theorem dX12_readsHour_18 : decode cX12_readsHour 18 = .ok (.getfield 151, 3) := by decide +kernel
theorem dX12_readsHour_21 : decode cX12_readsHour 21 = .ok (.iload_n 3, 1) := by decide +kernel
theorem dX12_readsHour_22 : decode cX12_readsHour 22 = .ok (.iconst 2, 1) := by decide +kernel
theorem dX12_readsHour_23 : decode cX12_readsHour 23 = .ok (.iadd, 1) := by decide +kernel
theorem dX12_readsHour_24 : decode cX12_readsHour 24 = .ok (.if_icmp .ge 35, 3) := by decide +kernel
theorem dX12_readsHour_27 : decode cX12_readsHour 27 = .ok (.aload_n 0, 1) := by decide +kernel
theorem dX12_readsHour_28 : decode cX12_readsHour 28 = .ok (.bipush 10, 2) := by decide +kernel
theorem dX12_readsHour_30 : decode cX12_readsHour 30 = .ok (.aload_n 0, 1) := by decide +kernel
theorem dX12_readsHour_31 : decode cX12_readsHour 31 = .ok (.getfield 154, 3) := by decide +kernel
theorem dX12_readsHour_34 : decode cX12_readsHour 34 = .ok (.imul, 1) := by decide +kernel
theorem dX12_readsHour_35 : decode cX12_readsHour 35 = .ok (.aload_n 0, 1) := by decide +kernel
theorem dX12_readsHour_36 : decode cX12_readsHour 36 = .ok (.invokevirtual 165, 3) := by decide +kernel
theorem dX12_readsHour_39 : decode cX12_readsHour 39 = .ok (.iadd, 1) := by decide +kernel
theorem dX12_readsHour_40 : decode cX12_readsHour 40 = .ok (.bipush 48, 2) := by decide +kernel
theorem dX12_readsHour_42 : decode cX12_readsHour 42 = .ok (.isub, 1) := by decide +kernel
theorem dX12_readsHour_43 : decode cX12_readsHour 43 = .ok (.putfield 154, 3) := by decide +kernel
theorem dX12_readsHour_46 : decode cX12_readsHour 46 = .ok (.aload_n 0, 1) := by decide +kernel
theorem dX12_readsHour_47 : decode cX12_readsHour 47 = .ok (.aload_n 0, 1) := by decide +kernel
theorem dX12_readsHour_48 : decode cX12_readsHour 48 = .ok (.getfield 151, 3) := by decide +kernel
theorem dX12_readsHour_51 : decode cX12_readsHour 51 = .ok (.iconst 1, 1) := by decide +kernel
theorem dX12_readsHour_52 : decode cX12_readsHour 52 = .ok (.iadd, 1) := by decide +kernel
theorem dX12_readsHour_53 : decode cX12_readsHour 53 = .ok (.putfield 151, 3) := by decide +kernel
theorem dX12_readsHour_56 : decode cX12_readsHour 56 = .ok (.goto (-46), 3) := by decide +kernel
theorem dX12_readsHour_59 : decode cX12_readsHour 59 = .ok (.aload_n 0, 1) := by decide +kernel
theorem dX12_readsHour_60 : decode cX12_readsHour 60 = .ok (.getfield 151, 3) := by decide +kernel
theorem dX12_readsHour_63 : decode cX12_readsHour 63 = .ok (.iload_n 3, 1) := by decide +kernel
theorem dX12_readsHour_64 : decode cX12_readsHour 64 = .ok (.if_icmp .ne 13, 3) := by decide +kernel
theorem dX12_readsHour_67 : decode cX12_readsHour 67 = .ok (.aload_n 0, 1) := by decide +kernel
theorem dX12_readsHour_68 : decode cX12_readsHour 68 = .ok (.iconst 1, 1) := by decide +kernel
theorem dX12_readsHour_69 : decode cX12_readsHour 69 = .ok (.aload_n 0, 1) := by decide +kernel
theorem dX12_readsHour_70 : decode cX12_readsHour 70 = .ok (.getfield 151, 3) := by decide +kernel
theorem dX12_readsHour_73 : decode cX12_readsHour 73 = .ok (.invokevirtual 161, 3) := by decide +kernel
theorem dX12_readsHour_76 : decode cX12_readsHour 76 = .ok (.ireturn, 1) := by decide +kernel
theorem dX12_readsHour_77 : decode cX12_readsHour 77 = .ok (.aload_n 0, 1) := by decide +kernel
theorem dX12_readsHour_78 : decode cX12_readsHour 78 = .ok (.getfield 154, 3) := by decide +kernel
theorem dX12_readsHour_81 : decode cX12_readsHour 81 = .ok (.iload_n 1, 1) := by decide +kernel
theorem dX12_readsHour_82 : decode cX12_readsHour 82 = .ok (.iload_n 2, 1) := by decide +kernel
theorem dX12_readsHour_83 : decode cX12_readsHour 83 = .ok (.invokestatic 169, 3) := by decide +kernel
theorem dX12_readsHour_86 : decode cX12_readsHour 86 = .ok (.ifCond .ne 10, 3) := by decide +kernel
theorem dX12_readsHour_89 : decode cX12_readsHour 89 = .ok (.aload_n 0, 1) := by decide +kernel
theorem dX12_readsHour_90 : decode cX12_readsHour 90 = .ok (.iconst 3, 1) := by decide +kernel
theorem dX12_readsHour_91 : decode cX12_readsHour 91 = .ok (.iload_n 3, 1) := by decide +kernel
theorem dX12_readsHour_92 : decode cX12_readsHour 92 = .ok (.invokevirtual 161, 3) := by decide +kernel
theorem dX12_readsHour_95 : decode cX12_readsHour 95 = .ok (.ireturn, 1) := by decide +kernel
theorem dX12_readsHour_96 : decode cX12_readsHour 96 = .ok (.aload_n 0, 1) := by decide +kernel
theorem dX12_readsHour_97 : decode cX12_readsHour 97 = .ok (.invokevirtual 157, 3) := by decide +kernel
theorem dX12_readsHour_100 : decode cX12_readsHour 100 = .ok (.ifCond .eq 15, 3) := by decide +kernel
theorem dX12_readsHour_103 : decode cX12_readsHour 103 = .ok (.aload_n 0, 1) := by decide +kernel
theorem dX12_readsHour_104 : decode cX12_readsHour 104 = .ok (.iconst 1, 1) := by decide +kernel
theorem dX12_readsHour_105 : decode cX12_readsHour 105 = .ok (.aload_n 0, 1) := by decide +kernel
theorem dX12_readsHour_106 : decode cX12_readsHour 106 = .ok (.getfield 151, 3) := by decide +kernel
theorem dX12_readsHour_109 : decode cX12_readsHour 109 = .ok (.invokevirtual 161, 3) := by decide +kernel
theorem dX12_readsHour_112 : decode cX12_readsHour 112 = .ok (.ifCond .eq 7, 3) := by decide +kernel
theorem dX12_readsHour_115 : decode cX12_readsHour 115 = .ok (.iconst 1, 1) := by decide +kernel
theorem dX12_readsHour_116 : decode cX12_readsHour 116 = .ok (.goto 4, 3) := by decide +kernel
theorem dX12_readsHour_119 : decode cX12_readsHour 119 = .ok (.iconst 0, 1) := by decide +kernel
theorem dX12_readsHour_120 : decode cX12_readsHour 120 = .ok (.ireturn, 1) := by decide +kernel
theorem dX12_readsPart_0 : decode cX12_readsPart 0 = .ok (.aload_n 0, 1) := by decide +kernel
theorem dX12_readsPart_1 : decode cX12_readsPart 1 = .ok (.invokevirtual 165, 3) := by decide +kernel
theorem dX12_readsPart_4 : decode cX12_readsPart 4 = .ok (.istore_n 2, 1) := by decide +kernel
theorem dX12_readsPart_5 : decode cX12_readsPart 5 = .ok (.iload_n 2, 1) := by decide +kernel
theorem dX12_readsPart_6 : decode cX12_readsPart 6 = .ok (.bipush 114, 2) := by decide +kernel
theorem dX12_readsPart_8 : decode cX12_readsPart 8 = .ok (.if_icmp .eq 25, 3) := by decide +kernel
theorem dX12_readsPart_11 : decode cX12_readsPart 11 = .ok (.iload_n 2, 1) := by decide +kernel
theorem dX12_readsPart_12 : decode cX12_readsPart 12 = .ok (.bipush 119, 2) := by decide +kernel
theorem dX12_readsPart_14 : decode cX12_readsPart 14 = .ok (.if_icmp .eq 19, 3) := by decide +kernel
theorem dX12_readsPart_17 : decode cX12_readsPart 17 = .ok (.iload_n 2, 1) := by decide +kernel
theorem dX12_readsPart_18 : decode cX12_readsPart 18 = .ok (.bipush 108, 2) := by decide +kernel
theorem dX12_readsPart_20 : decode cX12_readsPart 20 = .ok (.if_icmp .eq 13, 3) := by decide +kernel
theorem dX12_readsPart_23 : decode cX12_readsPart 23 = .ok (.aload_n 0, 1) := by decide +kernel
theorem dX12_readsPart_24 : decode cX12_readsPart 24 = .ok (.iconst 1, 1) := by decide +kernel
theorem dX12_readsPart_25 : decode cX12_readsPart 25 = .ok (.aload_n 0, 1) := by decide +kernel
theorem dX12_readsPart_26 : decode cX12_readsPart 26 = .ok (.getfield 151, 3) := by decide +kernel
theorem dX12_readsPart_29 : decode cX12_readsPart 29 = .ok (.invokevirtual 161, 3) := by decide +kernel
theorem dX12_readsPart_32 : decode cX12_readsPart 32 = .ok (.ireturn, 1) := by decide +kernel
theorem dX12_readsPart_33 : decode cX12_readsPart 33 = .ok (.iload_n 1, 1) := by decide +kernel
theorem dX12_readsPart_34 : decode cX12_readsPart 34 = .ok (.bipush 14, 2) := by decide +kernel
theorem dX12_readsPart_36 : decode cX12_readsPart 36 = .ok (.if_icmp .ne 13, 3) := by decide +kernel
theorem dX12_readsPart_39 : decode cX12_readsPart 39 = .ok (.aload_n 0, 1) := by decide +kernel
theorem dX12_readsPart_40 : decode cX12_readsPart 40 = .ok (.iconst 4, 1) := by decide +kernel
theorem dX12_readsPart_41 : decode cX12_readsPart 41 = .ok (.aload_n 0, 1) := by decide +kernel
theorem dX12_readsPart_42 : decode cX12_readsPart 42 = .ok (.getfield 151, 3) := by decide +kernel
theorem dX12_readsPart_45 : decode cX12_readsPart 45 = .ok (.invokevirtual 161, 3) := by decide +kernel
theorem dX12_readsPart_48 : decode cX12_readsPart 48 = .ok (.ireturn, 1) := by decide +kernel
theorem dX12_readsPart_49 : decode cX12_readsPart 49 = .ok (.aload_n 0, 1) := by decide +kernel
theorem dX12_readsPart_50 : decode cX12_readsPart 50 = .ok (.aload_n 0, 1) := by decide +kernel
theorem dX12_readsPart_51 : decode cX12_readsPart 51 = .ok (.getfield 151, 3) := by decide +kernel
theorem dX12_readsPart_54 : decode cX12_readsPart 54 = .ok (.iconst 1, 1) := by decide +kernel
theorem dX12_readsPart_55 : decode cX12_readsPart 55 = .ok (.iadd, 1) := by decide +kernel
theorem dX12_readsPart_56 : decode cX12_readsPart 56 = .ok (.putfield 151, 3) := by decide +kernel
theorem dX12_readsPart_59 : decode cX12_readsPart 59 = .ok (.iload_n 2, 1) := by decide +kernel
theorem dX12_readsPart_60 : decode cX12_readsPart 60 = .ok (.bipush 114, 2) := by decide +kernel
theorem dX12_readsPart_62 : decode cX12_readsPart 62 = .ok (.if_icmp .ne 7, 3) := by decide +kernel
theorem dX12_readsPart_65 : decode cX12_readsPart 65 = .ok (.iconst 0, 1) := by decide +kernel
theorem dX12_readsPart_66 : decode cX12_readsPart 66 = .ok (.goto 14, 3) := by decide +kernel
theorem dX12_readsPart_69 : decode cX12_readsPart 69 = .ok (.iload_n 2, 1) := by decide +kernel
theorem dX12_readsPart_70 : decode cX12_readsPart 70 = .ok (.bipush 119, 2) := by decide +kernel
theorem dX12_readsPart_72 : decode cX12_readsPart 72 = .ok (.if_icmp .ne 7, 3) := by decide +kernel
theorem dX12_readsPart_75 : decode cX12_readsPart 75 = .ok (.iconst 1, 1) := by decide +kernel
theorem dX12_readsPart_76 : decode cX12_readsPart 76 = .ok (.goto 4, 3) := by decide +kernel
theorem dX12_readsPart_79 : decode cX12_readsPart 79 = .ok (.iconst 2, 1) := by decide +kernel
theorem dX12_readsPart_80 : decode cX12_readsPart 80 = .ok (.istore_n 3, 1) := by decide +kernel
theorem dX12_readsPart_81 : decode cX12_readsPart 81 = .ok (.aload_n 0, 1) := by decide +kernel
theorem dX12_readsPart_82 : decode cX12_readsPart 82 = .ok (.invokevirtual 173, 3) := by decide +kernel
theorem dX12_readsPart_85 : decode cX12_readsPart 85 = .ok (.ifCond .ne 5, 3) := by decide +kernel
theorem dX12_readsPart_88 : decode cX12_readsPart 88 = .ok (.iconst 0, 1) := by decide +kernel
theorem dX12_readsPart_89 : decode cX12_readsPart 89 = .ok (.ireturn, 1) := by decide +kernel
theorem dX12_readsPart_90 : decode cX12_readsPart 90 = .ok (.aload_n 0, 1) := by decide +kernel
theorem dX12_readsPart_91 : decode cX12_readsPart 91 = .ok (.getfield 154, 3) := by decide +kernel
theorem dX12_readsPart_94 : decode cX12_readsPart 94 = .ok (.istore 4, 2) := by decide +kernel
theorem dX12_readsPart_96 : decode cX12_readsPart 96 = .ok (.aload_n 0, 1) := by decide +kernel
theorem dX12_readsPart_97 : decode cX12_readsPart 97 = .ok (.bipush 40, 2) := by decide +kernel
theorem dX12_readsPart_99 : decode cX12_readsPart 99 = .ok (.invokevirtual 176, 3) := by decide +kernel
theorem dX12_readsPart_102 : decode cX12_readsPart 102 = .ok (.ifCond .eq 13, 3) := by decide +kernel
theorem dX12_readsPart_105 : decode cX12_readsPart 105 = .ok (.aload_n 0, 1) := by decide +kernel
theorem dX12_readsPart_106 : decode cX12_readsPart 106 = .ok (.iconst 0, 1) := by decide +kernel
theorem dX12_readsPart_107 : decode cX12_readsPart 107 = .ok (.bipush 23, 2) := by decide +kernel
theorem dX12_readsPart_109 : decode cX12_readsPart 109 = .ok (.invokevirtual 180, 3) := by decide +kernel
theorem dX12_readsPart_112 : decode cX12_readsPart 112 = .ok (.ifCond .ne 5, 3) := by decide +kernel
theorem dX12_readsPart_115 : decode cX12_readsPart 115 = .ok (.iconst 0, 1) := by decide +kernel
theorem dX12_readsPart_116 : decode cX12_readsPart 116 = .ok (.ireturn, 1) := by decide +kernel
theorem dX12_readsPart_117 : decode cX12_readsPart 117 = .ok (.aload_n 0, 1) := by decide +kernel
theorem dX12_readsPart_118 : decode cX12_readsPart 118 = .ok (.getfield 154, 3) := by decide +kernel
theorem dX12_readsPart_121 : decode cX12_readsPart 121 = .ok (.istore 5, 2) := by decide +kernel
theorem dX12_readsPart_123 : decode cX12_readsPart 123 = .ok (.aload_n 0, 1) := by decide +kernel
theorem dX12_readsPart_124 : decode cX12_readsPart 124 = .ok (.bipush 45, 2) := by decide +kernel
theorem dX12_readsPart_126 : decode cX12_readsPart 126 = .ok (.invokevirtual 176, 3) := by decide +kernel
theorem dX12_readsPart_129 : decode cX12_readsPart 129 = .ok (.ifCond .eq 16, 3) := by decide +kernel
theorem dX12_readsPart_132 : decode cX12_readsPart 132 = .ok (.aload_n 0, 1) := by decide +kernel
theorem dX12_readsPart_133 : decode cX12_readsPart 133 = .ok (.iload 5, 2) := by decide +kernel
theorem dX12_readsPart_135 : decode cX12_readsPart 135 = .ok (.iconst 1, 1) := by decide +kernel
theorem dX12_readsPart_136 : decode cX12_readsPart 136 = .ok (.iadd, 1) := by decide +kernel
theorem dX12_readsPart_137 : decode cX12_readsPart 137 = .ok (.bipush 24, 2) := by decide +kernel
theorem dX12_readsPart_139 : decode cX12_readsPart 139 = .ok (.invokevirtual 180, 3) := by decide +kernel
theorem dX12_readsPart_142 : decode cX12_readsPart 142 = .ok (.ifCond .ne 5, 3) := by decide +kernel
theorem dX12_readsPart_145 : decode cX12_readsPart 145 = .ok (.iconst 0, 1) := by decide +kernel
theorem dX12_readsPart_146 : decode cX12_readsPart 146 = .ok (.ireturn, 1) := by decide +kernel
theorem dX12_readsPart_147 : decode cX12_readsPart 147 = .ok (.iload 5, 2) := by decide +kernel
theorem dX12_readsPart_149 : decode cX12_readsPart 149 = .ok (.istore 6, 2) := by decide +kernel
theorem dX12_readsPart_151 : decode cX12_readsPart 151 = .ok (.iload 6, 2) := by decide +kernel
theorem dX12_readsPart_153 : decode cX12_readsPart 153 = .ok (.aload_n 0, 1) := by decide +kernel
theorem dX12_readsPart_154 : decode cX12_readsPart 154 = .ok (.getfield 154, 3) := by decide +kernel
theorem dX12_readsPart_157 : decode cX12_readsPart 157 = .ok (.if_icmp .ge 41, 3) := by decide +kernel
theorem dX12_readsPart_160 : decode cX12_readsPart 160 = .ok (.aload_n 0, 1) := by decide +kernel
theorem dX12_readsPart_161 : decode cX12_readsPart 161 = .ok (.getfield 17, 3) := by decide +kernel
theorem dX12_readsPart_164 : decode cX12_readsPart 164 = .ok (.bipush 24, 2) := by decide +kernel
theorem dX12_readsPart_166 : decode cX12_readsPart 166 = .ok (.iload_n 3, 1) := by decide +kernel
theorem dX12_readsPart_167 : decode cX12_readsPart 167 = .ok (.imul, 1) := by decide +kernel
theorem dX12_readsPart_168 : decode cX12_readsPart 168 = .ok (.iload 6, 2) := by decide +kernel
theorem dX12_readsPart_170 : decode cX12_readsPart 170 = .ok (.iadd, 1) := by decide +kernel
theorem dX12_readsPart_171 : decode cX12_readsPart 171 = .ok (.bipush 99, 2) := by decide +kernel
theorem dX12_readsPart_173 : decode cX12_readsPart 173 = .ok (.aload_n 0, 1) := by decide +kernel
theorem dX12_readsPart_174 : decode cX12_readsPart 174 = .ok (.getfield 17, 3) := by decide +kernel
theorem dX12_readsPart_177 : decode cX12_readsPart 177 = .ok (.bipush 24, 2) := by decide +kernel
theorem dX12_readsPart_179 : decode cX12_readsPart 179 = .ok (.iload_n 3, 1) := by decide +kernel
theorem dX12_readsPart_180 : decode cX12_readsPart 180 = .ok (.imul, 1) := by decide +kernel
theorem dX12_readsPart_181 : decode cX12_readsPart 181 = .ok (.iload 6, 2) := by decide +kernel
theorem dX12_readsPart_183 : decode cX12_readsPart 183 = .ok (.iadd, 1) := by decide +kernel
theorem dX12_readsPart_184 : decode cX12_readsPart 184 = .ok (.iaload, 1) := by decide +kernel
theorem dX12_readsPart_185 : decode cX12_readsPart 185 = .ok (.iload 4, 2) := by decide +kernel
theorem dX12_readsPart_187 : decode cX12_readsPart 187 = .ok (.iadd, 1) := by decide +kernel
theorem dX12_readsPart_188 : decode cX12_readsPart 188 = .ok (.invokestatic 183, 3) := by decide +kernel
theorem dX12_readsPart_191 : decode cX12_readsPart 191 = .ok (.iastore, 1) := by decide +kernel
theorem dX12_readsPart_192 : decode cX12_readsPart 192 = .ok (.iinc 6 1, 3) := by decide +kernel
theorem dX12_readsPart_195 : decode cX12_readsPart 195 = .ok (.goto (-44), 3) := by decide +kernel
theorem dX12_readsPart_198 : decode cX12_readsPart 198 = .ok (.aload_n 0, 1) := by decide +kernel
theorem dX12_readsPart_199 : decode cX12_readsPart 199 = .ok (.bipush 41, 2) := by decide +kernel
theorem dX12_readsPart_201 : decode cX12_readsPart 201 = .ok (.invokevirtual 176, 3) := by decide +kernel
theorem dX12_readsPart_204 : decode cX12_readsPart 204 = .ok (.ireturn, 1) := by decide +kernel
theorem dX12_day_0 : decode cX12_day 0 = .ok (.iload_n 1, 1) := by decide +kernel
theorem dX12_day_1 : decode cX12_day 1 = .ok (.iconst 0, 1) := by decide +kernel
theorem dX12_day_2 : decode cX12_day 2 = .ok (.bipush 11, 2) := by decide +kernel
theorem dX12_day_4 : decode cX12_day 4 = .ok (.invokestatic 169, 3) := by decide +kernel
theorem dX12_day_7 : decode cX12_day 7 = .ok (.ifCond .eq 21, 3) := by decide +kernel
theorem dX12_day_10 : decode cX12_day 10 = .ok (.iload_n 2, 1) := by decide +kernel
theorem dX12_day_11 : decode cX12_day 11 = .ok (.iconst 1, 1) := by decide +kernel
theorem dX12_day_12 : decode cX12_day 12 = .ok (.bipush 120, 2) := by decide +kernel
theorem dX12_day_14 : decode cX12_day 14 = .ok (.invokestatic 169, 3) := by decide +kernel
theorem dX12_day_17 : decode cX12_day 17 = .ok (.ifCond .eq 11, 3) := by decide +kernel
theorem dX12_day_20 : decode cX12_day 20 = .ok (.iload_n 2, 1) := by decide +kernel
theorem dX12_day_21 : decode cX12_day 21 = .ok (.aload_n 0, 1) := by decide +kernel
theorem dX12_day_22 : decode cX12_day 22 = .ok (.getfield 144, 3) := by decide +kernel
theorem dX12_day_25 : decode cX12_day 25 = .ok (.if_icmp .le 5, 3) := by decide +kernel
theorem dX12_day_28 : decode cX12_day 28 = .ok (.iconst (-1), 1) := by decide +kernel
theorem dX12_day_29 : decode cX12_day 29 = .ok (.ireturn, 1) := by decide +kernel
theorem dX12_day_30 : decode cX12_day 30 = .ok (.aload_n 0, 1) := by decide +kernel
theorem dX12_day_31 : decode cX12_day 31 = .ok (.iconst 0, 1) := by decide +kernel
theorem dX12_day_32 : decode cX12_day 32 = .ok (.putfield 151, 3) := by decide +kernel
theorem dX12_day_35 : decode cX12_day 35 = .ok (.aload_n 0, 1) := by decide +kernel
theorem dX12_day_36 : decode cX12_day 36 = .ok (.iload_n 2, 1) := by decide +kernel
theorem dX12_day_37 : decode cX12_day 37 = .ok (.putfield 187, 3) := by decide +kernel
theorem dX12_day_40 : decode cX12_day 40 = .ok (.iconst 0, 1) := by decide +kernel
theorem dX12_day_41 : decode cX12_day 41 = .ok (.istore_n 3, 1) := by decide +kernel
theorem dX12_day_42 : decode cX12_day 42 = .ok (.iload_n 3, 1) := by decide +kernel
theorem dX12_day_43 : decode cX12_day 43 = .ok (.bipush 72, 2) := by decide +kernel
theorem dX12_day_45 : decode cX12_day 45 = .ok (.if_icmp .ge 16, 3) := by decide +kernel
theorem dX12_day_48 : decode cX12_day 48 = .ok (.aload_n 0, 1) := by decide +kernel
theorem dX12_day_49 : decode cX12_day 49 = .ok (.getfield 17, 3) := by decide +kernel
theorem dX12_day_52 : decode cX12_day 52 = .ok (.iload_n 3, 1) := by decide +kernel
theorem dX12_day_53 : decode cX12_day 53 = .ok (.iconst 0, 1) := by decide +kernel
theorem dX12_day_54 : decode cX12_day 54 = .ok (.iastore, 1) := by decide +kernel
theorem dX12_day_55 : decode cX12_day 55 = .ok (.iinc 3 1, 3) := by decide +kernel
theorem dX12_day_58 : decode cX12_day 58 = .ok (.goto (-16), 3) := by decide +kernel
theorem dX12_day_61 : decode cX12_day 61 = .ok (.iconst 0, 1) := by decide +kernel
theorem dX12_day_62 : decode cX12_day 62 = .ok (.istore_n 3, 1) := by decide +kernel
theorem dX12_day_63 : decode cX12_day 63 = .ok (.aload_n 0, 1) := by decide +kernel
theorem dX12_day_64 : decode cX12_day 64 = .ok (.iload_n 3, 1) := by decide +kernel
theorem dX12_day_65 : decode cX12_day 65 = .ok (.invokevirtual 190, 3) := by decide +kernel
theorem dX12_day_68 : decode cX12_day 68 = .ok (.istore 4, 2) := by decide +kernel
theorem dX12_day_70 : decode cX12_day 70 = .ok (.iload 4, 2) := by decide +kernel
theorem dX12_day_72 : decode cX12_day 72 = .ok (.ifCond .eq 45, 3) := by decide +kernel
theorem dX12_day_75 : decode cX12_day 75 = .ok (.aload_n 0, 1) := by decide +kernel
theorem dX12_day_76 : decode cX12_day 76 = .ok (.getfield 151, 3) := by decide +kernel
theorem dX12_day_79 : decode cX12_day 79 = .ok (.aload_n 0, 1) := by decide +kernel
theorem dX12_day_80 : decode cX12_day 80 = .ok (.getfield 187, 3) := by decide +kernel
theorem dX12_day_83 : decode cX12_day 83 = .ok (.if_icmp .ge 34, 3) := by decide +kernel
theorem dX12_day_86 : decode cX12_day 86 = .ok (.iload_n 3, 1) := by decide +kernel
theorem dX12_day_87 : decode cX12_day 87 = .ok (.iconst 1, 1) := by decide +kernel
theorem dX12_day_88 : decode cX12_day 88 = .ok (.iadd, 1) := by decide +kernel
theorem dX12_day_89 : decode cX12_day 89 = .ok (.istore_n 3, 1) := by decide +kernel
theorem dX12_day_90 : decode cX12_day 90 = .ok (.aload_n 0, 1) := by decide +kernel
theorem dX12_day_91 : decode cX12_day 91 = .ok (.bipush 59, 2) := by decide +kernel
theorem dX12_day_93 : decode cX12_day 93 = .ok (.invokevirtual 176, 3) := by decide +kernel
theorem dX12_day_96 : decode cX12_day 96 = .ok (.ifCond .eq 15, 3) := by decide +kernel
theorem dX12_day_99 : decode cX12_day 99 = .ok (.aload_n 0, 1) := by decide +kernel
theorem dX12_day_100 : decode cX12_day 100 = .ok (.iload_n 3, 1) := by decide +kernel
theorem dX12_day_101 : decode cX12_day 101 = .ok (.invokevirtual 190, 3) := by decide +kernel
theorem dX12_day_104 : decode cX12_day 104 = .ok (.ifCond .eq 7, 3) := by decide +kernel
theorem dX12_day_107 : decode cX12_day 107 = .ok (.iconst 1, 1) := by decide +kernel
theorem dX12_day_108 : decode cX12_day 108 = .ok (.goto 4, 3) := by decide +kernel
theorem dX12_day_111 : decode cX12_day 111 = .ok (.iconst 0, 1) := by decide +kernel
theorem dX12_day_112 : decode cX12_day 112 = .ok (.istore 4, 2) := by decide +kernel
theorem dX12_day_114 : decode cX12_day 114 = .ok (.goto (-44), 3) := by decide +kernel
theorem dX12_day_117 : decode cX12_day 117 = .ok (.aload_n 0, 1) := by decide +kernel
theorem dX12_day_118 : decode cX12_day 118 = .ok (.iconst 0, 1) := by decide +kernel
theorem dX12_day_119 : decode cX12_day 119 = .ok (.putfield 144, 3) := by decide +kernel
theorem dX12_day_122 : decode cX12_day 122 = .ok (.iload 4, 2) := by decide +kernel
theorem dX12_day_124 : decode cX12_day 124 = .ok (.ifCond .ne 8, 3) := by decide +kernel
theorem dX12_day_127 : decode cX12_day 127 = .ok (.aload_n 0, 1) := by decide +kernel
theorem dX12_day_128 : decode cX12_day 128 = .ok (.getfield 193, 3) := by decide +kernel
theorem dX12_day_131 : decode cX12_day 131 = .ok (.ireturn, 1) := by decide +kernel
theorem dX12_day_132 : decode cX12_day 132 = .ok (.iconst 0, 1) := by decide +kernel
theorem dX12_day_133 : decode cX12_day 133 = .ok (.istore 5, 2) := by decide +kernel
theorem dX12_day_135 : decode cX12_day 135 = .ok (.iload 5, 2) := by decide +kernel
theorem dX12_day_137 : decode cX12_day 137 = .ok (.bipush 72, 2) := by decide +kernel
theorem dX12_day_139 : decode cX12_day 139 = .ok (.if_icmp .ge 28, 3) := by decide +kernel
theorem dX12_day_142 : decode cX12_day 142 = .ok (.aload_n 0, 1) := by decide +kernel
theorem dX12_day_143 : decode cX12_day 143 = .ok (.getfield 13, 3) := by decide +kernel
theorem dX12_day_146 : decode cX12_day 146 = .ok (.bipush 72, 2) := by decide +kernel
theorem dX12_day_148 : decode cX12_day 148 = .ok (.iload_n 1, 1) := by decide +kernel
theorem dX12_day_149 : decode cX12_day 149 = .ok (.imul, 1) := by decide +kernel
theorem dX12_day_150 : decode cX12_day 150 = .ok (.iload 5, 2) := by decide +kernel
theorem dX12_day_152 : decode cX12_day 152 = .ok (.iadd, 1) := by decide +kernel
theorem dX12_day_153 : decode cX12_day 153 = .ok (.aload_n 0, 1) := by decide +kernel
theorem dX12_day_154 : decode cX12_day 154 = .ok (.getfield 17, 3) := by decide +kernel
theorem dX12_day_157 : decode cX12_day 157 = .ok (.iload 5, 2) := by decide +kernel
theorem dX12_day_159 : decode cX12_day 159 = .ok (.iaload, 1) := by decide +kernel
theorem dX12_day_160 : decode cX12_day 160 = .ok (.iastore, 1) := by decide +kernel
theorem dX12_day_161 : decode cX12_day 161 = .ok (.iinc 5 1, 3) := by decide +kernel
theorem dX12_day_164 : decode cX12_day 164 = .ok (.goto (-29), 3) := by decide +kernel
theorem dX12_day_167 : decode cX12_day 167 = .ok (.aload_n 0, 1) := by decide +kernel
theorem dX12_day_168 : decode cX12_day 168 = .ok (.aload_n 0, 1) := by decide +kernel
theorem dX12_day_169 : decode cX12_day 169 = .ok (.getfield 196, 3) := by decide +kernel
theorem dX12_day_172 : decode cX12_day 172 = .ok (.iconst 1, 1) := by decide +kernel
theorem dX12_day_173 : decode cX12_day 173 = .ok (.iload_n 1, 1) := by decide +kernel
theorem dX12_day_174 : decode cX12_day 174 = .ok (.ishl, 1) := by decide +kernel
theorem dX12_day_175 : decode cX12_day 175 = .ok (.ior, 1) := by decide +kernel
theorem dX12_day_176 : decode cX12_day 176 = .ok (.putfield 196, 3) := by decide +kernel
theorem dX12_day_179 : decode cX12_day 179 = .ok (.iload_n 3, 1) := by decide +kernel
theorem dX12_day_180 : decode cX12_day 180 = .ok (.iconst 1, 1) := by decide +kernel
theorem dX12_day_181 : decode cX12_day 181 = .ok (.iadd, 1) := by decide +kernel
theorem dX12_day_182 : decode cX12_day 182 = .ok (.ireturn, 1) := by decide +kernel
theorem dX12_isDay_0 : decode cX12_isDay 0 = .ok (.iload_n 1, 1) := by decide +kernel
theorem dX12_isDay_1 : decode cX12_isDay 1 = .ok (.ifCond .lt 24, 3) := by decide +kernel
theorem dX12_isDay_4 : decode cX12_isDay 4 = .ok (.iload_n 1, 1) := by decide +kernel
theorem dX12_isDay_5 : decode cX12_isDay 5 = .ok (.bipush 12, 2) := by decide +kernel
theorem dX12_isDay_7 : decode cX12_isDay 7 = .ok (.if_icmp .ge 18, 3) := by decide +kernel
theorem dX12_isDay_10 : decode cX12_isDay 10 = .ok (.aload_n 0, 1) := by decide +kernel
theorem dX12_isDay_11 : decode cX12_isDay 11 = .ok (.getfield 196, 3) := by decide +kernel
theorem dX12_isDay_14 : decode cX12_isDay 14 = .ok (.iload_n 1, 1) := by decide +kernel
theorem dX12_isDay_15 : decode cX12_isDay 15 = .ok (.invokestatic 199, 3) := by decide +kernel
theorem dX12_isDay_18 : decode cX12_isDay 18 = .ok (.ifCond .eq 7, 3) := by decide +kernel
theorem dX12_isDay_21 : decode cX12_isDay 21 = .ok (.iconst 1, 1) := by decide +kernel
theorem dX12_isDay_22 : decode cX12_isDay 22 = .ok (.goto 4, 3) := by decide +kernel
theorem dX12_isDay_25 : decode cX12_isDay 25 = .ok (.iconst 0, 1) := by decide +kernel
theorem dX12_isDay_26 : decode cX12_isDay 26 = .ok (.ireturn, 1) := by decide +kernel
theorem dX12_isKind_0 : decode cX12_isKind 0 = .ok (.iload_n 0, 1) := by decide +kernel
theorem dX12_isKind_1 : decode cX12_isKind 1 = .ok (.ifCond .lt 12, 3) := by decide +kernel
theorem dX12_isKind_4 : decode cX12_isKind 4 = .ok (.iload_n 0, 1) := by decide +kernel
theorem dX12_isKind_5 : decode cX12_isKind 5 = .ok (.iconst 3, 1) := by decide +kernel
theorem dX12_isKind_6 : decode cX12_isKind 6 = .ok (.if_icmp .ge 7, 3) := by decide +kernel
theorem dX12_isKind_9 : decode cX12_isKind 9 = .ok (.iconst 1, 1) := by decide +kernel
theorem dX12_isKind_10 : decode cX12_isKind 10 = .ok (.goto 4, 3) := by decide +kernel
theorem dX12_isKind_13 : decode cX12_isKind 13 = .ok (.iconst 0, 1) := by decide +kernel
theorem dX12_isKind_14 : decode cX12_isKind 14 = .ok (.ireturn, 1) := by decide +kernel
theorem dX12_isHour_0 : decode cX12_isHour 0 = .ok (.iload_n 0, 1) := by decide +kernel
theorem dX12_isHour_1 : decode cX12_isHour 1 = .ok (.ifCond .lt 13, 3) := by decide +kernel
theorem dX12_isHour_4 : decode cX12_isHour 4 = .ok (.iload_n 0, 1) := by decide +kernel
theorem dX12_isHour_5 : decode cX12_isHour 5 = .ok (.bipush 24, 2) := by decide +kernel
theorem dX12_isHour_7 : decode cX12_isHour 7 = .ok (.if_icmp .ge 7, 3) := by decide +kernel
theorem dX12_isHour_10 : decode cX12_isHour 10 = .ok (.iconst 1, 1) := by decide +kernel
theorem dX12_isHour_11 : decode cX12_isHour 11 = .ok (.goto 4, 3) := by decide +kernel
theorem dX12_isHour_14 : decode cX12_isHour 14 = .ok (.iconst 0, 1) := by decide +kernel
theorem dX12_isHour_15 : decode cX12_isHour 15 = .ok (.ireturn, 1) := by decide +kernel
theorem dX12_dayIs_0 : decode cX12_dayIs 0 = .ok (.aload_n 0, 1) := by decide +kernel
theorem dX12_dayIs_1 : decode cX12_dayIs 1 = .ok (.iload_n 1, 1) := by decide +kernel
theorem dX12_dayIs_2 : decode cX12_dayIs 2 = .ok (.invokevirtual 202, 3) := by decide +kernel
theorem dX12_dayIs_5 : decode cX12_dayIs 5 = .ok (.ifCond .eq 36, 3) := by decide +kernel
theorem dX12_dayIs_8 : decode cX12_dayIs 8 = .ok (.iload_n 2, 1) := by decide +kernel
theorem dX12_dayIs_9 : decode cX12_dayIs 9 = .ok (.invokestatic 205, 3) := by decide +kernel
theorem dX12_dayIs_12 : decode cX12_dayIs 12 = .ok (.ifCond .eq 29, 3) := by decide +kernel
theorem dX12_dayIs_15 : decode cX12_dayIs 15 = .ok (.iload_n 3, 1) := by decide +kernel
theorem dX12_dayIs_16 : decode cX12_dayIs 16 = .ok (.invokestatic 208, 3) := by decide +kernel
theorem dX12_dayIs_19 : decode cX12_dayIs 19 = .ok (.ifCond .eq 22, 3) := by decide +kernel
theorem dX12_dayIs_22 : decode cX12_dayIs 22 = .ok (.aload_n 0, 1) := by decide +kernel
theorem dX12_dayIs_23 : decode cX12_dayIs 23 = .ok (.getfield 13, 3) := by decide +kernel
theorem dX12_dayIs_26 : decode cX12_dayIs 26 = .ok (.bipush 72, 2) := by decide +kernel
theorem dX12_dayIs_28 : decode cX12_dayIs 28 = .ok (.iload_n 1, 1) := by decide +kernel
theorem dX12_dayIs_29 : decode cX12_dayIs 29 = .ok (.imul, 1) := by decide +kernel
theorem dX12_dayIs_30 : decode cX12_dayIs 30 = .ok (.bipush 24, 2) := by decide +kernel
theorem dX12_dayIs_32 : decode cX12_dayIs 32 = .ok (.iload_n 2, 1) := by decide +kernel
theorem dX12_dayIs_33 : decode cX12_dayIs 33 = .ok (.imul, 1) := by decide +kernel
theorem dX12_dayIs_34 : decode cX12_dayIs 34 = .ok (.iadd, 1) := by decide +kernel
theorem dX12_dayIs_35 : decode cX12_dayIs 35 = .ok (.iload_n 3, 1) := by decide +kernel
theorem dX12_dayIs_36 : decode cX12_dayIs 36 = .ok (.iadd, 1) := by decide +kernel
theorem dX12_dayIs_37 : decode cX12_dayIs 37 = .ok (.iaload, 1) := by decide +kernel
theorem dX12_dayIs_38 : decode cX12_dayIs 38 = .ok (.goto 4, 3) := by decide +kernel
theorem dX12_dayIs_41 : decode cX12_dayIs 41 = .ok (.iconst (-1), 1) := by decide +kernel
theorem dX12_dayIs_42 : decode cX12_dayIs 42 = .ok (.ireturn, 1) := by decide +kernel
theorem dX12_room_0 : decode cX12_room 0 = .ok (.iload_n 1, 1) := by decide +kernel
theorem dX12_room_1 : decode cX12_room 1 = .ok (.iconst 0, 1) := by decide +kernel
theorem dX12_room_2 : decode cX12_room 2 = .ok (.iconst 3, 1) := by decide +kernel
theorem dX12_room_3 : decode cX12_room 3 = .ok (.invokestatic 169, 3) := by decide +kernel
theorem dX12_room_6 : decode cX12_room 6 = .ok (.ifCond .eq 12, 3) := by decide +kernel
theorem dX12_room_9 : decode cX12_room 9 = .ok (.aload_n 0, 1) := by decide +kernel
theorem dX12_room_10 : decode cX12_room 10 = .ok (.getfield 211, 3) := by decide +kernel
theorem dX12_room_13 : decode cX12_room 13 = .ok (.bipush 10, 2) := by decide +kernel
theorem dX12_room_15 : decode cX12_room 15 = .ok (.if_icmp .ne 5, 3) := by decide +kernel
theorem dX12_room_18 : decode cX12_room 18 = .ok (.iconst (-1), 1) := by decide +kernel
theorem dX12_room_19 : decode cX12_room 19 = .ok (.ireturn, 1) := by decide +kernel
theorem dX12_room_20 : decode cX12_room 20 = .ok (.aload_n 0, 1) := by decide +kernel
theorem dX12_room_21 : decode cX12_room 21 = .ok (.getfield 20, 3) := by decide +kernel
theorem dX12_room_24 : decode cX12_room 24 = .ok (.aload_n 0, 1) := by decide +kernel
theorem dX12_room_25 : decode cX12_room 25 = .ok (.getfield 211, 3) := by decide +kernel
theorem dX12_room_28 : decode cX12_room 28 = .ok (.iload_n 1, 1) := by decide +kernel
theorem dX12_room_29 : decode cX12_room 29 = .ok (.iastore, 1) := by decide +kernel
theorem dX12_room_30 : decode cX12_room 30 = .ok (.aload_n 0, 1) := by decide +kernel
theorem dX12_room_31 : decode cX12_room 31 = .ok (.aload_n 0, 1) := by decide +kernel
theorem dX12_room_32 : decode cX12_room 32 = .ok (.getfield 211, 3) := by decide +kernel
theorem dX12_room_35 : decode cX12_room 35 = .ok (.iconst 1, 1) := by decide +kernel
theorem dX12_room_36 : decode cX12_room 36 = .ok (.iadd, 1) := by decide +kernel
theorem dX12_room_37 : decode cX12_room 37 = .ok (.putfield 211, 3) := by decide +kernel
theorem dX12_room_40 : decode cX12_room 40 = .ok (.aload_n 0, 1) := by decide +kernel
theorem dX12_room_41 : decode cX12_room 41 = .ok (.getfield 211, 3) := by decide +kernel
theorem dX12_room_44 : decode cX12_room 44 = .ok (.iconst 1, 1) := by decide +kernel
theorem dX12_room_45 : decode cX12_room 45 = .ok (.isub, 1) := by decide +kernel
theorem dX12_room_46 : decode cX12_room 46 = .ok (.ireturn, 1) := by decide +kernel
theorem dX12_plant_0 : decode cX12_plant 0 = .ok (.iload_n 1, 1) := by decide +kernel
theorem dX12_plant_1 : decode cX12_plant 1 = .ok (.invokestatic 205, 3) := by decide +kernel
theorem dX12_plant_4 : decode cX12_plant 4 = .ok (.ifCond .eq 25, 3) := by decide +kernel
theorem dX12_plant_7 : decode cX12_plant 7 = .ok (.iload_n 2, 1) := by decide +kernel
theorem dX12_plant_8 : decode cX12_plant 8 = .ok (.iconst 0, 1) := by decide +kernel
theorem dX12_plant_9 : decode cX12_plant 9 = .ok (.sipush 999, 3) := by decide +kernel
theorem dX12_plant_12 : decode cX12_plant 12 = .ok (.invokestatic 169, 3) := by decide +kernel
theorem dX12_plant_15 : decode cX12_plant 15 = .ok (.ifCond .eq 14, 3) := by decide +kernel
theorem dX12_plant_18 : decode cX12_plant 18 = .ok (.iload_n 3, 1) := by decide +kernel
theorem dX12_plant_19 : decode cX12_plant 19 = .ok (.iconst 0, 1) := by decide +kernel
theorem dX12_plant_20 : decode cX12_plant 20 = .ok (.sipush 999, 3) := by decide +kernel
theorem dX12_plant_23 : decode cX12_plant 23 = .ok (.invokestatic 169, 3) := by decide +kernel
theorem dX12_plant_26 : decode cX12_plant 26 = .ok (.ifCond .ne 5, 3) := by decide +kernel
theorem dX12_plant_29 : decode cX12_plant 29 = .ok (.iconst 0, 1) := by decide +kernel
theorem dX12_plant_30 : decode cX12_plant 30 = .ok (.ireturn, 1) := by decide +kernel
theorem dX12_plant_31 : decode cX12_plant 31 = .ok (.aload_n 0, 1) := by decide +kernel
theorem dX12_plant_32 : decode cX12_plant 32 = .ok (.getfield 23, 3) := by decide +kernel
theorem dX12_plant_35 : decode cX12_plant 35 = .ok (.iload_n 1, 1) := by decide +kernel
theorem dX12_plant_36 : decode cX12_plant 36 = .ok (.iload_n 2, 1) := by decide +kernel
theorem dX12_plant_37 : decode cX12_plant 37 = .ok (.iastore, 1) := by decide +kernel
theorem dX12_plant_38 : decode cX12_plant 38 = .ok (.aload_n 0, 1) := by decide +kernel
theorem dX12_plant_39 : decode cX12_plant 39 = .ok (.getfield 26, 3) := by decide +kernel
theorem dX12_plant_42 : decode cX12_plant 42 = .ok (.iload_n 1, 1) := by decide +kernel
theorem dX12_plant_43 : decode cX12_plant 43 = .ok (.iload_n 3, 1) := by decide +kernel
theorem dX12_plant_44 : decode cX12_plant 44 = .ok (.iastore, 1) := by decide +kernel
theorem dX12_plant_45 : decode cX12_plant 45 = .ok (.iconst 1, 1) := by decide +kernel
theorem dX12_plant_46 : decode cX12_plant 46 = .ok (.ireturn, 1) := by decide +kernel
theorem dX12_pipes_0 : decode cX12_pipes 0 = .ok (.iload_n 1, 1) := by decide +kernel
theorem dX12_pipes_1 : decode cX12_pipes 1 = .ok (.iconst 0, 1) := by decide +kernel
theorem dX12_pipes_2 : decode cX12_pipes 2 = .ok (.iconst 3, 1) := by decide +kernel
theorem dX12_pipes_3 : decode cX12_pipes 3 = .ok (.invokestatic 169, 3) := by decide +kernel
theorem dX12_pipes_6 : decode cX12_pipes 6 = .ok (.ifCond .eq 14, 3) := by decide +kernel
theorem dX12_pipes_9 : decode cX12_pipes 9 = .ok (.iload_n 2, 1) := by decide +kernel
theorem dX12_pipes_10 : decode cX12_pipes 10 = .ok (.iconst 0, 1) := by decide +kernel
theorem dX12_pipes_11 : decode cX12_pipes 11 = .ok (.sipush 999, 3) := by decide +kernel
theorem dX12_pipes_14 : decode cX12_pipes 14 = .ok (.invokestatic 169, 3) := by decide +kernel
theorem dX12_pipes_17 : decode cX12_pipes 17 = .ok (.ifCond .ne 5, 3) := by decide +kernel
theorem dX12_pipes_20 : decode cX12_pipes 20 = .ok (.iconst 0, 1) := by decide +kernel
theorem dX12_pipes_21 : decode cX12_pipes 21 = .ok (.ireturn, 1) := by decide +kernel
theorem dX12_pipes_22 : decode cX12_pipes 22 = .ok (.aload_n 0, 1) := by decide +kernel
theorem dX12_pipes_23 : decode cX12_pipes 23 = .ok (.getfield 29, 3) := by decide +kernel
theorem dX12_pipes_26 : decode cX12_pipes 26 = .ok (.iload_n 1, 1) := by decide +kernel
theorem dX12_pipes_27 : decode cX12_pipes 27 = .ok (.iload_n 2, 1) := by decide +kernel
theorem dX12_pipes_28 : decode cX12_pipes 28 = .ok (.iastore, 1) := by decide +kernel
theorem dX12_pipes_29 : decode cX12_pipes 29 = .ok (.iconst 1, 1) := by decide +kernel
theorem dX12_pipes_30 : decode cX12_pipes 30 = .ok (.ireturn, 1) := by decide +kernel
theorem dX12_cellar_0 : decode cX12_cellar 0 = .ok (.iload_n 1, 1) := by decide +kernel
theorem dX12_cellar_1 : decode cX12_cellar 1 = .ok (.iconst 0, 1) := by decide +kernel
theorem dX12_cellar_2 : decode cX12_cellar 2 = .ok (.sipush 9999, 3) := by decide +kernel
theorem dX12_cellar_5 : decode cX12_cellar 5 = .ok (.invokestatic 169, 3) := by decide +kernel
theorem dX12_cellar_8 : decode cX12_cellar 8 = .ok (.ifCond .eq 13, 3) := by decide +kernel
theorem dX12_cellar_11 : decode cX12_cellar 11 = .ok (.iload_n 2, 1) := by decide +kernel
theorem dX12_cellar_12 : decode cX12_cellar 12 = .ok (.iconst 0, 1) := by decide +kernel
theorem dX12_cellar_13 : decode cX12_cellar 13 = .ok (.bipush 99, 2) := by decide +kernel
theorem dX12_cellar_15 : decode cX12_cellar 15 = .ok (.invokestatic 169, 3) := by decide +kernel
theorem dX12_cellar_18 : decode cX12_cellar 18 = .ok (.ifCond .ne 5, 3) := by decide +kernel
theorem dX12_cellar_21 : decode cX12_cellar 21 = .ok (.iconst 0, 1) := by decide +kernel
theorem dX12_cellar_22 : decode cX12_cellar 22 = .ok (.ireturn, 1) := by decide +kernel
theorem dX12_cellar_23 : decode cX12_cellar 23 = .ok (.aload_n 0, 1) := by decide +kernel
theorem dX12_cellar_24 : decode cX12_cellar 24 = .ok (.iload_n 1, 1) := by decide +kernel
theorem dX12_cellar_25 : decode cX12_cellar 25 = .ok (.putfield 141, 3) := by decide +kernel
theorem dX12_cellar_28 : decode cX12_cellar 28 = .ok (.aload_n 0, 1) := by decide +kernel
theorem dX12_cellar_29 : decode cX12_cellar 29 = .ok (.iload_n 2, 1) := by decide +kernel
theorem dX12_cellar_30 : decode cX12_cellar 30 = .ok (.putfield 214, 3) := by decide +kernel
theorem dX12_cellar_33 : decode cX12_cellar 33 = .ok (.iconst 1, 1) := by decide +kernel
theorem dX12_cellar_34 : decode cX12_cellar 34 = .ok (.ireturn, 1) := by decide +kernel
theorem dX12_isStay_0 : decode cX12_isStay 0 = .ok (.iload_n 1, 1) := by decide +kernel
theorem dX12_isStay_1 : decode cX12_isStay 1 = .ok (.ifCond .lt 24, 3) := by decide +kernel
theorem dX12_isStay_4 : decode cX12_isStay 4 = .ok (.iload_n 1, 1) := by decide +kernel
theorem dX12_isStay_5 : decode cX12_isStay 5 = .ok (.bipush 10, 2) := by decide +kernel
theorem dX12_isStay_7 : decode cX12_isStay 7 = .ok (.if_icmp .ge 18, 3) := by decide +kernel
theorem dX12_isStay_10 : decode cX12_isStay 10 = .ok (.aload_n 0, 1) := by decide +kernel
theorem dX12_isStay_11 : decode cX12_isStay 11 = .ok (.getfield 217, 3) := by decide +kernel
theorem dX12_isStay_14 : decode cX12_isStay 14 = .ok (.iload_n 1, 1) := by decide +kernel
theorem dX12_isStay_15 : decode cX12_isStay 15 = .ok (.invokestatic 199, 3) := by decide +kernel
theorem dX12_isStay_18 : decode cX12_isStay 18 = .ok (.ifCond .eq 7, 3) := by decide +kernel
theorem dX12_isStay_21 : decode cX12_isStay 21 = .ok (.iconst 1, 1) := by decide +kernel
theorem dX12_isStay_22 : decode cX12_isStay 22 = .ok (.goto 4, 3) := by decide +kernel
theorem dX12_isStay_25 : decode cX12_isStay 25 = .ok (.iconst 0, 1) := by decide +kernel
theorem dX12_isStay_26 : decode cX12_isStay 26 = .ok (.ireturn, 1) := by decide +kernel
theorem dX12_isRoom_0 : decode cX12_isRoom 0 = .ok (.iload_n 1, 1) := by decide +kernel
theorem dX12_isRoom_1 : decode cX12_isRoom 1 = .ok (.ifCond .lt 15, 3) := by decide +kernel
theorem dX12_isRoom_4 : decode cX12_isRoom 4 = .ok (.iload_n 1, 1) := by decide +kernel
theorem dX12_isRoom_5 : decode cX12_isRoom 5 = .ok (.aload_n 0, 1) := by decide +kernel
theorem dX12_isRoom_6 : decode cX12_isRoom 6 = .ok (.getfield 211, 3) := by decide +kernel
theorem dX12_isRoom_9 : decode cX12_isRoom 9 = .ok (.if_icmp .ge 7, 3) := by decide +kernel
theorem dX12_isRoom_12 : decode cX12_isRoom 12 = .ok (.iconst 1, 1) := by decide +kernel
theorem dX12_isRoom_13 : decode cX12_isRoom 13 = .ok (.goto 4, 3) := by decide +kernel
theorem dX12_isRoom_16 : decode cX12_isRoom 16 = .ok (.iconst 0, 1) := by decide +kernel
theorem dX12_isRoom_17 : decode cX12_isRoom 17 = .ok (.ireturn, 1) := by decide +kernel
theorem dX12_stayIn_0 : decode cX12_stayIn 0 = .ok (.iconst 0, 1) := by decide +kernel
theorem dX12_stayIn_1 : decode cX12_stayIn 1 = .ok (.istore_n 2, 1) := by decide +kernel
theorem dX12_stayIn_2 : decode cX12_stayIn 2 = .ok (.iload_n 2, 1) := by decide +kernel
theorem dX12_stayIn_3 : decode cX12_stayIn 3 = .ok (.bipush 10, 2) := by decide +kernel
theorem dX12_stayIn_5 : decode cX12_stayIn 5 = .ok (.if_icmp .ge 29, 3) := by decide +kernel
theorem dX12_stayIn_8 : decode cX12_stayIn 8 = .ok (.aload_n 0, 1) := by decide +kernel
theorem dX12_stayIn_9 : decode cX12_stayIn 9 = .ok (.iload_n 2, 1) := by decide +kernel
theorem dX12_stayIn_10 : decode cX12_stayIn 10 = .ok (.invokevirtual 220, 3) := by decide +kernel
theorem dX12_stayIn_13 : decode cX12_stayIn 13 = .ok (.ifCond .eq 15, 3) := by decide +kernel
theorem dX12_stayIn_16 : decode cX12_stayIn 16 = .ok (.aload_n 0, 1) := by decide +kernel
theorem dX12_stayIn_17 : decode cX12_stayIn 17 = .ok (.getfield 32, 3) := by decide +kernel
theorem dX12_stayIn_20 : decode cX12_stayIn 20 = .ok (.iload_n 2, 1) := by decide +kernel
theorem dX12_stayIn_21 : decode cX12_stayIn 21 = .ok (.iaload, 1) := by decide +kernel
theorem dX12_stayIn_22 : decode cX12_stayIn 22 = .ok (.iload_n 1, 1) := by decide +kernel
theorem dX12_stayIn_23 : decode cX12_stayIn 23 = .ok (.if_icmp .ne 5, 3) := by decide +kernel
theorem dX12_stayIn_26 : decode cX12_stayIn 26 = .ok (.iload_n 2, 1) := by decide +kernel
theorem dX12_stayIn_27 : decode cX12_stayIn 27 = .ok (.ireturn, 1) := by decide +kernel
theorem dX12_stayIn_28 : decode cX12_stayIn 28 = .ok (.iinc 2 1, 3) := by decide +kernel
theorem dX12_stayIn_31 : decode cX12_stayIn 31 = .ok (.goto (-29), 3) := by decide +kernel
theorem dX12_stayIn_34 : decode cX12_stayIn 34 = .ok (.iconst (-1), 1) := by decide +kernel
theorem dX12_stayIn_35 : decode cX12_stayIn 35 = .ok (.ireturn, 1) := by decide +kernel
theorem dX12_stay_0 : decode cX12_stay 0 = .ok (.iload_n 1, 1) := by decide +kernel
theorem dX12_stay_1 : decode cX12_stay 1 = .ok (.iconst 0, 1) := by decide +kernel
theorem dX12_stay_2 : decode cX12_stay 2 = .ok (.bipush 9, 2) := by decide +kernel
theorem dX12_stay_4 : decode cX12_stay 4 = .ok (.invokestatic 169, 3) := by decide +kernel
theorem dX12_stay_7 : decode cX12_stay 7 = .ok (.ifCond .eq 49, 3) := by decide +kernel
theorem dX12_stay_10 : decode cX12_stay 10 = .ok (.aload_n 0, 1) := by decide +kernel
theorem dX12_stay_11 : decode cX12_stay 11 = .ok (.iload_n 2, 1) := by decide +kernel
theorem dX12_stay_12 : decode cX12_stay 12 = .ok (.invokevirtual 223, 3) := by decide +kernel
theorem dX12_stay_15 : decode cX12_stay 15 = .ok (.ifCond .eq 41, 3) := by decide +kernel
theorem dX12_stay_18 : decode cX12_stay 18 = .ok (.aload_n 0, 1) := by decide +kernel
theorem dX12_stay_19 : decode cX12_stay 19 = .ok (.iload_n 3, 1) := by decide +kernel
theorem dX12_stay_20 : decode cX12_stay 20 = .ok (.invokevirtual 202, 3) := by decide +kernel
theorem dX12_stay_23 : decode cX12_stay 23 = .ok (.ifCond .eq 33, 3) := by decide +kernel
theorem dX12_stay_26 : decode cX12_stay 26 = .ok (.iload 4, 2) := by decide +kernel
theorem dX12_stay_28 : decode cX12_stay 28 = .ok (.iconst 0, 1) := by decide +kernel
theorem dX12_stay_29 : decode cX12_stay 29 = .ok (.sipush 999, 3) := by decide +kernel
theorem dX12_stay_32 : decode cX12_stay 32 = .ok (.invokestatic 169, 3) := by decide +kernel
theorem dX12_stay_35 : decode cX12_stay 35 = .ok (.ifCond .eq 21, 3) := by decide +kernel
theorem dX12_stay_38 : decode cX12_stay 38 = .ok (.aload_n 0, 1) := by decide +kernel
theorem dX12_stay_39 : decode cX12_stay 39 = .ok (.iload_n 2, 1) := by decide +kernel
theorem dX12_stay_40 : decode cX12_stay 40 = .ok (.invokevirtual 226, 3) := by decide +kernel
theorem dX12_stay_43 : decode cX12_stay 43 = .ok (.iconst (-1), 1) := by decide +kernel
theorem dX12_stay_44 : decode cX12_stay 44 = .ok (.if_icmp .eq 14, 3) := by decide +kernel
theorem dX12_stay_47 : decode cX12_stay 47 = .ok (.aload_n 0, 1) := by decide +kernel
theorem dX12_stay_48 : decode cX12_stay 48 = .ok (.iload_n 2, 1) := by decide +kernel
theorem dX12_stay_49 : decode cX12_stay 49 = .ok (.invokevirtual 226, 3) := by decide +kernel
theorem dX12_stay_52 : decode cX12_stay 52 = .ok (.iload_n 1, 1) := by decide +kernel
theorem dX12_stay_53 : decode cX12_stay 53 = .ok (.if_icmp .eq 5, 3) := by decide +kernel
theorem dX12_stay_56 : decode cX12_stay 56 = .ok (.iconst 0, 1) := by decide +kernel
theorem dX12_stay_57 : decode cX12_stay 57 = .ok (.ireturn, 1) := by decide +kernel
theorem dX12_stay_58 : decode cX12_stay 58 = .ok (.aload_n 0, 1) := by decide +kernel
theorem dX12_stay_59 : decode cX12_stay 59 = .ok (.getfield 32, 3) := by decide +kernel
theorem dX12_stay_62 : decode cX12_stay 62 = .ok (.iload_n 1, 1) := by decide +kernel
theorem dX12_stay_63 : decode cX12_stay 63 = .ok (.iload_n 2, 1) := by decide +kernel
theorem dX12_stay_64 : decode cX12_stay 64 = .ok (.iastore, 1) := by decide +kernel
theorem dX12_stay_65 : decode cX12_stay 65 = .ok (.aload_n 0, 1) := by decide +kernel
theorem dX12_stay_66 : decode cX12_stay 66 = .ok (.getfield 35, 3) := by decide +kernel
theorem dX12_stay_69 : decode cX12_stay 69 = .ok (.iload_n 1, 1) := by decide +kernel
theorem dX12_stay_70 : decode cX12_stay 70 = .ok (.iload_n 3, 1) := by decide +kernel
theorem dX12_stay_71 : decode cX12_stay 71 = .ok (.iastore, 1) := by decide +kernel
theorem dX12_stay_72 : decode cX12_stay 72 = .ok (.aload_n 0, 1) := by decide +kernel
theorem dX12_stay_73 : decode cX12_stay 73 = .ok (.getfield 38, 3) := by decide +kernel
theorem dX12_stay_76 : decode cX12_stay 76 = .ok (.iload_n 1, 1) := by decide +kernel
theorem dX12_stay_77 : decode cX12_stay 77 = .ok (.iload 4, 2) := by decide +kernel
theorem dX12_stay_79 : decode cX12_stay 79 = .ok (.iastore, 1) := by decide +kernel
theorem dX12_stay_80 : decode cX12_stay 80 = .ok (.aload_n 0, 1) := by decide +kernel
theorem dX12_stay_81 : decode cX12_stay 81 = .ok (.getfield 41, 3) := by decide +kernel
theorem dX12_stay_84 : decode cX12_stay 84 = .ok (.iload_n 1, 1) := by decide +kernel
theorem dX12_stay_85 : decode cX12_stay 85 = .ok (.iconst 0, 1) := by decide +kernel
theorem dX12_stay_86 : decode cX12_stay 86 = .ok (.iastore, 1) := by decide +kernel
theorem dX12_stay_87 : decode cX12_stay 87 = .ok (.aload_n 0, 1) := by decide +kernel
theorem dX12_stay_88 : decode cX12_stay 88 = .ok (.aload_n 0, 1) := by decide +kernel
theorem dX12_stay_89 : decode cX12_stay 89 = .ok (.getfield 217, 3) := by decide +kernel
theorem dX12_stay_92 : decode cX12_stay 92 = .ok (.iconst 1, 1) := by decide +kernel
theorem dX12_stay_93 : decode cX12_stay 93 = .ok (.iload_n 1, 1) := by decide +kernel
theorem dX12_stay_94 : decode cX12_stay 94 = .ok (.ishl, 1) := by decide +kernel
theorem dX12_stay_95 : decode cX12_stay 95 = .ok (.ior, 1) := by decide +kernel
theorem dX12_stay_96 : decode cX12_stay 96 = .ok (.putfield 217, 3) := by decide +kernel
theorem dX12_stay_99 : decode cX12_stay 99 = .ok (.iconst 1, 1) := by decide +kernel
theorem dX12_stay_100 : decode cX12_stay 100 = .ok (.ireturn, 1) := by decide +kernel
theorem dX12_leave_0 : decode cX12_leave 0 = .ok (.aload_n 0, 1) := by decide +kernel
theorem dX12_leave_1 : decode cX12_leave 1 = .ok (.iload_n 1, 1) := by decide +kernel
theorem dX12_leave_2 : decode cX12_leave 2 = .ok (.invokevirtual 220, 3) := by decide +kernel
theorem dX12_leave_5 : decode cX12_leave 5 = .ok (.ifCond .ne 5, 3) := by decide +kernel
theorem dX12_leave_8 : decode cX12_leave 8 = .ok (.iconst 0, 1) := by decide +kernel
theorem dX12_leave_9 : decode cX12_leave 9 = .ok (.ireturn, 1) := by decide +kernel
theorem dX12_leave_10 : decode cX12_leave 10 = .ok (.aload_n 0, 1) := by decide +kernel
theorem dX12_leave_11 : decode cX12_leave 11 = .ok (.aload_n 0, 1) := by decide +kernel
theorem dX12_leave_12 : decode cX12_leave 12 = .ok (.getfield 217, 3) := by decide +kernel
theorem dX12_leave_15 : decode cX12_leave 15 = .ok (.iconst 1, 1) := by decide +kernel
theorem dX12_leave_16 : decode cX12_leave 16 = .ok (.iload_n 1, 1) := by decide +kernel
theorem dX12_leave_17 : decode cX12_leave 17 = .ok (.ishl, 1) := by decide +kernel
theorem dX12_leave_18 : decode cX12_leave 18 = .ok (.iconst (-1), 1) := by decide +kernel
theorem dX12_leave_19 : decode cX12_leave 19 = .ok (.ixor, 1) := by decide +kernel
theorem dX12_leave_20 : decode cX12_leave 20 = .ok (.iand, 1) := by decide +kernel
theorem dX12_leave_21 : decode cX12_leave 21 = .ok (.putfield 217, 3) := by decide +kernel
theorem dX12_leave_24 : decode cX12_leave 24 = .ok (.iconst 1, 1) := by decide +kernel
theorem dX12_leave_25 : decode cX12_leave 25 = .ok (.ireturn, 1) := by decide +kernel
theorem dX12_shift_0 : decode cX12_shift 0 = .ok (.aload_n 0, 1) := by decide +kernel
theorem dX12_shift_1 : decode cX12_shift 1 = .ok (.iload_n 1, 1) := by decide +kernel
theorem dX12_shift_2 : decode cX12_shift 2 = .ok (.invokevirtual 220, 3) := by decide +kernel
theorem dX12_shift_5 : decode cX12_shift 5 = .ok (.ifCond .eq 13, 3) := by decide +kernel
theorem dX12_shift_8 : decode cX12_shift 8 = .ok (.iload_n 2, 1) := by decide +kernel
theorem dX12_shift_9 : decode cX12_shift 9 = .ok (.bipush (-3), 2) := by decide +kernel
theorem dX12_shift_11 : decode cX12_shift 11 = .ok (.iconst 3, 1) := by decide +kernel
theorem dX12_shift_12 : decode cX12_shift 12 = .ok (.invokestatic 169, 3) := by decide +kernel
theorem dX12_shift_15 : decode cX12_shift 15 = .ok (.ifCond .ne 5, 3) := by decide +kernel
theorem dX12_shift_18 : decode cX12_shift 18 = .ok (.iconst 0, 1) := by decide +kernel
theorem dX12_shift_19 : decode cX12_shift 19 = .ok (.ireturn, 1) := by decide +kernel
theorem dX12_shift_20 : decode cX12_shift 20 = .ok (.aload_n 0, 1) := by decide +kernel
theorem dX12_shift_21 : decode cX12_shift 21 = .ok (.getfield 41, 3) := by decide +kernel
theorem dX12_shift_24 : decode cX12_shift 24 = .ok (.iload_n 1, 1) := by decide +kernel
theorem dX12_shift_25 : decode cX12_shift 25 = .ok (.iload_n 2, 1) := by decide +kernel
theorem dX12_shift_26 : decode cX12_shift 26 = .ok (.iastore, 1) := by decide +kernel
theorem dX12_shift_27 : decode cX12_shift 27 = .ok (.iconst 1, 1) := by decide +kernel
theorem dX12_shift_28 : decode cX12_shift 28 = .ok (.ireturn, 1) := by decide +kernel
theorem dX12_wantOf_0 : decode cX12_wantOf 0 = .ok (.aload_n 0, 1) := by decide +kernel
theorem dX12_wantOf_1 : decode cX12_wantOf 1 = .ok (.getfield 13, 3) := by decide +kernel
theorem dX12_wantOf_4 : decode cX12_wantOf 4 = .ok (.bipush 72, 2) := by decide +kernel
theorem dX12_wantOf_6 : decode cX12_wantOf 6 = .ok (.aload_n 0, 1) := by decide +kernel
theorem dX12_wantOf_7 : decode cX12_wantOf 7 = .ok (.getfield 35, 3) := by decide +kernel
theorem dX12_wantOf_10 : decode cX12_wantOf 10 = .ok (.iload_n 1, 1) := by decide +kernel
theorem dX12_wantOf_11 : decode cX12_wantOf 11 = .ok (.iaload, 1) := by decide +kernel
theorem dX12_wantOf_12 : decode cX12_wantOf 12 = .ok (.imul, 1) := by decide +kernel
theorem dX12_wantOf_13 : decode cX12_wantOf 13 = .ok (.bipush 24, 2) := by decide +kernel
theorem dX12_wantOf_15 : decode cX12_wantOf 15 = .ok (.iload_n 2, 1) := by decide +kernel
theorem dX12_wantOf_16 : decode cX12_wantOf 16 = .ok (.imul, 1) := by decide +kernel
theorem dX12_wantOf_17 : decode cX12_wantOf 17 = .ok (.iadd, 1) := by decide +kernel
theorem dX12_wantOf_18 : decode cX12_wantOf 18 = .ok (.iload_n 3, 1) := by decide +kernel
theorem dX12_wantOf_19 : decode cX12_wantOf 19 = .ok (.bipush 24, 2) := by decide +kernel
theorem dX12_wantOf_21 : decode cX12_wantOf 21 = .ok (.iadd, 1) := by decide +kernel
theorem dX12_wantOf_22 : decode cX12_wantOf 22 = .ok (.aload_n 0, 1) := by decide +kernel
theorem dX12_wantOf_23 : decode cX12_wantOf 23 = .ok (.getfield 41, 3) := by decide +kernel
theorem dX12_wantOf_26 : decode cX12_wantOf 26 = .ok (.iload_n 1, 1) := by decide +kernel
theorem dX12_wantOf_27 : decode cX12_wantOf 27 = .ok (.iaload, 1) := by decide +kernel
theorem dX12_wantOf_28 : decode cX12_wantOf 28 = .ok (.isub, 1) := by decide +kernel
theorem dX12_wantOf_29 : decode cX12_wantOf 29 = .ok (.bipush 24, 2) := by decide +kernel
theorem dX12_wantOf_31 : decode cX12_wantOf 31 = .ok (.irem, 1) := by decide +kernel
theorem dX12_wantOf_32 : decode cX12_wantOf 32 = .ok (.iadd, 1) := by decide +kernel
theorem dX12_wantOf_33 : decode cX12_wantOf 33 = .ok (.iaload, 1) := by decide +kernel
theorem dX12_wantOf_34 : decode cX12_wantOf 34 = .ok (.ireturn, 1) := by decide +kernel
theorem dX12_wantAll_0 : decode cX12_wantAll 0 = .ok (.iconst 0, 1) := by decide +kernel
theorem dX12_wantAll_1 : decode cX12_wantAll 1 = .ok (.istore 4, 2) := by decide +kernel
theorem dX12_wantAll_3 : decode cX12_wantAll 3 = .ok (.iconst 0, 1) := by decide +kernel
theorem dX12_wantAll_4 : decode cX12_wantAll 4 = .ok (.istore 5, 2) := by decide +kernel
theorem dX12_wantAll_6 : decode cX12_wantAll 6 = .ok (.iload 5, 2) := by decide +kernel
theorem dX12_wantAll_8 : decode cX12_wantAll 8 = .ok (.bipush 10, 2) := by decide +kernel
theorem dX12_wantAll_10 : decode cX12_wantAll 10 = .ok (.if_icmp .ge 35, 3) := by decide +kernel
theorem dX12_wantAll_13 : decode cX12_wantAll 13 = .ok (.iload 4, 2) := by decide +kernel
theorem dX12_wantAll_15 : decode cX12_wantAll 15 = .ok (.iload_n 1, 1) := by decide +kernel
theorem dX12_wantAll_16 : decode cX12_wantAll 16 = .ok (.iload 5, 2) := by decide +kernel
theorem dX12_wantAll_18 : decode cX12_wantAll 18 = .ok (.invokestatic 199, 3) := by decide +kernel
theorem dX12_wantAll_21 : decode cX12_wantAll 21 = .ok (.ifCond .eq 14, 3) := by decide +kernel
theorem dX12_wantAll_24 : decode cX12_wantAll 24 = .ok (.aload_n 0, 1) := by decide +kernel
theorem dX12_wantAll_25 : decode cX12_wantAll 25 = .ok (.iload 5, 2) := by decide +kernel
theorem dX12_wantAll_27 : decode cX12_wantAll 27 = .ok (.iload_n 2, 1) := by decide +kernel
theorem dX12_wantAll_28 : decode cX12_wantAll 28 = .ok (.iload_n 3, 1) := by decide +kernel
theorem dX12_wantAll_29 : decode cX12_wantAll 29 = .ok (.invokevirtual 230, 3) := by decide +kernel
theorem dX12_wantAll_32 : decode cX12_wantAll 32 = .ok (.goto 4, 3) := by decide +kernel
theorem dX12_wantAll_35 : decode cX12_wantAll 35 = .ok (.iconst 0, 1) := by decide +kernel
theorem dX12_wantAll_36 : decode cX12_wantAll 36 = .ok (.iadd, 1) := by decide +kernel
theorem dX12_wantAll_37 : decode cX12_wantAll 37 = .ok (.istore 4, 2) := by decide +kernel
theorem dX12_wantAll_39 : decode cX12_wantAll 39 = .ok (.iinc 5 1, 3) := by decide +kernel
theorem dX12_wantAll_42 : decode cX12_wantAll 42 = .ok (.goto (-36), 3) := by decide +kernel
theorem dX12_wantAll_45 : decode cX12_wantAll 45 = .ok (.iload 4, 2) := by decide +kernel
theorem dX12_wantAll_47 : decode cX12_wantAll 47 = .ok (.ireturn, 1) := by decide +kernel
theorem dX12_wants_0 : decode cX12_wants 0 = .ok (.iload_n 1, 1) := by decide +kernel
theorem dX12_wants_1 : decode cX12_wants 1 = .ok (.invokestatic 205, 3) := by decide +kernel
theorem dX12_wants_4 : decode cX12_wants 4 = .ok (.ifCond .eq 23, 3) := by decide +kernel
theorem dX12_wants_7 : decode cX12_wants 7 = .ok (.iload_n 2, 1) := by decide +kernel
theorem dX12_wants_8 : decode cX12_wants 8 = .ok (.invokestatic 208, 3) := by decide +kernel
theorem dX12_wants_11 : decode cX12_wants 11 = .ok (.ifCond .eq 16, 3) := by decide +kernel
theorem dX12_wants_14 : decode cX12_wants 14 = .ok (.aload_n 0, 1) := by decide +kernel
theorem dX12_wants_15 : decode cX12_wants 15 = .ok (.aload_n 0, 1) := by decide +kernel
theorem dX12_wants_16 : decode cX12_wants 16 = .ok (.getfield 217, 3) := by decide +kernel
theorem dX12_wants_19 : decode cX12_wants 19 = .ok (.iload_n 1, 1) := by decide +kernel
theorem dX12_wants_20 : decode cX12_wants 20 = .ok (.iload_n 2, 1) := by decide +kernel
theorem dX12_wants_21 : decode cX12_wants 21 = .ok (.invokevirtual 234, 3) := by decide +kernel
theorem dX12_wants_24 : decode cX12_wants 24 = .ok (.goto 4, 3) := by decide +kernel
theorem dX12_wants_27 : decode cX12_wants 27 = .ok (.iconst (-1), 1) := by decide +kernel
theorem dX12_wants_28 : decode cX12_wants 28 = .ok (.ireturn, 1) := by decide +kernel
theorem dX12_here_0 : decode cX12_here 0 = .ok (.aload_n 0, 1) := by decide +kernel
theorem dX12_here_1 : decode cX12_here 1 = .ok (.getfield 151, 3) := by decide +kernel
theorem dX12_here_4 : decode cX12_here 4 = .ok (.aload_n 0, 1) := by decide +kernel
theorem dX12_here_5 : decode cX12_here 5 = .ok (.getfield 187, 3) := by decide +kernel
theorem dX12_here_8 : decode cX12_here 8 = .ok (.if_icmp .ge 19, 3) := by decide +kernel
theorem dX12_here_11 : decode cX12_here 11 = .ok (.aload_n 0, 1) := by decide +kernel
theorem dX12_here_12 : decode cX12_here 12 = .ok (.getfield 7, 3) := by decide +kernel
theorem dX12_here_15 : decode cX12_here 15 = .ok (.aload_n 0, 1) := by decide +kernel
theorem dX12_here_16 : decode cX12_here 16 = .ok (.getfield 151, 3) := by decide +kernel
theorem dX12_here_19 : decode cX12_here 19 = .ok (.baload, 1) := by decide +kernel
theorem dX12_here_20 : decode cX12_here 20 = .ok (.sipush 255, 3) := by decide +kernel
theorem dX12_here_23 : decode cX12_here 23 = .ok (.iand, 1) := by decide +kernel
theorem dX12_here_24 : decode cX12_here 24 = .ok (.goto 4, 3) := by decide +kernel
theorem dX12_here_27 : decode cX12_here 27 = .ok (.iconst (-1), 1) := by decide +kernel
theorem dX12_here_28 : decode cX12_here 28 = .ok (.ireturn, 1) := by decide +kernel
theorem dX12_isDigit_0 : decode cX12_isDigit 0 = .ok (.aload_n 0, 1) := by decide +kernel
theorem dX12_isDigit_1 : decode cX12_isDigit 1 = .ok (.invokevirtual 165, 3) := by decide +kernel
theorem dX12_isDigit_4 : decode cX12_isDigit 4 = .ok (.bipush 48, 2) := by decide +kernel
theorem dX12_isDigit_6 : decode cX12_isDigit 6 = .ok (.if_icmp .lt 16, 3) := by decide +kernel
theorem dX12_isDigit_9 : decode cX12_isDigit 9 = .ok (.aload_n 0, 1) := by decide +kernel
theorem dX12_isDigit_10 : decode cX12_isDigit 10 = .ok (.invokevirtual 165, 3) := by decide +kernel
theorem dX12_isDigit_13 : decode cX12_isDigit 13 = .ok (.bipush 57, 2) := by decide +kernel
theorem dX12_isDigit_15 : decode cX12_isDigit 15 = .ok (.if_icmp .gt 7, 3) := by decide +kernel
theorem dX12_isDigit_18 : decode cX12_isDigit 18 = .ok (.iconst 1, 1) := by decide +kernel
theorem dX12_isDigit_19 : decode cX12_isDigit 19 = .ok (.goto 4, 3) := by decide +kernel
theorem dX12_isDigit_22 : decode cX12_isDigit 22 = .ok (.iconst 0, 1) := by decide +kernel
theorem dX12_isDigit_23 : decode cX12_isDigit 23 = .ok (.ireturn, 1) := by decide +kernel
theorem dX12_wrongAt_0 : decode cX12_wrongAt 0 = .ok (.aload_n 0, 1) := by decide +kernel
theorem dX12_wrongAt_1 : decode cX12_wrongAt 1 = .ok (.sipush (-1000), 3) := by decide +kernel
theorem dX12_wrongAt_4 : decode cX12_wrongAt 4 = .ok (.iload_n 1, 1) := by decide +kernel
theorem dX12_wrongAt_5 : decode cX12_wrongAt 5 = .ok (.imul, 1) := by decide +kernel
theorem dX12_wrongAt_6 : decode cX12_wrongAt 6 = .ok (.iload_n 2, 1) := by decide +kernel
theorem dX12_wrongAt_7 : decode cX12_wrongAt 7 = .ok (.isub, 1) := by decide +kernel
theorem dX12_wrongAt_8 : decode cX12_wrongAt 8 = .ok (.putfield 193, 3) := by decide +kernel
theorem dX12_wrongAt_11 : decode cX12_wrongAt 11 = .ok (.iconst 0, 1) := by decide +kernel
theorem dX12_wrongAt_12 : decode cX12_wrongAt 12 = .ok (.ireturn, 1) := by decide +kernel
theorem dX12_takes_0 : decode cX12_takes 0 = .ok (.aload_n 0, 1) := by decide +kernel
theorem dX12_takes_1 : decode cX12_takes 1 = .ok (.invokevirtual 165, 3) := by decide +kernel
theorem dX12_takes_4 : decode cX12_takes 4 = .ok (.iload_n 1, 1) := by decide +kernel
theorem dX12_takes_5 : decode cX12_takes 5 = .ok (.if_icmp .eq 13, 3) := by decide +kernel
theorem dX12_takes_8 : decode cX12_takes 8 = .ok (.aload_n 0, 1) := by decide +kernel
theorem dX12_takes_9 : decode cX12_takes 9 = .ok (.iconst 1, 1) := by decide +kernel
theorem dX12_takes_10 : decode cX12_takes 10 = .ok (.aload_n 0, 1) := by decide +kernel
theorem dX12_takes_11 : decode cX12_takes 11 = .ok (.getfield 151, 3) := by decide +kernel
theorem dX12_takes_14 : decode cX12_takes 14 = .ok (.invokevirtual 161, 3) := by decide +kernel
theorem dX12_takes_17 : decode cX12_takes 17 = .ok (.ireturn, 1) := by decide +kernel
theorem dX12_takes_18 : decode cX12_takes 18 = .ok (.aload_n 0, 1) := by decide +kernel
theorem dX12_takes_19 : decode cX12_takes 19 = .ok (.aload_n 0, 1) := by decide +kernel
theorem dX12_takes_20 : decode cX12_takes 20 = .ok (.getfield 151, 3) := by decide +kernel
theorem dX12_takes_23 : decode cX12_takes 23 = .ok (.iconst 1, 1) := by decide +kernel
theorem dX12_takes_24 : decode cX12_takes 24 = .ok (.iadd, 1) := by decide +kernel
theorem dX12_takes_25 : decode cX12_takes 25 = .ok (.putfield 151, 3) := by decide +kernel
theorem dX12_takes_28 : decode cX12_takes 28 = .ok (.iconst 1, 1) := by decide +kernel
theorem dX12_takes_29 : decode cX12_takes 29 = .ok (.ireturn, 1) := by decide +kernel
theorem dX12_readsNumber_0 : decode cX12_readsNumber 0 = .ok (.aload_n 0, 1) := by decide +kernel
theorem dX12_readsNumber_1 : decode cX12_readsNumber 1 = .ok (.getfield 151, 3) := by decide +kernel
theorem dX12_readsNumber_4 : decode cX12_readsNumber 4 = .ok (.istore_n 1, 1) := by decide +kernel
theorem dX12_readsNumber_5 : decode cX12_readsNumber 5 = .ok (.aload_n 0, 1) := by decide +kernel
theorem dX12_readsNumber_6 : decode cX12_readsNumber 6 = .ok (.iconst 0, 1) := by decide +kernel
theorem dX12_readsNumber_7 : decode cX12_readsNumber 7 = .ok (.putfield 154, 3) := by decide +kernel
theorem dX12_readsNumber_10 : decode cX12_readsNumber 10 = .ok (.aload_n 0, 1) := by decide +kernel
theorem dX12_readsNumber_11 : decode cX12_readsNumber 11 = .ok (.invokevirtual 157, 3) := by decide +kernel
theorem dX12_readsNumber_14 : decode cX12_readsNumber 14 = .ok (.ifCond .eq 55, 3) := by decide +kernel
theorem dX12_readsNumber_17 : decode cX12_readsNumber 17 = .ok (.aload_n 0, 1) := by decide +kernel
theorem dX12_readsNumber_18 : decode cX12_readsNumber 18 = .ok (.getfield 151, 3) := by decide +kernel
theorem dX12_readsNumber_21 : decode cX12_readsNumber 21 = .ok (.iload_n 1, 1) := by decide +kernel
theorem dX12_readsNumber_22 : decode cX12_readsNumber 22 = .ok (.iconst 5, 1) := by decide +kernel
theorem dX12_readsNumber_23 : decode cX12_readsNumber 23 = .ok (.iadd, 1) := by decide +kernel
theorem dX12_readsNumber_24 : decode cX12_readsNumber 24 = .ok (.if_icmp .ne 13, 3) := by decide +kernel
theorem dX12_readsNumber_27 : decode cX12_readsNumber 27 = .ok (.aload_n 0, 1) := by decide +kernel
theorem dX12_readsNumber_28 : decode cX12_readsNumber 28 = .ok (.iconst 2, 1) := by decide +kernel
theorem dX12_readsNumber_29 : decode cX12_readsNumber 29 = .ok (.aload_n 0, 1) := by decide +kernel
theorem dX12_readsNumber_30 : decode cX12_readsNumber 30 = .ok (.getfield 151, 3) := by decide +kernel
theorem dX12_readsNumber_33 : decode cX12_readsNumber 33 = .ok (.invokevirtual 161, 3) := by decide +kernel
theorem dX12_readsNumber_36 : decode cX12_readsNumber 36 = .ok (.ireturn, 1) := by decide +kernel
theorem dX12_readsNumber_37 : decode cX12_readsNumber 37 = .ok (.aload_n 0, 1) := by decide +kernel
theorem dX12_readsNumber_38 : decode cX12_readsNumber 38 = .ok (.bipush 10, 2) := by decide +kernel
theorem dX12_readsNumber_40 : decode cX12_readsNumber 40 = .ok (.aload_n 0, 1) := by decide +kernel
theorem dX12_readsNumber_41 : decode cX12_readsNumber 41 = .ok (.getfield 154, 3) := by decide +kernel
theorem dX12_readsNumber_44 : decode cX12_readsNumber 44 = .ok (.imul, 1) := by decide +kernel
theorem dX12_readsNumber_45 : decode cX12_readsNumber 45 = .ok (.aload_n 0, 1) := by decide +kernel
theorem dX12_readsNumber_46 : decode cX12_readsNumber 46 = .ok (.invokevirtual 165, 3) := by decide +kernel
theorem dX12_readsNumber_49 : decode cX12_readsNumber 49 = .ok (.iadd, 1) := by decide +kernel
theorem dX12_readsNumber_50 : decode cX12_readsNumber 50 = .ok (.bipush 48, 2) := by decide +kernel
theorem dX12_readsNumber_52 : decode cX12_readsNumber 52 = .ok (.isub, 1) := by decide +kernel
theorem dX12_readsNumber_53 : decode cX12_readsNumber 53 = .ok (.putfield 154, 3) := by decide +kernel
theorem dX12_readsNumber_56 : decode cX12_readsNumber 56 = .ok (.aload_n 0, 1) := by decide +kernel
theorem dX12_readsNumber_57 : decode cX12_readsNumber 57 = .ok (.aload_n 0, 1) := by decide +kernel
theorem dX12_readsNumber_58 : decode cX12_readsNumber 58 = .ok (.getfield 151, 3) := by decide +kernel
theorem dX12_readsNumber_61 : decode cX12_readsNumber 61 = .ok (.iconst 1, 1) := by decide +kernel
theorem dX12_readsNumber_62 : decode cX12_readsNumber 62 = .ok (.iadd, 1) := by decide +kernel
theorem dX12_readsNumber_63 : decode cX12_readsNumber 63 = .ok (.putfield 151, 3) := by decide +kernel
theorem dX12_readsNumber_66 : decode cX12_readsNumber 66 = .ok (.goto (-56), 3) := by decide +kernel
theorem dX12_readsNumber_69 : decode cX12_readsNumber 69 = .ok (.iconst 1, 1) := by decide +kernel
theorem dX12_readsNumber_70 : decode cX12_readsNumber 70 = .ok (.ireturn, 1) := by decide +kernel
theorem dX12_notes_0 : decode cX12_notes 0 = .ok (.aload_n 0, 1) := by decide +kernel
theorem dX12_notes_1 : decode cX12_notes 1 = .ok (.getfield 44, 3) := by decide +kernel
theorem dX12_notes_4 : decode cX12_notes 4 = .ok (.aload_n 0, 1) := by decide +kernel
theorem dX12_notes_5 : decode cX12_notes 5 = .ok (.getfield 237, 3) := by decide +kernel
theorem dX12_notes_8 : decode cX12_notes 8 = .ok (.ldc 240, 2) := by decide +kernel
theorem dX12_notes_10 : decode cX12_notes 10 = .ok (.iload_n 1, 1) := by decide +kernel
theorem dX12_notes_11 : decode cX12_notes 11 = .ok (.imul, 1) := by decide +kernel
theorem dX12_notes_12 : decode cX12_notes 12 = .ok (.iload_n 2, 1) := by decide +kernel
theorem dX12_notes_13 : decode cX12_notes 13 = .ok (.iadd, 1) := by decide +kernel
theorem dX12_notes_14 : decode cX12_notes 14 = .ok (.iastore, 1) := by decide +kernel
theorem dX12_notes_15 : decode cX12_notes 15 = .ok (.aload_n 0, 1) := by decide +kernel
theorem dX12_notes_16 : decode cX12_notes 16 = .ok (.aload_n 0, 1) := by decide +kernel
theorem dX12_notes_17 : decode cX12_notes 17 = .ok (.getfield 237, 3) := by decide +kernel
theorem dX12_notes_20 : decode cX12_notes 20 = .ok (.iconst 1, 1) := by decide +kernel
theorem dX12_notes_21 : decode cX12_notes 21 = .ok (.iadd, 1) := by decide +kernel
theorem dX12_notes_22 : decode cX12_notes 22 = .ok (.putfield 237, 3) := by decide +kernel
theorem dX12_notes_25 : decode cX12_notes 25 = .ok (.return_, 1) := by decide +kernel
theorem dX12_opens_0 : decode cX12_opens 0 = .ok (.aload_n 0, 1) := by decide +kernel
theorem dX12_opens_1 : decode cX12_opens 1 = .ok (.getfield 241, 3) := by decide +kernel
theorem dX12_opens_4 : decode cX12_opens 4 = .ok (.bipush 6, 2) := by decide +kernel
theorem dX12_opens_6 : decode cX12_opens 6 = .ok (.if_icmp .ne 13, 3) := by decide +kernel
theorem dX12_opens_9 : decode cX12_opens 9 = .ok (.aload_n 0, 1) := by decide +kernel
theorem dX12_opens_10 : decode cX12_opens 10 = .ok (.iconst 5, 1) := by decide +kernel
theorem dX12_opens_11 : decode cX12_opens 11 = .ok (.aload_n 0, 1) := by decide +kernel
theorem dX12_opens_12 : decode cX12_opens 12 = .ok (.getfield 151, 3) := by decide +kernel
theorem dX12_opens_15 : decode cX12_opens 15 = .ok (.invokevirtual 161, 3) := by decide +kernel
theorem dX12_opens_18 : decode cX12_opens 18 = .ok (.ireturn, 1) := by decide +kernel
theorem dX12_opens_19 : decode cX12_opens 19 = .ok (.aload_n 0, 1) := by decide +kernel
theorem dX12_opens_20 : decode cX12_opens 20 = .ok (.aload_n 0, 1) := by decide +kernel
theorem dX12_opens_21 : decode cX12_opens 21 = .ok (.getfield 241, 3) := by decide +kernel
theorem dX12_opens_24 : decode cX12_opens 24 = .ok (.iconst 1, 1) := by decide +kernel
theorem dX12_opens_25 : decode cX12_opens 25 = .ok (.iadd, 1) := by decide +kernel
theorem dX12_opens_26 : decode cX12_opens 26 = .ok (.putfield 241, 3) := by decide +kernel
theorem dX12_opens_29 : decode cX12_opens 29 = .ok (.aload_n 0, 1) := by decide +kernel
theorem dX12_opens_30 : decode cX12_opens 30 = .ok (.getfield 47, 3) := by decide +kernel
theorem dX12_opens_33 : decode cX12_opens 33 = .ok (.aload_n 0, 1) := by decide +kernel
theorem dX12_opens_34 : decode cX12_opens 34 = .ok (.getfield 244, 3) := by decide +kernel
theorem dX12_opens_37 : decode cX12_opens 37 = .ok (.ldc 240, 2) := by decide +kernel
theorem dX12_opens_39 : decode cX12_opens 39 = .ok (.iload_n 1, 1) := by decide +kernel
theorem dX12_opens_40 : decode cX12_opens 40 = .ok (.imul, 1) := by decide +kernel
theorem dX12_opens_41 : decode cX12_opens 41 = .ok (.iastore, 1) := by decide +kernel
theorem dX12_opens_42 : decode cX12_opens 42 = .ok (.aload_n 0, 1) := by decide +kernel
theorem dX12_opens_43 : decode cX12_opens 43 = .ok (.aload_n 0, 1) := by decide +kernel
theorem dX12_opens_44 : decode cX12_opens 44 = .ok (.getfield 244, 3) := by decide +kernel
theorem dX12_opens_47 : decode cX12_opens 47 = .ok (.iconst 1, 1) := by decide +kernel
theorem dX12_opens_48 : decode cX12_opens 48 = .ok (.iadd, 1) := by decide +kernel
theorem dX12_opens_49 : decode cX12_opens 49 = .ok (.putfield 244, 3) := by decide +kernel
theorem dX12_opens_52 : decode cX12_opens 52 = .ok (.aload_n 0, 1) := by decide +kernel
theorem dX12_opens_53 : decode cX12_opens 53 = .ok (.aload_n 0, 1) := by decide +kernel
theorem dX12_opens_54 : decode cX12_opens 54 = .ok (.getfield 151, 3) := by decide +kernel
theorem dX12_opens_57 : decode cX12_opens 57 = .ok (.iconst 1, 1) := by decide +kernel
theorem dX12_opens_58 : decode cX12_opens 58 = .ok (.iadd, 1) := by decide +kernel
theorem dX12_opens_59 : decode cX12_opens 59 = .ok (.putfield 151, 3) := by decide +kernel
theorem dX12_opens_62 : decode cX12_opens 62 = .ok (.iconst 1, 1) := by decide +kernel
theorem dX12_opens_63 : decode cX12_opens 63 = .ok (.ireturn, 1) := by decide +kernel
theorem dX12_top_0 : decode cX12_top 0 = .ok (.aload_n 0, 1) := by decide +kernel
theorem dX12_top_1 : decode cX12_top 1 = .ok (.getfield 244, 3) := by decide +kernel
theorem dX12_top_4 : decode cX12_top 4 = .ok (.ifCond .ne 7, 3) := by decide +kernel
theorem dX12_top_7 : decode cX12_top 7 = .ok (.iconst (-1), 1) := by decide +kernel
theorem dX12_top_8 : decode cX12_top 8 = .ok (.goto 17, 3) := by decide +kernel
theorem dX12_top_11 : decode cX12_top 11 = .ok (.aload_n 0, 1) := by decide +kernel
theorem dX12_top_12 : decode cX12_top 12 = .ok (.getfield 47, 3) := by decide +kernel
theorem dX12_top_15 : decode cX12_top 15 = .ok (.aload_n 0, 1) := by decide +kernel
theorem dX12_top_16 : decode cX12_top 16 = .ok (.getfield 244, 3) := by decide +kernel
theorem dX12_top_19 : decode cX12_top 19 = .ok (.iconst 1, 1) := by decide +kernel
theorem dX12_top_20 : decode cX12_top 20 = .ok (.isub, 1) := by decide +kernel
theorem dX12_top_21 : decode cX12_top 21 = .ok (.iaload, 1) := by decide +kernel
theorem dX12_top_22 : decode cX12_top 22 = .ok (.ldc 240, 2) := by decide +kernel
theorem dX12_top_24 : decode cX12_top 24 = .ok (.idiv, 1) := by decide +kernel
theorem dX12_top_25 : decode cX12_top 25 = .ok (.ireturn, 1) := by decide +kernel
theorem dX12_factOf_0 : decode cX12_factOf 0 = .ok (.iload_n 0, 1) := by decide +kernel
theorem dX12_factOf_1 : decode cX12_factOf 1 = .ok (.tableswitch 108 99 116 #[95, 93, 108, 91, 105, 108, 108, 108, 99, 108, 108, 102, 108, 108, 108, 89, 87, 97], 87) := by decide +kernel
theorem dX12_factOf_88 : decode cX12_factOf 88 = .ok (.iconst 0, 1) := by decide +kernel
theorem dX12_factOf_89 : decode cX12_factOf 89 = .ok (.ireturn, 1) := by decide +kernel
theorem dX12_factOf_90 : decode cX12_factOf 90 = .ok (.iconst 1, 1) := by decide +kernel
theorem dX12_factOf_91 : decode cX12_factOf 91 = .ok (.ireturn, 1) := by decide +kernel
theorem dX12_factOf_92 : decode cX12_factOf 92 = .ok (.iconst 2, 1) := by decide +kernel
theorem dX12_factOf_93 : decode cX12_factOf 93 = .ok (.ireturn, 1) := by decide +kernel
theorem dX12_factOf_94 : decode cX12_factOf 94 = .ok (.iconst 3, 1) := by decide +kernel
theorem dX12_factOf_95 : decode cX12_factOf 95 = .ok (.ireturn, 1) := by decide +kernel
theorem dX12_factOf_96 : decode cX12_factOf 96 = .ok (.iconst 4, 1) := by decide +kernel
theorem dX12_factOf_97 : decode cX12_factOf 97 = .ok (.ireturn, 1) := by decide +kernel
theorem dX12_factOf_98 : decode cX12_factOf 98 = .ok (.iconst 5, 1) := by decide +kernel
theorem dX12_factOf_99 : decode cX12_factOf 99 = .ok (.ireturn, 1) := by decide +kernel
theorem dX12_factOf_100 : decode cX12_factOf 100 = .ok (.bipush 6, 2) := by decide +kernel
theorem dX12_factOf_102 : decode cX12_factOf 102 = .ok (.ireturn, 1) := by decide +kernel
theorem dX12_factOf_103 : decode cX12_factOf 103 = .ok (.bipush 7, 2) := by decide +kernel
theorem dX12_factOf_105 : decode cX12_factOf 105 = .ok (.ireturn, 1) := by decide +kernel
theorem dX12_factOf_106 : decode cX12_factOf 106 = .ok (.bipush 8, 2) := by decide +kernel
theorem dX12_factOf_108 : decode cX12_factOf 108 = .ok (.ireturn, 1) := by decide +kernel
theorem dX12_factOf_109 : decode cX12_factOf 109 = .ok (.iconst (-1), 1) := by decide +kernel
theorem dX12_factOf_110 : decode cX12_factOf 110 = .ok (.ireturn, 1) := by decide +kernel
theorem dX12_sumSign_0 : decode cX12_sumSign 0 = .ok (.iload_n 0, 1) := by decide +kernel
theorem dX12_sumSign_1 : decode cX12_sumSign 1 = .ok (.bipush 43, 2) := by decide +kernel
theorem dX12_sumSign_3 : decode cX12_sumSign 3 = .ok (.if_icmp .ne 7, 3) := by decide +kernel
theorem dX12_sumSign_6 : decode cX12_sumSign 6 = .ok (.iconst 2, 1) := by decide +kernel
theorem dX12_sumSign_7 : decode cX12_sumSign 7 = .ok (.goto 45, 3) := by decide +kernel
theorem dX12_sumSign_10 : decode cX12_sumSign 10 = .ok (.iload_n 0, 1) := by decide +kernel
theorem dX12_sumSign_11 : decode cX12_sumSign 11 = .ok (.bipush 45, 2) := by decide +kernel
theorem dX12_sumSign_13 : decode cX12_sumSign 13 = .ok (.if_icmp .ne 7, 3) := by decide +kernel
theorem dX12_sumSign_16 : decode cX12_sumSign 16 = .ok (.iconst 3, 1) := by decide +kernel
theorem dX12_sumSign_17 : decode cX12_sumSign 17 = .ok (.goto 35, 3) := by decide +kernel
theorem dX12_sumSign_20 : decode cX12_sumSign 20 = .ok (.iload_n 0, 1) := by decide +kernel
theorem dX12_sumSign_21 : decode cX12_sumSign 21 = .ok (.bipush 42, 2) := by decide +kernel
theorem dX12_sumSign_23 : decode cX12_sumSign 23 = .ok (.if_icmp .ne 7, 3) := by decide +kernel
theorem dX12_sumSign_26 : decode cX12_sumSign 26 = .ok (.iconst 4, 1) := by decide +kernel
theorem dX12_sumSign_27 : decode cX12_sumSign 27 = .ok (.goto 25, 3) := by decide +kernel
theorem dX12_sumSign_30 : decode cX12_sumSign 30 = .ok (.iload_n 0, 1) := by decide +kernel
theorem dX12_sumSign_31 : decode cX12_sumSign 31 = .ok (.bipush 47, 2) := by decide +kernel
theorem dX12_sumSign_33 : decode cX12_sumSign 33 = .ok (.if_icmp .ne 7, 3) := by decide +kernel
theorem dX12_sumSign_36 : decode cX12_sumSign 36 = .ok (.iconst 5, 1) := by decide +kernel
theorem dX12_sumSign_37 : decode cX12_sumSign 37 = .ok (.goto 15, 3) := by decide +kernel
theorem dX12_sumSign_40 : decode cX12_sumSign 40 = .ok (.iload_n 0, 1) := by decide +kernel
theorem dX12_sumSign_41 : decode cX12_sumSign 41 = .ok (.bipush 37, 2) := by decide +kernel
theorem dX12_sumSign_43 : decode cX12_sumSign 43 = .ok (.if_icmp .ne 8, 3) := by decide +kernel
theorem dX12_sumSign_46 : decode cX12_sumSign 46 = .ok (.bipush 6, 2) := by decide +kernel
theorem dX12_sumSign_48 : decode cX12_sumSign 48 = .ok (.goto 4, 3) := by decide +kernel
theorem dX12_sumSign_51 : decode cX12_sumSign 51 = .ok (.iconst (-1), 1) := by decide +kernel
theorem dX12_sumSign_52 : decode cX12_sumSign 52 = .ok (.ireturn, 1) := by decide +kernel
theorem dX12_closesSums_0 : decode cX12_closesSums 0 = .ok (.aload_n 0, 1) := by decide +kernel
theorem dX12_closesSums_1 : decode cX12_closesSums 1 = .ok (.invokevirtual 247, 3) := by decide +kernel
theorem dX12_closesSums_4 : decode cX12_closesSums 4 = .ok (.iconst 4, 1) := by decide +kernel
theorem dX12_closesSums_5 : decode cX12_closesSums 5 = .ok (.if_icmp .lt 12, 3) := by decide +kernel
theorem dX12_closesSums_8 : decode cX12_closesSums 8 = .ok (.aload_n 0, 1) := by decide +kernel
theorem dX12_closesSums_9 : decode cX12_closesSums 9 = .ok (.invokevirtual 247, 3) := by decide +kernel
theorem dX12_closesSums_12 : decode cX12_closesSums 12 = .ok (.bipush 6, 2) := by decide +kernel
theorem dX12_closesSums_14 : decode cX12_closesSums 14 = .ok (.if_icmp .le 23, 3) := by decide +kernel
theorem dX12_closesSums_17 : decode cX12_closesSums 17 = .ok (.iload_n 1, 1) := by decide +kernel
theorem dX12_closesSums_18 : decode cX12_closesSums 18 = .ok (.ifCond .eq 41, 3) := by decide +kernel
theorem dX12_closesSums_21 : decode cX12_closesSums 21 = .ok (.aload_n 0, 1) := by decide +kernel
theorem dX12_closesSums_22 : decode cX12_closesSums 22 = .ok (.invokevirtual 247, 3) := by decide +kernel
theorem dX12_closesSums_25 : decode cX12_closesSums 25 = .ok (.iconst 2, 1) := by decide +kernel
theorem dX12_closesSums_26 : decode cX12_closesSums 26 = .ok (.if_icmp .eq 11, 3) := by decide +kernel
theorem dX12_closesSums_29 : decode cX12_closesSums 29 = .ok (.aload_n 0, 1) := by decide +kernel
theorem dX12_closesSums_30 : decode cX12_closesSums 30 = .ok (.invokevirtual 247, 3) := by decide +kernel
theorem dX12_closesSums_33 : decode cX12_closesSums 33 = .ok (.iconst 3, 1) := by decide +kernel
theorem dX12_closesSums_34 : decode cX12_closesSums 34 = .ok (.if_icmp .ne 25, 3) := by decide +kernel
theorem dX12_closesSums_37 : decode cX12_closesSums 37 = .ok (.aload_n 0, 1) := by decide +kernel
theorem dX12_closesSums_38 : decode cX12_closesSums 38 = .ok (.aload_n 0, 1) := by decide +kernel
theorem dX12_closesSums_39 : decode cX12_closesSums 39 = .ok (.invokevirtual 247, 3) := by decide +kernel
theorem dX12_closesSums_42 : decode cX12_closesSums 42 = .ok (.iconst 0, 1) := by decide +kernel
theorem dX12_closesSums_43 : decode cX12_closesSums 43 = .ok (.invokevirtual 250, 3) := by decide +kernel
theorem dX12_closesSums_46 : decode cX12_closesSums 46 = .ok (.aload_n 0, 1) := by decide +kernel
theorem dX12_closesSums_47 : decode cX12_closesSums 47 = .ok (.aload_n 0, 1) := by decide +kernel
theorem dX12_closesSums_48 : decode cX12_closesSums 48 = .ok (.getfield 244, 3) := by decide +kernel
theorem dX12_closesSums_51 : decode cX12_closesSums 51 = .ok (.iconst 1, 1) := by decide +kernel
theorem dX12_closesSums_52 : decode cX12_closesSums 52 = .ok (.isub, 1) := by decide +kernel
theorem dX12_closesSums_53 : decode cX12_closesSums 53 = .ok (.putfield 244, 3) := by decide +kernel
theorem dX12_closesSums_56 : decode cX12_closesSums 56 = .ok (.goto (-56), 3) := by decide +kernel
theorem dX12_closesSums_59 : decode cX12_closesSums 59 = .ok (.return_, 1) := by decide +kernel
theorem dX12_readsFactor_0 : decode cX12_readsFactor 0 = .ok (.aload_n 0, 1) := by decide +kernel
theorem dX12_readsFactor_1 : decode cX12_readsFactor 1 = .ok (.invokevirtual 165, 3) := by decide +kernel
theorem dX12_readsFactor_4 : decode cX12_readsFactor 4 = .ok (.bipush 91, 2) := by decide +kernel
theorem dX12_readsFactor_6 : decode cX12_readsFactor 6 = .ok (.if_icmp .ne 14, 3) := by decide +kernel
theorem dX12_readsFactor_9 : decode cX12_readsFactor 9 = .ok (.aload_n 0, 1) := by decide +kernel
theorem dX12_readsFactor_10 : decode cX12_readsFactor 10 = .ok (.bipush 14, 2) := by decide +kernel
theorem dX12_readsFactor_12 : decode cX12_readsFactor 12 = .ok (.invokevirtual 254, 3) := by decide +kernel
theorem dX12_readsFactor_15 : decode cX12_readsFactor 15 = .ok (.ifCond .ne (-15), 3) := by decide +kernel
theorem dX12_readsFactor_18 : decode cX12_readsFactor 18 = .ok (.iconst 0, 1) := by decide +kernel
theorem dX12_readsFactor_19 : decode cX12_readsFactor 19 = .ok (.ireturn, 1) := by decide +kernel
theorem dX12_readsFactor_20 : decode cX12_readsFactor 20 = .ok (.aload_n 0, 1) := by decide +kernel
theorem dX12_readsFactor_21 : decode cX12_readsFactor 21 = .ok (.invokevirtual 157, 3) := by decide +kernel
theorem dX12_readsFactor_24 : decode cX12_readsFactor 24 = .ok (.ifCond .eq 23, 3) := by decide +kernel
theorem dX12_readsFactor_27 : decode cX12_readsFactor 27 = .ok (.aload_n 0, 1) := by decide +kernel
theorem dX12_readsFactor_28 : decode cX12_readsFactor 28 = .ok (.invokevirtual 257, 3) := by decide +kernel
theorem dX12_readsFactor_31 : decode cX12_readsFactor 31 = .ok (.ifCond .ne 5, 3) := by decide +kernel
theorem dX12_readsFactor_34 : decode cX12_readsFactor 34 = .ok (.iconst 0, 1) := by decide +kernel
theorem dX12_readsFactor_35 : decode cX12_readsFactor 35 = .ok (.ireturn, 1) := by decide +kernel
theorem dX12_readsFactor_36 : decode cX12_readsFactor 36 = .ok (.aload_n 0, 1) := by decide +kernel
theorem dX12_readsFactor_37 : decode cX12_readsFactor 37 = .ok (.iconst 0, 1) := by decide +kernel
theorem dX12_readsFactor_38 : decode cX12_readsFactor 38 = .ok (.aload_n 0, 1) := by decide +kernel
theorem dX12_readsFactor_39 : decode cX12_readsFactor 39 = .ok (.getfield 154, 3) := by decide +kernel
theorem dX12_readsFactor_42 : decode cX12_readsFactor 42 = .ok (.invokevirtual 250, 3) := by decide +kernel
theorem dX12_readsFactor_45 : decode cX12_readsFactor 45 = .ok (.iconst 1, 1) := by decide +kernel
theorem dX12_readsFactor_46 : decode cX12_readsFactor 46 = .ok (.ireturn, 1) := by decide +kernel
theorem dX12_readsFactor_47 : decode cX12_readsFactor 47 = .ok (.aload_n 0, 1) := by decide +kernel
theorem dX12_readsFactor_48 : decode cX12_readsFactor 48 = .ok (.invokevirtual 165, 3) := by decide +kernel
theorem dX12_readsFactor_51 : decode cX12_readsFactor 51 = .ok (.invokestatic 260, 3) := by decide +kernel
theorem dX12_readsFactor_54 : decode cX12_readsFactor 54 = .ok (.istore_n 1, 1) := by decide +kernel
theorem dX12_readsFactor_55 : decode cX12_readsFactor 55 = .ok (.iload_n 1, 1) := by decide +kernel
theorem dX12_readsFactor_56 : decode cX12_readsFactor 56 = .ok (.iconst (-1), 1) := by decide +kernel
theorem dX12_readsFactor_57 : decode cX12_readsFactor 57 = .ok (.if_icmp .ne 13, 3) := by decide +kernel
theorem dX12_readsFactor_60 : decode cX12_readsFactor 60 = .ok (.aload_n 0, 1) := by decide +kernel
theorem dX12_readsFactor_61 : decode cX12_readsFactor 61 = .ok (.iconst 1, 1) := by decide +kernel
theorem dX12_readsFactor_62 : decode cX12_readsFactor 62 = .ok (.aload_n 0, 1) := by decide +kernel
theorem dX12_readsFactor_63 : decode cX12_readsFactor 63 = .ok (.getfield 151, 3) := by decide +kernel
theorem dX12_readsFactor_66 : decode cX12_readsFactor 66 = .ok (.invokevirtual 161, 3) := by decide +kernel
theorem dX12_readsFactor_69 : decode cX12_readsFactor 69 = .ok (.ireturn, 1) := by decide +kernel
theorem dX12_readsFactor_70 : decode cX12_readsFactor 70 = .ok (.aload_n 0, 1) := by decide +kernel
theorem dX12_readsFactor_71 : decode cX12_readsFactor 71 = .ok (.iconst 1, 1) := by decide +kernel
theorem dX12_readsFactor_72 : decode cX12_readsFactor 72 = .ok (.iload_n 1, 1) := by decide +kernel
theorem dX12_readsFactor_73 : decode cX12_readsFactor 73 = .ok (.invokevirtual 250, 3) := by decide +kernel
theorem dX12_readsFactor_76 : decode cX12_readsFactor 76 = .ok (.aload_n 0, 1) := by decide +kernel
theorem dX12_readsFactor_77 : decode cX12_readsFactor 77 = .ok (.aload_n 0, 1) := by decide +kernel
theorem dX12_readsFactor_78 : decode cX12_readsFactor 78 = .ok (.getfield 151, 3) := by decide +kernel
theorem dX12_readsFactor_81 : decode cX12_readsFactor 81 = .ok (.iconst 1, 1) := by decide +kernel
theorem dX12_readsFactor_82 : decode cX12_readsFactor 82 = .ok (.iadd, 1) := by decide +kernel
theorem dX12_readsFactor_83 : decode cX12_readsFactor 83 = .ok (.putfield 151, 3) := by decide +kernel
theorem dX12_readsFactor_86 : decode cX12_readsFactor 86 = .ok (.iconst 1, 1) := by decide +kernel
theorem dX12_readsFactor_87 : decode cX12_readsFactor 87 = .ok (.ireturn, 1) := by decide +kernel
theorem dX12_hasOpenSum_0 : decode cX12_hasOpenSum 0 = .ok (.iload_n 1, 1) := by decide +kernel
theorem dX12_hasOpenSum_1 : decode cX12_hasOpenSum 1 = .ok (.istore_n 2, 1) := by decide +kernel
theorem dX12_hasOpenSum_2 : decode cX12_hasOpenSum 2 = .ok (.iload_n 2, 1) := by decide +kernel
theorem dX12_hasOpenSum_3 : decode cX12_hasOpenSum 3 = .ok (.aload_n 0, 1) := by decide +kernel
theorem dX12_hasOpenSum_4 : decode cX12_hasOpenSum 4 = .ok (.getfield 244, 3) := by decide +kernel
theorem dX12_hasOpenSum_7 : decode cX12_hasOpenSum 7 = .ok (.if_icmp .ge 25, 3) := by decide +kernel
theorem dX12_hasOpenSum_10 : decode cX12_hasOpenSum 10 = .ok (.aload_n 0, 1) := by decide +kernel
theorem dX12_hasOpenSum_11 : decode cX12_hasOpenSum 11 = .ok (.getfield 47, 3) := by decide +kernel
theorem dX12_hasOpenSum_14 : decode cX12_hasOpenSum 14 = .ok (.iload_n 2, 1) := by decide +kernel
theorem dX12_hasOpenSum_15 : decode cX12_hasOpenSum 15 = .ok (.iaload, 1) := by decide +kernel
theorem dX12_hasOpenSum_16 : decode cX12_hasOpenSum 16 = .ok (.ldc 240, 2) := by decide +kernel
theorem dX12_hasOpenSum_18 : decode cX12_hasOpenSum 18 = .ok (.idiv, 1) := by decide +kernel
theorem dX12_hasOpenSum_19 : decode cX12_hasOpenSum 19 = .ok (.bipush 14, 2) := by decide +kernel
theorem dX12_hasOpenSum_21 : decode cX12_hasOpenSum 21 = .ok (.if_icmp .ne 5, 3) := by decide +kernel
theorem dX12_hasOpenSum_24 : decode cX12_hasOpenSum 24 = .ok (.iconst 1, 1) := by decide +kernel
theorem dX12_hasOpenSum_25 : decode cX12_hasOpenSum 25 = .ok (.ireturn, 1) := by decide +kernel
theorem dX12_hasOpenSum_26 : decode cX12_hasOpenSum 26 = .ok (.iinc 2 1, 3) := by decide +kernel
theorem dX12_hasOpenSum_29 : decode cX12_hasOpenSum 29 = .ok (.goto (-27), 3) := by decide +kernel
theorem dX12_hasOpenSum_32 : decode cX12_hasOpenSum 32 = .ok (.iconst 0, 1) := by decide +kernel
theorem dX12_hasOpenSum_33 : decode cX12_hasOpenSum 33 = .ok (.ireturn, 1) := by decide +kernel
theorem dX12_readsSum_0 : decode cX12_readsSum 0 = .ok (.aload_n 0, 1) := by decide +kernel
theorem dX12_readsSum_1 : decode cX12_readsSum 1 = .ok (.getfield 244, 3) := by decide +kernel
theorem dX12_readsSum_4 : decode cX12_readsSum 4 = .ok (.istore_n 1, 1) := by decide +kernel
theorem dX12_readsSum_5 : decode cX12_readsSum 5 = .ok (.aload_n 0, 1) := by decide +kernel
theorem dX12_readsSum_6 : decode cX12_readsSum 6 = .ok (.invokevirtual 263, 3) := by decide +kernel
theorem dX12_readsSum_9 : decode cX12_readsSum 9 = .ok (.ifCond .ne 5, 3) := by decide +kernel
theorem dX12_readsSum_12 : decode cX12_readsSum 12 = .ok (.iconst 0, 1) := by decide +kernel
theorem dX12_readsSum_13 : decode cX12_readsSum 13 = .ok (.ireturn, 1) := by decide +kernel
theorem dX12_readsSum_14 : decode cX12_readsSum 14 = .ok (.aload_n 0, 1) := by decide +kernel
theorem dX12_readsSum_15 : decode cX12_readsSum 15 = .ok (.invokevirtual 165, 3) := by decide +kernel
theorem dX12_readsSum_18 : decode cX12_readsSum 18 = .ok (.invokestatic 266, 3) := by decide +kernel
theorem dX12_readsSum_21 : decode cX12_readsSum 21 = .ok (.istore_n 2, 1) := by decide +kernel
theorem dX12_readsSum_22 : decode cX12_readsSum 22 = .ok (.iload_n 2, 1) := by decide +kernel
theorem dX12_readsSum_23 : decode cX12_readsSum 23 = .ok (.iconst (-1), 1) := by decide +kernel
theorem dX12_readsSum_24 : decode cX12_readsSum 24 = .ok (.if_icmp .eq 59, 3) := by decide +kernel
theorem dX12_readsSum_27 : decode cX12_readsSum 27 = .ok (.aload_n 0, 1) := by decide +kernel
theorem dX12_readsSum_28 : decode cX12_readsSum 28 = .ok (.iload_n 2, 1) := by decide +kernel
theorem dX12_readsSum_29 : decode cX12_readsSum 29 = .ok (.iconst 4, 1) := by decide +kernel
theorem dX12_readsSum_30 : decode cX12_readsSum 30 = .ok (.if_icmp .ge 7, 3) := by decide +kernel
theorem dX12_readsSum_33 : decode cX12_readsSum 33 = .ok (.iconst 1, 1) := by decide +kernel
theorem dX12_readsSum_34 : decode cX12_readsSum 34 = .ok (.goto 4, 3) := by decide +kernel
theorem dX12_readsSum_37 : decode cX12_readsSum 37 = .ok (.iconst 0, 1) := by decide +kernel
theorem dX12_readsSum_38 : decode cX12_readsSum 38 = .ok (.invokevirtual 269, 3) := by decide +kernel
theorem dX12_readsSum_41 : decode cX12_readsSum 41 = .ok (.aload_n 0, 1) := by decide +kernel
theorem dX12_readsSum_42 : decode cX12_readsSum 42 = .ok (.getfield 47, 3) := by decide +kernel
theorem dX12_readsSum_45 : decode cX12_readsSum 45 = .ok (.aload_n 0, 1) := by decide +kernel
theorem dX12_readsSum_46 : decode cX12_readsSum 46 = .ok (.getfield 244, 3) := by decide +kernel
theorem dX12_readsSum_49 : decode cX12_readsSum 49 = .ok (.ldc 240, 2) := by decide +kernel
theorem dX12_readsSum_51 : decode cX12_readsSum 51 = .ok (.iload_n 2, 1) := by decide +kernel
theorem dX12_readsSum_52 : decode cX12_readsSum 52 = .ok (.imul, 1) := by decide +kernel
theorem dX12_readsSum_53 : decode cX12_readsSum 53 = .ok (.iastore, 1) := by decide +kernel
theorem dX12_readsSum_54 : decode cX12_readsSum 54 = .ok (.aload_n 0, 1) := by decide +kernel
theorem dX12_readsSum_55 : decode cX12_readsSum 55 = .ok (.aload_n 0, 1) := by decide +kernel
theorem dX12_readsSum_56 : decode cX12_readsSum 56 = .ok (.getfield 244, 3) := by decide +kernel
theorem dX12_readsSum_59 : decode cX12_readsSum 59 = .ok (.iconst 1, 1) := by decide +kernel
theorem dX12_readsSum_60 : decode cX12_readsSum 60 = .ok (.iadd, 1) := by decide +kernel
theorem dX12_readsSum_61 : decode cX12_readsSum 61 = .ok (.putfield 244, 3) := by decide +kernel
theorem dX12_readsSum_64 : decode cX12_readsSum 64 = .ok (.aload_n 0, 1) := by decide +kernel
theorem dX12_readsSum_65 : decode cX12_readsSum 65 = .ok (.aload_n 0, 1) := by decide +kernel
theorem dX12_readsSum_66 : decode cX12_readsSum 66 = .ok (.getfield 151, 3) := by decide +kernel
theorem dX12_readsSum_69 : decode cX12_readsSum 69 = .ok (.iconst 1, 1) := by decide +kernel
theorem dX12_readsSum_70 : decode cX12_readsSum 70 = .ok (.iadd, 1) := by decide +kernel
theorem dX12_readsSum_71 : decode cX12_readsSum 71 = .ok (.putfield 151, 3) := by decide +kernel
theorem dX12_readsSum_74 : decode cX12_readsSum 74 = .ok (.aload_n 0, 1) := by decide +kernel
theorem dX12_readsSum_75 : decode cX12_readsSum 75 = .ok (.invokevirtual 263, 3) := by decide +kernel
theorem dX12_readsSum_78 : decode cX12_readsSum 78 = .ok (.ifCond .ne 85, 3) := by decide +kernel
theorem dX12_readsSum_81 : decode cX12_readsSum 81 = .ok (.iconst 0, 1) := by decide +kernel
theorem dX12_readsSum_82 : decode cX12_readsSum 82 = .ok (.ireturn, 1) := by decide +kernel
theorem dX12_readsSum_83 : decode cX12_readsSum 83 = .ok (.aload_n 0, 1) := by decide +kernel
theorem dX12_readsSum_84 : decode cX12_readsSum 84 = .ok (.invokevirtual 165, 3) := by decide +kernel
theorem dX12_readsSum_87 : decode cX12_readsSum 87 = .ok (.bipush 93, 2) := by decide +kernel
theorem dX12_readsSum_89 : decode cX12_readsSum 89 = .ok (.if_icmp .ne 49, 3) := by decide +kernel
theorem dX12_readsSum_92 : decode cX12_readsSum 92 = .ok (.aload_n 0, 1) := by decide +kernel
theorem dX12_readsSum_93 : decode cX12_readsSum 93 = .ok (.iload_n 1, 1) := by decide +kernel
theorem dX12_readsSum_94 : decode cX12_readsSum 94 = .ok (.invokevirtual 273, 3) := by decide +kernel
theorem dX12_readsSum_97 : decode cX12_readsSum 97 = .ok (.ifCond .eq 41, 3) := by decide +kernel
theorem dX12_readsSum_100 : decode cX12_readsSum 100 = .ok (.aload_n 0, 1) := by decide +kernel
theorem dX12_readsSum_101 : decode cX12_readsSum 101 = .ok (.iconst 1, 1) := by decide +kernel
theorem dX12_readsSum_102 : decode cX12_readsSum 102 = .ok (.invokevirtual 269, 3) := by decide +kernel
theorem dX12_readsSum_105 : decode cX12_readsSum 105 = .ok (.aload_n 0, 1) := by decide +kernel
theorem dX12_readsSum_106 : decode cX12_readsSum 106 = .ok (.aload_n 0, 1) := by decide +kernel
theorem dX12_readsSum_107 : decode cX12_readsSum 107 = .ok (.getfield 244, 3) := by decide +kernel
theorem dX12_readsSum_110 : decode cX12_readsSum 110 = .ok (.iconst 1, 1) := by decide +kernel
theorem dX12_readsSum_111 : decode cX12_readsSum 111 = .ok (.isub, 1) := by decide +kernel
theorem dX12_readsSum_112 : decode cX12_readsSum 112 = .ok (.putfield 244, 3) := by decide +kernel
theorem dX12_readsSum_115 : decode cX12_readsSum 115 = .ok (.aload_n 0, 1) := by decide +kernel
theorem dX12_readsSum_116 : decode cX12_readsSum 116 = .ok (.aload_n 0, 1) := by decide +kernel
theorem dX12_readsSum_117 : decode cX12_readsSum 117 = .ok (.getfield 241, 3) := by decide +kernel
theorem dX12_readsSum_120 : decode cX12_readsSum 120 = .ok (.iconst 1, 1) := by decide +kernel
theorem dX12_readsSum_121 : decode cX12_readsSum 121 = .ok (.isub, 1) := by decide +kernel
theorem dX12_readsSum_122 : decode cX12_readsSum 122 = .ok (.putfield 241, 3) := by decide +kernel
theorem dX12_readsSum_125 : decode cX12_readsSum 125 = .ok (.aload_n 0, 1) := by decide +kernel
theorem dX12_readsSum_126 : decode cX12_readsSum 126 = .ok (.aload_n 0, 1) := by decide +kernel
theorem dX12_readsSum_127 : decode cX12_readsSum 127 = .ok (.getfield 151, 3) := by decide +kernel
theorem dX12_readsSum_130 : decode cX12_readsSum 130 = .ok (.iconst 1, 1) := by decide +kernel
theorem dX12_readsSum_131 : decode cX12_readsSum 131 = .ok (.iadd, 1) := by decide +kernel
theorem dX12_readsSum_132 : decode cX12_readsSum 132 = .ok (.putfield 151, 3) := by decide +kernel
theorem dX12_readsSum_135 : decode cX12_readsSum 135 = .ok (.goto 28, 3) := by decide +kernel
theorem dX12_readsSum_138 : decode cX12_readsSum 138 = .ok (.aload_n 0, 1) := by decide +kernel
theorem dX12_readsSum_139 : decode cX12_readsSum 139 = .ok (.iload_n 1, 1) := by decide +kernel
theorem dX12_readsSum_140 : decode cX12_readsSum 140 = .ok (.invokevirtual 273, 3) := by decide +kernel
theorem dX12_readsSum_143 : decode cX12_readsSum 143 = .ok (.ifCond .eq 13, 3) := by decide +kernel
theorem dX12_readsSum_146 : decode cX12_readsSum 146 = .ok (.aload_n 0, 1) := by decide +kernel
theorem dX12_readsSum_147 : decode cX12_readsSum 147 = .ok (.iconst 1, 1) := by decide +kernel
theorem dX12_readsSum_148 : decode cX12_readsSum 148 = .ok (.aload_n 0, 1) := by decide +kernel
theorem dX12_readsSum_149 : decode cX12_readsSum 149 = .ok (.getfield 151, 3) := by decide +kernel
theorem dX12_readsSum_152 : decode cX12_readsSum 152 = .ok (.invokevirtual 161, 3) := by decide +kernel
theorem dX12_readsSum_155 : decode cX12_readsSum 155 = .ok (.ireturn, 1) := by decide +kernel
theorem dX12_readsSum_156 : decode cX12_readsSum 156 = .ok (.aload_n 0, 1) := by decide +kernel
theorem dX12_readsSum_157 : decode cX12_readsSum 157 = .ok (.iconst 1, 1) := by decide +kernel
theorem dX12_readsSum_158 : decode cX12_readsSum 158 = .ok (.invokevirtual 269, 3) := by decide +kernel
theorem dX12_readsSum_161 : decode cX12_readsSum 161 = .ok (.iconst 1, 1) := by decide +kernel
theorem dX12_readsSum_162 : decode cX12_readsSum 162 = .ok (.ireturn, 1) := by decide +kernel
theorem dX12_readsSum_163 : decode cX12_readsSum 163 = .ok (.goto (-149), 3) := by decide +kernel
theorem dX12_endsPiece_0 : decode cX12_endsPiece 0 = .ok (.aload_n 0, 1) := by decide +kernel
theorem dX12_endsPiece_1 : decode cX12_endsPiece 1 = .ok (.invokevirtual 247, 3) := by decide +kernel
theorem dX12_endsPiece_4 : decode cX12_endsPiece 4 = .ok (.bipush 10, 2) := by decide +kernel
theorem dX12_endsPiece_6 : decode cX12_endsPiece 6 = .ok (.if_icmp .ne 33, 3) := by decide +kernel
theorem dX12_endsPiece_9 : decode cX12_endsPiece 9 = .ok (.aload_n 0, 1) := by decide +kernel
theorem dX12_endsPiece_10 : decode cX12_endsPiece 10 = .ok (.bipush 10, 2) := by decide +kernel
theorem dX12_endsPiece_12 : decode cX12_endsPiece 12 = .ok (.iconst 0, 1) := by decide +kernel
theorem dX12_endsPiece_13 : decode cX12_endsPiece 13 = .ok (.invokevirtual 250, 3) := by decide +kernel
theorem dX12_endsPiece_16 : decode cX12_endsPiece 16 = .ok (.aload_n 0, 1) := by decide +kernel
theorem dX12_endsPiece_17 : decode cX12_endsPiece 17 = .ok (.aload_n 0, 1) := by decide +kernel
theorem dX12_endsPiece_18 : decode cX12_endsPiece 18 = .ok (.getfield 244, 3) := by decide +kernel
theorem dX12_endsPiece_21 : decode cX12_endsPiece 21 = .ok (.iconst 1, 1) := by decide +kernel
theorem dX12_endsPiece_22 : decode cX12_endsPiece 22 = .ok (.isub, 1) := by decide +kernel
theorem dX12_endsPiece_23 : decode cX12_endsPiece 23 = .ok (.putfield 244, 3) := by decide +kernel
theorem dX12_endsPiece_26 : decode cX12_endsPiece 26 = .ok (.aload_n 0, 1) := by decide +kernel
theorem dX12_endsPiece_27 : decode cX12_endsPiece 27 = .ok (.aload_n 0, 1) := by decide +kernel
theorem dX12_endsPiece_28 : decode cX12_endsPiece 28 = .ok (.getfield 241, 3) := by decide +kernel
theorem dX12_endsPiece_31 : decode cX12_endsPiece 31 = .ok (.iconst 1, 1) := by decide +kernel
theorem dX12_endsPiece_32 : decode cX12_endsPiece 32 = .ok (.isub, 1) := by decide +kernel
theorem dX12_endsPiece_33 : decode cX12_endsPiece 33 = .ok (.putfield 241, 3) := by decide +kernel
theorem dX12_endsPiece_36 : decode cX12_endsPiece 36 = .ok (.goto (-36), 3) := by decide +kernel
theorem dX12_endsPiece_39 : decode cX12_endsPiece 39 = .ok (.return_, 1) := by decide +kernel
theorem dX12_lands_0 : decode cX12_lands 0 = .ok (.aload_n 0, 1) := by decide +kernel
theorem dX12_lands_1 : decode cX12_lands 1 = .ok (.invokevirtual 247, 3) := by decide +kernel
theorem dX12_lands_4 : decode cX12_lands 4 = .ok (.bipush 11, 2) := by decide +kernel
theorem dX12_lands_6 : decode cX12_lands 6 = .ok (.if_icmp .eq 16, 3) := by decide +kernel
theorem dX12_lands_9 : decode cX12_lands 9 = .ok (.iload_n 1, 1) := by decide +kernel
theorem dX12_lands_10 : decode cX12_lands 10 = .ok (.ifCond .eq 63, 3) := by decide +kernel
theorem dX12_lands_13 : decode cX12_lands 13 = .ok (.aload_n 0, 1) := by decide +kernel
theorem dX12_lands_14 : decode cX12_lands 14 = .ok (.invokevirtual 247, 3) := by decide +kernel
theorem dX12_lands_17 : decode cX12_lands 17 = .ok (.bipush 12, 2) := by decide +kernel
theorem dX12_lands_19 : decode cX12_lands 19 = .ok (.if_icmp .ne 54, 3) := by decide +kernel
theorem dX12_lands_22 : decode cX12_lands 22 = .ok (.aload_n 0, 1) := by decide +kernel
theorem dX12_lands_23 : decode cX12_lands 23 = .ok (.getfield 47, 3) := by decide +kernel
theorem dX12_lands_26 : decode cX12_lands 26 = .ok (.aload_n 0, 1) := by decide +kernel
theorem dX12_lands_27 : decode cX12_lands 27 = .ok (.getfield 244, 3) := by decide +kernel
theorem dX12_lands_30 : decode cX12_lands 30 = .ok (.iconst 1, 1) := by decide +kernel
theorem dX12_lands_31 : decode cX12_lands 31 = .ok (.isub, 1) := by decide +kernel
theorem dX12_lands_32 : decode cX12_lands 32 = .ok (.iaload, 1) := by decide +kernel
theorem dX12_lands_33 : decode cX12_lands 33 = .ok (.ldc 240, 2) := by decide +kernel
theorem dX12_lands_35 : decode cX12_lands 35 = .ok (.irem, 1) := by decide +kernel
theorem dX12_lands_36 : decode cX12_lands 36 = .ok (.istore_n 2, 1) := by decide +kernel
theorem dX12_lands_37 : decode cX12_lands 37 = .ok (.aload_n 0, 1) := by decide +kernel
theorem dX12_lands_38 : decode cX12_lands 38 = .ok (.getfield 44, 3) := by decide +kernel
theorem dX12_lands_41 : decode cX12_lands 41 = .ok (.iload_n 2, 1) := by decide +kernel
theorem dX12_lands_42 : decode cX12_lands 42 = .ok (.ldc 240, 2) := by decide +kernel
theorem dX12_lands_44 : decode cX12_lands 44 = .ok (.aload_n 0, 1) := by decide +kernel
theorem dX12_lands_45 : decode cX12_lands 45 = .ok (.getfield 44, 3) := by decide +kernel
theorem dX12_lands_48 : decode cX12_lands 48 = .ok (.iload_n 2, 1) := by decide +kernel
theorem dX12_lands_49 : decode cX12_lands 49 = .ok (.iaload, 1) := by decide +kernel
theorem dX12_lands_50 : decode cX12_lands 50 = .ok (.ldc 240, 2) := by decide +kernel
theorem dX12_lands_52 : decode cX12_lands 52 = .ok (.idiv, 1) := by decide +kernel
theorem dX12_lands_53 : decode cX12_lands 53 = .ok (.imul, 1) := by decide +kernel
theorem dX12_lands_54 : decode cX12_lands 54 = .ok (.aload_n 0, 1) := by decide +kernel
theorem dX12_lands_55 : decode cX12_lands 55 = .ok (.getfield 237, 3) := by decide +kernel
theorem dX12_lands_58 : decode cX12_lands 58 = .ok (.iadd, 1) := by decide +kernel
theorem dX12_lands_59 : decode cX12_lands 59 = .ok (.iastore, 1) := by decide +kernel
