theorem dX12_larger_13 : decode cX12_larger 13 = .ok (.iconst 0, 1) := by decide +kernel
theorem dX12_larger_14 : decode cX12_larger 14 = .ok (.istore_n 3, 1) := by decide +kernel
theorem dX12_larger_15 : decode cX12_larger 15 = .ok (.iconst 1, 1) := by decide +kernel
theorem dX12_larger_16 : decode cX12_larger 16 = .ok (.istore 4, 2) := by decide +kernel
theorem dX12_larger_18 : decode cX12_larger 18 = .ok (.iload 4, 2) := by decide +kernel
theorem dX12_larger_20 : decode cX12_larger 20 = .ok (.sipush 1024, 3) := by decide +kernel
theorem dX12_larger_23 : decode cX12_larger 23 = .ok (.if_icmp .ge 63, 3) := by decide +kernel
theorem dX12_larger_26 : decode cX12_larger 26 = .ok (.iload 4, 2) := by decide +kernel
theorem dX12_larger_28 : decode cX12_larger 28 = .ok (.aload_n 0, 1) := by decide +kernel
theorem dX12_larger_29 : decode cX12_larger 29 = .ok (.getfield 217, 3) := by decide +kernel
theorem dX12_larger_32 : decode cX12_larger 32 = .ok (.iconst (-1), 1) := by decide +kernel
theorem dX12_larger_33 : decode cX12_larger 33 = .ok (.ixor, 1) := by decide +kernel
theorem dX12_larger_34 : decode cX12_larger 34 = .ok (.iand, 1) := by decide +kernel
theorem dX12_larger_35 : decode cX12_larger 35 = .ok (.ifCond .eq 6, 3) := by decide +kernel
theorem dX12_larger_38 : decode cX12_larger 38 = .ok (.goto 42, 3) := by decide +kernel
theorem dX12_larger_41 : decode cX12_larger 41 = .ok (.aload_n 0, 1) := by decide +kernel
theorem dX12_larger_42 : decode cX12_larger 42 = .ok (.iload 4, 2) := by decide +kernel
theorem dX12_larger_44 : decode cX12_larger 44 = .ok (.invokevirtual 414, 3) := by decide +kernel
theorem dX12_larger_47 : decode cX12_larger 47 = .ok (.istore 5, 2) := by decide +kernel
theorem dX12_larger_49 : decode cX12_larger 49 = .ok (.iload 4, 2) := by decide +kernel
theorem dX12_larger_51 : decode cX12_larger 51 = .ok (.iload 5, 2) := by decide +kernel
theorem dX12_larger_53 : decode cX12_larger 53 = .ok (.iload_n 2, 1) := by decide +kernel
theorem dX12_larger_54 : decode cX12_larger 54 = .ok (.iload_n 3, 1) := by decide +kernel
theorem dX12_larger_55 : decode cX12_larger 55 = .ok (.invokestatic 373, 3) := by decide +kernel
theorem dX12_larger_58 : decode cX12_larger 58 = .ok (.ifCond .eq 22, 3) := by decide +kernel
theorem dX12_larger_61 : decode cX12_larger 61 = .ok (.aload_n 0, 1) := by decide +kernel
theorem dX12_larger_62 : decode cX12_larger 62 = .ok (.iload 4, 2) := by decide +kernel
theorem dX12_larger_64 : decode cX12_larger 64 = .ok (.iconst 0, 1) := by decide +kernel
theorem dX12_larger_65 : decode cX12_larger 65 = .ok (.invokevirtual 363, 3) := by decide +kernel
theorem dX12_larger_68 : decode cX12_larger 68 = .ok (.ifCond .ne 6, 3) := by decide +kernel
theorem dX12_larger_71 : decode cX12_larger 71 = .ok (.goto 9, 3) := by decide +kernel
theorem dX12_larger_74 : decode cX12_larger 74 = .ok (.iload 4, 2) := by decide +kernel
theorem dX12_larger_76 : decode cX12_larger 76 = .ok (.istore_n 2, 1) := by decide +kernel
theorem dX12_larger_77 : decode cX12_larger 77 = .ok (.iload 5, 2) := by decide +kernel
theorem dX12_larger_79 : decode cX12_larger 79 = .ok (.istore_n 3, 1) := by decide +kernel
theorem dX12_larger_80 : decode cX12_larger 80 = .ok (.iinc 4 1, 3) := by decide +kernel
theorem dX12_larger_83 : decode cX12_larger 83 = .ok (.goto (-65), 3) := by decide +kernel
theorem dX12_larger_86 : decode cX12_larger 86 = .ok (.iload_n 1, 1) := by decide +kernel
theorem dX12_larger_87 : decode cX12_larger 87 = .ok (.ifCond .ne 7, 3) := by decide +kernel
theorem dX12_larger_90 : decode cX12_larger 90 = .ok (.iload_n 3, 1) := by decide +kernel
theorem dX12_larger_91 : decode cX12_larger 91 = .ok (.goto 20, 3) := by decide +kernel
theorem dX12_larger_94 : decode cX12_larger 94 = .ok (.iload_n 1, 1) := by decide +kernel
theorem dX12_larger_95 : decode cX12_larger 95 = .ok (.iconst 1, 1) := by decide +kernel
theorem dX12_larger_96 : decode cX12_larger 96 = .ok (.if_icmp .ne 7, 3) := by decide +kernel
theorem dX12_larger_99 : decode cX12_larger 99 = .ok (.iload_n 2, 1) := by decide +kernel
theorem dX12_larger_100 : decode cX12_larger 100 = .ok (.goto 11, 3) := by decide +kernel
theorem dX12_larger_103 : decode cX12_larger 103 = .ok (.aload_n 0, 1) := by decide +kernel
theorem dX12_larger_104 : decode cX12_larger 104 = .ok (.iload_n 2, 1) := by decide +kernel
theorem dX12_larger_105 : decode cX12_larger 105 = .ok (.iload_n 1, 1) := by decide +kernel
theorem dX12_larger_106 : decode cX12_larger 106 = .ok (.iconst 2, 1) := by decide +kernel
theorem dX12_larger_107 : decode cX12_larger 107 = .ok (.isub, 1) := by decide +kernel
theorem dX12_larger_108 : decode cX12_larger 108 = .ok (.invokevirtual 411, 3) := by decide +kernel
theorem dX12_larger_111 : decode cX12_larger 111 = .ok (.ireturn, 1) := by decide +kernel
theorem dX12_plantCost_0 : decode cX12_plantCost 0 = .ok (.iconst 0, 1) := by decide +kernel
theorem dX12_plantCost_1 : decode cX12_plantCost 1 = .ok (.istore_n 2, 1) := by decide +kernel
theorem dX12_plantCost_2 : decode cX12_plantCost 2 = .ok (.iconst 0, 1) := by decide +kernel
theorem dX12_plantCost_3 : decode cX12_plantCost 3 = .ok (.istore_n 3, 1) := by decide +kernel
theorem dX12_plantCost_4 : decode cX12_plantCost 4 = .ok (.iload_n 3, 1) := by decide +kernel
theorem dX12_plantCost_5 : decode cX12_plantCost 5 = .ok (.iconst 3, 1) := by decide +kernel
theorem dX12_plantCost_6 : decode cX12_plantCost 6 = .ok (.if_icmp .ge 25, 3) := by decide +kernel
theorem dX12_plantCost_9 : decode cX12_plantCost 9 = .ok (.iload_n 2, 1) := by decide +kernel
theorem dX12_plantCost_10 : decode cX12_plantCost 10 = .ok (.aload_n 0, 1) := by decide +kernel
theorem dX12_plantCost_11 : decode cX12_plantCost 11 = .ok (.iload_n 1, 1) := by decide +kernel
theorem dX12_plantCost_12 : decode cX12_plantCost 12 = .ok (.iload_n 3, 1) := by decide +kernel
theorem dX12_plantCost_13 : decode cX12_plantCost 13 = .ok (.invokevirtual 408, 3) := by decide +kernel
theorem dX12_plantCost_16 : decode cX12_plantCost 16 = .ok (.aload_n 0, 1) := by decide +kernel
theorem dX12_plantCost_17 : decode cX12_plantCost 17 = .ok (.getfield 26, 3) := by decide +kernel
theorem dX12_plantCost_20 : decode cX12_plantCost 20 = .ok (.iload_n 3, 1) := by decide +kernel
theorem dX12_plantCost_21 : decode cX12_plantCost 21 = .ok (.iaload, 1) := by decide +kernel
theorem dX12_plantCost_22 : decode cX12_plantCost 22 = .ok (.imul, 1) := by decide +kernel
theorem dX12_plantCost_23 : decode cX12_plantCost 23 = .ok (.iadd, 1) := by decide +kernel
theorem dX12_plantCost_24 : decode cX12_plantCost 24 = .ok (.istore_n 2, 1) := by decide +kernel
theorem dX12_plantCost_25 : decode cX12_plantCost 25 = .ok (.iinc 3 1, 3) := by decide +kernel
theorem dX12_plantCost_28 : decode cX12_plantCost 28 = .ok (.goto (-24), 3) := by decide +kernel
theorem dX12_plantCost_31 : decode cX12_plantCost 31 = .ok (.iload_n 2, 1) := by decide +kernel
theorem dX12_plantCost_32 : decode cX12_plantCost 32 = .ok (.ireturn, 1) := by decide +kernel
theorem dX12_gcd_0 : decode cX12_gcd 0 = .ok (.lload_n 0, 1) := by decide +kernel
theorem dX12_gcd_1 : decode cX12_gcd 1 = .ok (.lstore 4, 2) := by decide +kernel
theorem dX12_gcd_3 : decode cX12_gcd 3 = .ok (.lload_n 2, 1) := by decide +kernel
theorem dX12_gcd_4 : decode cX12_gcd 4 = .ok (.lstore 6, 2) := by decide +kernel
theorem dX12_gcd_6 : decode cX12_gcd 6 = .ok (.lload 6, 2) := by decide +kernel
theorem dX12_gcd_8 : decode cX12_gcd 8 = .ok (.lconst 0, 1) := by decide +kernel
theorem dX12_gcd_9 : decode cX12_gcd 9 = .ok (.lcmp, 1) := by decide +kernel
theorem dX12_gcd_10 : decode cX12_gcd 10 = .ok (.ifCond .eq 21, 3) := by decide +kernel
theorem dX12_gcd_13 : decode cX12_gcd 13 = .ok (.lload 4, 2) := by decide +kernel
theorem dX12_gcd_15 : decode cX12_gcd 15 = .ok (.lload 6, 2) := by decide +kernel
theorem dX12_gcd_17 : decode cX12_gcd 17 = .ok (.lrem, 1) := by decide +kernel
theorem dX12_gcd_18 : decode cX12_gcd 18 = .ok (.lstore 8, 2) := by decide +kernel
theorem dX12_gcd_20 : decode cX12_gcd 20 = .ok (.lload 6, 2) := by decide +kernel
theorem dX12_gcd_22 : decode cX12_gcd 22 = .ok (.lstore 4, 2) := by decide +kernel
theorem dX12_gcd_24 : decode cX12_gcd 24 = .ok (.lload 8, 2) := by decide +kernel
theorem dX12_gcd_26 : decode cX12_gcd 26 = .ok (.lstore 6, 2) := by decide +kernel
theorem dX12_gcd_28 : decode cX12_gcd 28 = .ok (.goto (-22), 3) := by decide +kernel
theorem dX12_gcd_31 : decode cX12_gcd 31 = .ok (.lload 4, 2) := by decide +kernel
theorem dX12_gcd_33 : decode cX12_gcd 33 = .ok (.lreturn, 1) := by decide +kernel
theorem dX12_fair_0 : decode cX12_fair 0 = .ok (.aload_n 0, 1) := by decide +kernel
theorem dX12_fair_1 : decode cX12_fair 1 = .ok (.iload_n 1, 1) := by decide +kernel
theorem dX12_fair_2 : decode cX12_fair 2 = .ok (.invokevirtual 360, 3) := by decide +kernel
theorem dX12_fair_5 : decode cX12_fair 5 = .ok (.ifCond .eq 39, 3) := by decide +kernel
theorem dX12_fair_8 : decode cX12_fair 8 = .ok (.iload_n 1, 1) := by decide +kernel
theorem dX12_fair_9 : decode cX12_fair 9 = .ok (.invokestatic 367, 3) := by decide +kernel
theorem dX12_fair_12 : decode cX12_fair 12 = .ok (.bipush 8, 2) := by decide +kernel
theorem dX12_fair_14 : decode cX12_fair 14 = .ok (.if_icmp .gt 30, 3) := by decide +kernel
theorem dX12_fair_17 : decode cX12_fair 17 = .ok (.iload_n 2, 1) := by decide +kernel
theorem dX12_fair_18 : decode cX12_fair 18 = .ok (.iconst 0, 1) := by decide +kernel
theorem dX12_fair_19 : decode cX12_fair 19 = .ok (.bipush 9, 2) := by decide +kernel
theorem dX12_fair_21 : decode cX12_fair 21 = .ok (.invokestatic 169, 3) := by decide +kernel
theorem dX12_fair_24 : decode cX12_fair 24 = .ok (.ifCond .eq 20, 3) := by decide +kernel
theorem dX12_fair_27 : decode cX12_fair 27 = .ok (.iload_n 1, 1) := by decide +kernel
theorem dX12_fair_28 : decode cX12_fair 28 = .ok (.iload_n 2, 1) := by decide +kernel
theorem dX12_fair_29 : decode cX12_fair 29 = .ok (.invokestatic 199, 3) := by decide +kernel
theorem dX12_fair_32 : decode cX12_fair 32 = .ok (.ifCond .eq 12, 3) := by decide +kernel
theorem dX12_fair_35 : decode cX12_fair 35 = .ok (.iload_n 3, 1) := by decide +kernel
theorem dX12_fair_36 : decode cX12_fair 36 = .ok (.iconst 0, 1) := by decide +kernel
theorem dX12_fair_37 : decode cX12_fair 37 = .ok (.iconst 1, 1) := by decide +kernel
theorem dX12_fair_38 : decode cX12_fair 38 = .ok (.invokestatic 169, 3) := by decide +kernel
theorem dX12_fair_41 : decode cX12_fair 41 = .ok (.ifCond .ne 7, 3) := by decide +kernel
theorem dX12_fair_44 : decode cX12_fair 44 = .ok (.ldc2_w 417, 3) := by decide +kernel
theorem dX12_fair_47 : decode cX12_fair 47 = .ok (.lreturn, 1) := by decide +kernel
theorem dX12_fair_48 : decode cX12_fair 48 = .ok (.iload_n 1, 1) := by decide +kernel
theorem dX12_fair_49 : decode cX12_fair 49 = .ok (.invokestatic 367, 3) := by decide +kernel
theorem dX12_fair_52 : decode cX12_fair 52 = .ok (.istore 4, 2) := by decide +kernel
theorem dX12_fair_54 : decode cX12_fair 54 = .ok (.lconst 0, 1) := by decide +kernel
theorem dX12_fair_55 : decode cX12_fair 55 = .ok (.lstore 5, 2) := by decide +kernel
theorem dX12_fair_57 : decode cX12_fair 57 = .ok (.iconst 0, 1) := by decide +kernel
theorem dX12_fair_58 : decode cX12_fair 58 = .ok (.istore 7, 2) := by decide +kernel
theorem dX12_fair_60 : decode cX12_fair 60 = .ok (.iload 7, 2) := by decide +kernel
theorem dX12_fair_62 : decode cX12_fair 62 = .ok (.sipush 1024, 3) := by decide +kernel
theorem dX12_fair_65 : decode cX12_fair 65 = .ok (.if_icmp .ge 82, 3) := by decide +kernel
theorem dX12_fair_68 : decode cX12_fair 68 = .ok (.iload 7, 2) := by decide +kernel
theorem dX12_fair_70 : decode cX12_fair 70 = .ok (.iload_n 1, 1) := by decide +kernel
theorem dX12_fair_71 : decode cX12_fair 71 = .ok (.iconst (-1), 1) := by decide +kernel
theorem dX12_fair_72 : decode cX12_fair 72 = .ok (.ixor, 1) := by decide +kernel
theorem dX12_fair_73 : decode cX12_fair 73 = .ok (.iand, 1) := by decide +kernel
theorem dX12_fair_74 : decode cX12_fair 74 = .ok (.ifCond .ne 67, 3) := by decide +kernel
theorem dX12_fair_77 : decode cX12_fair 77 = .ok (.iload 7, 2) := by decide +kernel
theorem dX12_fair_79 : decode cX12_fair 79 = .ok (.iload_n 2, 1) := by decide +kernel
theorem dX12_fair_80 : decode cX12_fair 80 = .ok (.invokestatic 199, 3) := by decide +kernel
theorem dX12_fair_83 : decode cX12_fair 83 = .ok (.ifCond .eq 6, 3) := by decide +kernel
theorem dX12_fair_86 : decode cX12_fair 86 = .ok (.goto 55, 3) := by decide +kernel
theorem dX12_fair_89 : decode cX12_fair 89 = .ok (.iload 7, 2) := by decide +kernel
theorem dX12_fair_91 : decode cX12_fair 91 = .ok (.invokestatic 367, 3) := by decide +kernel
theorem dX12_fair_94 : decode cX12_fair 94 = .ok (.invokestatic 384, 3) := by decide +kernel
theorem dX12_fair_97 : decode cX12_fair 97 = .ok (.i2l, 1) := by decide +kernel
theorem dX12_fair_98 : decode cX12_fair 98 = .ok (.iload 4, 2) := by decide +kernel
theorem dX12_fair_100 : decode cX12_fair 100 = .ok (.iconst 1, 1) := by decide +kernel
theorem dX12_fair_101 : decode cX12_fair 101 = .ok (.isub, 1) := by decide +kernel
theorem dX12_fair_102 : decode cX12_fair 102 = .ok (.iload 7, 2) := by decide +kernel
theorem dX12_fair_104 : decode cX12_fair 104 = .ok (.invokestatic 367, 3) := by decide +kernel
theorem dX12_fair_107 : decode cX12_fair 107 = .ok (.isub, 1) := by decide +kernel
theorem dX12_fair_108 : decode cX12_fair 108 = .ok (.invokestatic 384, 3) := by decide +kernel
theorem dX12_fair_111 : decode cX12_fair 111 = .ok (.i2l, 1) := by decide +kernel
theorem dX12_fair_112 : decode cX12_fair 112 = .ok (.lmul, 1) := by decide +kernel
theorem dX12_fair_113 : decode cX12_fair 113 = .ok (.lstore 8, 2) := by decide +kernel
theorem dX12_fair_115 : decode cX12_fair 115 = .ok (.lload 5, 2) := by decide +kernel
theorem dX12_fair_117 : decode cX12_fair 117 = .ok (.lload 8, 2) := by decide +kernel
theorem dX12_fair_119 : decode cX12_fair 119 = .ok (.aload_n 0, 1) := by decide +kernel
theorem dX12_fair_120 : decode cX12_fair 120 = .ok (.iload 7, 2) := by decide +kernel
theorem dX12_fair_122 : decode cX12_fair 122 = .ok (.iconst 1, 1) := by decide +kernel
theorem dX12_fair_123 : decode cX12_fair 123 = .ok (.iload_n 2, 1) := by decide +kernel
theorem dX12_fair_124 : decode cX12_fair 124 = .ok (.ishl, 1) := by decide +kernel
theorem dX12_fair_125 : decode cX12_fair 125 = .ok (.ior, 1) := by decide +kernel
theorem dX12_fair_126 : decode cX12_fair 126 = .ok (.invokevirtual 419, 3) := by decide +kernel
theorem dX12_fair_129 : decode cX12_fair 129 = .ok (.aload_n 0, 1) := by decide +kernel
theorem dX12_fair_130 : decode cX12_fair 130 = .ok (.iload 7, 2) := by decide +kernel
theorem dX12_fair_132 : decode cX12_fair 132 = .ok (.invokevirtual 419, 3) := by decide +kernel
theorem dX12_fair_135 : decode cX12_fair 135 = .ok (.isub, 1) := by decide +kernel
theorem dX12_fair_136 : decode cX12_fair 136 = .ok (.i2l, 1) := by decide +kernel
theorem dX12_fair_137 : decode cX12_fair 137 = .ok (.lmul, 1) := by decide +kernel
theorem dX12_fair_138 : decode cX12_fair 138 = .ok (.ladd, 1) := by decide +kernel
theorem dX12_fair_139 : decode cX12_fair 139 = .ok (.lstore 5, 2) := by decide +kernel
theorem dX12_fair_141 : decode cX12_fair 141 = .ok (.iinc 7 1, 3) := by decide +kernel
theorem dX12_fair_144 : decode cX12_fair 144 = .ok (.goto (-84), 3) := by decide +kernel
theorem dX12_fair_147 : decode cX12_fair 147 = .ok (.iload 4, 2) := by decide +kernel
theorem dX12_fair_149 : decode cX12_fair 149 = .ok (.invokestatic 384, 3) := by decide +kernel
theorem dX12_fair_152 : decode cX12_fair 152 = .ok (.i2l, 1) := by decide +kernel
theorem dX12_fair_153 : decode cX12_fair 153 = .ok (.lstore 7, 2) := by decide +kernel
theorem dX12_fair_155 : decode cX12_fair 155 = .ok (.lload 5, 2) := by decide +kernel
theorem dX12_fair_157 : decode cX12_fair 157 = .ok (.lload 7, 2) := by decide +kernel
theorem dX12_fair_159 : decode cX12_fair 159 = .ok (.invokestatic 422, 3) := by decide +kernel
theorem dX12_fair_162 : decode cX12_fair 162 = .ok (.lstore 9, 2) := by decide +kernel
theorem dX12_fair_164 : decode cX12_fair 164 = .ok (.iload_n 3, 1) := by decide +kernel
theorem dX12_fair_165 : decode cX12_fair 165 = .ok (.ifCond .ne 11, 3) := by decide +kernel
theorem dX12_fair_168 : decode cX12_fair 168 = .ok (.lload 5, 2) := by decide +kernel
theorem dX12_fair_170 : decode cX12_fair 170 = .ok (.lload 9, 2) := by decide +kernel
theorem dX12_fair_172 : decode cX12_fair 172 = .ok (.ldiv, 1) := by decide +kernel
theorem dX12_fair_173 : decode cX12_fair 173 = .ok (.goto 8, 3) := by decide +kernel
theorem dX12_fair_176 : decode cX12_fair 176 = .ok (.lload 7, 2) := by decide +kernel
theorem dX12_fair_178 : decode cX12_fair 178 = .ok (.lload 9, 2) := by decide +kernel
theorem dX12_fair_180 : decode cX12_fair 180 = .ok (.ldiv, 1) := by decide +kernel
theorem dX12_fair_181 : decode cX12_fair 181 = .ok (.lreturn, 1) := by decide +kernel
theorem dX12_harmBy_0 : decode cX12_harmBy 0 = .ok (.aload_n 0, 1) := by decide +kernel
theorem dX12_harmBy_1 : decode cX12_harmBy 1 = .ok (.aload_n 0, 1) := by decide +kernel
theorem dX12_harmBy_2 : decode cX12_harmBy 2 = .ok (.getfield 381, 3) := by decide +kernel
theorem dX12_harmBy_5 : decode cX12_harmBy 5 = .ok (.iload_n 1, 1) := by decide +kernel
theorem dX12_harmBy_6 : decode cX12_harmBy 6 = .ok (.iload_n 2, 1) := by decide +kernel
theorem dX12_harmBy_7 : decode cX12_harmBy 7 = .ok (.invokevirtual 387, 3) := by decide +kernel
theorem dX12_harmBy_10 : decode cX12_harmBy 10 = .ok (.aload_n 0, 1) := by decide +kernel
theorem dX12_harmBy_11 : decode cX12_harmBy 11 = .ok (.aload_n 0, 1) := by decide +kernel
theorem dX12_harmBy_12 : decode cX12_harmBy 12 = .ok (.getfield 381, 3) := by decide +kernel
theorem dX12_harmBy_15 : decode cX12_harmBy 15 = .ok (.putfield 316, 3) := by decide +kernel
theorem dX12_harmBy_18 : decode cX12_harmBy 18 = .ok (.iconst 0, 1) := by decide +kernel
theorem dX12_harmBy_19 : decode cX12_harmBy 19 = .ok (.istore_n 3, 1) := by decide +kernel
theorem dX12_harmBy_20 : decode cX12_harmBy 20 = .ok (.iload_n 3, 1) := by decide +kernel
theorem dX12_harmBy_21 : decode cX12_harmBy 21 = .ok (.aload_n 0, 1) := by decide +kernel
theorem dX12_harmBy_22 : decode cX12_harmBy 22 = .ok (.getfield 381, 3) := by decide +kernel
theorem dX12_harmBy_25 : decode cX12_harmBy 25 = .ok (.if_icmp .ge 26, 3) := by decide +kernel
theorem dX12_harmBy_28 : decode cX12_harmBy 28 = .ok (.aload_n 0, 1) := by decide +kernel
theorem dX12_harmBy_29 : decode cX12_harmBy 29 = .ok (.getfield 83, 3) := by decide +kernel
theorem dX12_harmBy_32 : decode cX12_harmBy 32 = .ok (.iload_n 3, 1) := by decide +kernel
theorem dX12_harmBy_33 : decode cX12_harmBy 33 = .ok (.aload_n 0, 1) := by decide +kernel
theorem dX12_harmBy_34 : decode cX12_harmBy 34 = .ok (.getfield 101, 3) := by decide +kernel
theorem dX12_harmBy_37 : decode cX12_harmBy 37 = .ok (.aload_n 0, 1) := by decide +kernel
theorem dX12_harmBy_38 : decode cX12_harmBy 38 = .ok (.getfield 113, 3) := by decide +kernel
theorem dX12_harmBy_41 : decode cX12_harmBy 41 = .ok (.iload_n 3, 1) := by decide +kernel
theorem dX12_harmBy_42 : decode cX12_harmBy 42 = .ok (.iaload, 1) := by decide +kernel
theorem dX12_harmBy_43 : decode cX12_harmBy 43 = .ok (.iaload, 1) := by decide +kernel
theorem dX12_harmBy_44 : decode cX12_harmBy 44 = .ok (.iastore, 1) := by decide +kernel
theorem dX12_harmBy_45 : decode cX12_harmBy 45 = .ok (.iinc 3 1, 3) := by decide +kernel
theorem dX12_harmBy_48 : decode cX12_harmBy 48 = .ok (.goto (-28), 3) := by decide +kernel
theorem dX12_harmBy_51 : decode cX12_harmBy 51 = .ok (.aload_n 0, 1) := by decide +kernel
theorem dX12_harmBy_52 : decode cX12_harmBy 52 = .ok (.invokevirtual 335, 3) := by decide +kernel
theorem dX12_harmBy_55 : decode cX12_harmBy 55 = .ok (.iconst 0, 1) := by decide +kernel
theorem dX12_harmBy_56 : decode cX12_harmBy 56 = .ok (.istore_n 3, 1) := by decide +kernel
theorem dX12_harmBy_57 : decode cX12_harmBy 57 = .ok (.iload_n 3, 1) := by decide +kernel
theorem dX12_harmBy_58 : decode cX12_harmBy 58 = .ok (.bipush 24, 2) := by decide +kernel
theorem dX12_harmBy_60 : decode cX12_harmBy 60 = .ok (.if_icmp .ge 14, 3) := by decide +kernel
theorem dX12_harmBy_63 : decode cX12_harmBy 63 = .ok (.aload_n 0, 1) := by decide +kernel
theorem dX12_harmBy_64 : decode cX12_harmBy 64 = .ok (.iload_n 3, 1) := by decide +kernel
theorem dX12_harmBy_65 : decode cX12_harmBy 65 = .ok (.invokevirtual 341, 3) := by decide +kernel
theorem dX12_harmBy_68 : decode cX12_harmBy 68 = .ok (.iinc 3 1, 3) := by decide +kernel
theorem dX12_harmBy_71 : decode cX12_harmBy 71 = .ok (.goto (-14), 3) := by decide +kernel
theorem dX12_harmBy_74 : decode cX12_harmBy 74 = .ok (.aload_n 0, 1) := by decide +kernel
theorem dX12_harmBy_75 : decode cX12_harmBy 75 = .ok (.getfield 328, 3) := by decide +kernel
theorem dX12_harmBy_78 : decode cX12_harmBy 78 = .ok (.ireturn, 1) := by decide +kernel
theorem dX12_drought_0 : decode cX12_drought 0 = .ok (.aload_n 0, 1) := by decide +kernel
theorem dX12_drought_1 : decode cX12_drought 1 = .ok (.iload_n 1, 1) := by decide +kernel
theorem dX12_drought_2 : decode cX12_drought 2 = .ok (.invokevirtual 360, 3) := by decide +kernel
theorem dX12_drought_5 : decode cX12_drought 5 = .ok (.ifCond .eq 12, 3) := by decide +kernel
theorem dX12_drought_8 : decode cX12_drought 8 = .ok (.iload_n 1, 1) := by decide +kernel
theorem dX12_drought_9 : decode cX12_drought 9 = .ok (.invokestatic 367, 3) := by decide +kernel
theorem dX12_drought_12 : decode cX12_drought 12 = .ok (.bipush 6, 2) := by decide +kernel
theorem dX12_drought_14 : decode cX12_drought 14 = .ok (.if_icmp .le 6, 3) := by decide +kernel
theorem dX12_drought_17 : decode cX12_drought 17 = .ok (.bipush (-3), 2) := by decide +kernel
theorem dX12_drought_19 : decode cX12_drought 19 = .ok (.ireturn, 1) := by decide +kernel
theorem dX12_drought_20 : decode cX12_drought 20 = .ok (.iload_n 2, 1) := by decide +kernel
theorem dX12_drought_21 : decode cX12_drought 21 = .ok (.iconst (-1), 1) := by decide +kernel
theorem dX12_drought_22 : decode cX12_drought 22 = .ok (.iload_n 1, 1) := by decide +kernel
theorem dX12_drought_23 : decode cX12_drought 23 = .ok (.invokestatic 367, 3) := by decide +kernel
theorem dX12_drought_26 : decode cX12_drought 26 = .ok (.iconst 1, 1) := by decide +kernel
theorem dX12_drought_27 : decode cX12_drought 27 = .ok (.isub, 1) := by decide +kernel
theorem dX12_drought_28 : decode cX12_drought 28 = .ok (.invokestatic 169, 3) := by decide +kernel
theorem dX12_drought_31 : decode cX12_drought 31 = .ok (.ifCond .ne 6, 3) := by decide +kernel
theorem dX12_drought_34 : decode cX12_drought 34 = .ok (.bipush (-2), 2) := by decide +kernel
theorem dX12_drought_36 : decode cX12_drought 36 = .ok (.ireturn, 1) := by decide +kernel
theorem dX12_drought_37 : decode cX12_drought 37 = .ok (.aload_n 0, 1) := by decide +kernel
theorem dX12_drought_38 : decode cX12_drought 38 = .ok (.iload_n 1, 1) := by decide +kernel
theorem dX12_drought_39 : decode cX12_drought 39 = .ok (.invokevirtual 393, 3) := by decide +kernel
theorem dX12_drought_42 : decode cX12_drought 42 = .ok (.aload_n 0, 1) := by decide +kernel
theorem dX12_drought_43 : decode cX12_drought 43 = .ok (.getfield 381, 3) := by decide +kernel
theorem dX12_drought_46 : decode cX12_drought 46 = .ok (.invokestatic 384, 3) := by decide +kernel
theorem dX12_drought_49 : decode cX12_drought 49 = .ok (.istore_n 3, 1) := by decide +kernel
theorem dX12_drought_50 : decode cX12_drought 50 = .ok (.iconst 0, 1) := by decide +kernel
theorem dX12_drought_51 : decode cX12_drought 51 = .ok (.istore 4, 2) := by decide +kernel
theorem dX12_drought_53 : decode cX12_drought 53 = .ok (.ldc_w 426, 3) := by decide +kernel
theorem dX12_drought_56 : decode cX12_drought 56 = .ok (.istore 5, 2) := by decide +kernel
theorem dX12_drought_58 : decode cX12_drought 58 = .ok (.iconst 0, 1) := by decide +kernel
theorem dX12_drought_59 : decode cX12_drought 59 = .ok (.istore 6, 2) := by decide +kernel
theorem dX12_drought_61 : decode cX12_drought 61 = .ok (.iload 6, 2) := by decide +kernel
theorem dX12_drought_63 : decode cX12_drought 63 = .ok (.iload_n 3, 1) := by decide +kernel
theorem dX12_drought_64 : decode cX12_drought 64 = .ok (.if_icmp .ge 36, 3) := by decide +kernel
theorem dX12_drought_67 : decode cX12_drought 67 = .ok (.aload_n 0, 1) := by decide +kernel
theorem dX12_drought_68 : decode cX12_drought 68 = .ok (.iload 6, 2) := by decide +kernel
theorem dX12_drought_70 : decode cX12_drought 70 = .ok (.iload_n 3, 1) := by decide +kernel
theorem dX12_drought_71 : decode cX12_drought 71 = .ok (.invokevirtual 427, 3) := by decide +kernel
theorem dX12_drought_74 : decode cX12_drought 74 = .ok (.istore 7, 2) := by decide +kernel
theorem dX12_drought_76 : decode cX12_drought 76 = .ok (.iload 7, 2) := by decide +kernel
theorem dX12_drought_78 : decode cX12_drought 78 = .ok (.iload 5, 2) := by decide +kernel
theorem dX12_drought_80 : decode cX12_drought 80 = .ok (.if_icmp .lt 6, 3) := by decide +kernel
theorem dX12_drought_83 : decode cX12_drought 83 = .ok (.goto 11, 3) := by decide +kernel
theorem dX12_drought_86 : decode cX12_drought 86 = .ok (.iload 7, 2) := by decide +kernel
theorem dX12_drought_88 : decode cX12_drought 88 = .ok (.istore 5, 2) := by decide +kernel
theorem dX12_drought_90 : decode cX12_drought 90 = .ok (.iload 6, 2) := by decide +kernel
theorem dX12_drought_92 : decode cX12_drought 92 = .ok (.istore 4, 2) := by decide +kernel
theorem dX12_drought_94 : decode cX12_drought 94 = .ok (.iinc 6 1, 3) := by decide +kernel
theorem dX12_drought_97 : decode cX12_drought 97 = .ok (.goto (-36), 3) := by decide +kernel
theorem dX12_drought_100 : decode cX12_drought 100 = .ok (.aload_n 0, 1) := by decide +kernel
theorem dX12_drought_101 : decode cX12_drought 101 = .ok (.aload_n 0, 1) := by decide +kernel
theorem dX12_drought_102 : decode cX12_drought 102 = .ok (.getfield 381, 3) := by decide +kernel
theorem dX12_drought_105 : decode cX12_drought 105 = .ok (.iload 4, 2) := by decide +kernel
theorem dX12_drought_107 : decode cX12_drought 107 = .ok (.iload_n 3, 1) := by decide +kernel
theorem dX12_drought_108 : decode cX12_drought 108 = .ok (.invokevirtual 387, 3) := by decide +kernel
theorem dX12_drought_111 : decode cX12_drought 111 = .ok (.iload_n 2, 1) := by decide +kernel
theorem dX12_drought_112 : decode cX12_drought 112 = .ok (.iconst (-1), 1) := by decide +kernel
theorem dX12_drought_113 : decode cX12_drought 113 = .ok (.if_icmp .ne 8, 3) := by decide +kernel
theorem dX12_drought_116 : decode cX12_drought 116 = .ok (.iload 5, 2) := by decide +kernel
theorem dX12_drought_118 : decode cX12_drought 118 = .ok (.goto 14, 3) := by decide +kernel
theorem dX12_drought_121 : decode cX12_drought 121 = .ok (.aload_n 0, 1) := by decide +kernel
theorem dX12_drought_122 : decode cX12_drought 122 = .ok (.getfield 101, 3) := by decide +kernel
theorem dX12_drought_125 : decode cX12_drought 125 = .ok (.aload_n 0, 1) := by decide +kernel
theorem dX12_drought_126 : decode cX12_drought 126 = .ok (.getfield 113, 3) := by decide +kernel
theorem dX12_drought_129 : decode cX12_drought 129 = .ok (.iload_n 2, 1) := by decide +kernel
theorem dX12_drought_130 : decode cX12_drought 130 = .ok (.iaload, 1) := by decide +kernel
theorem dX12_drought_131 : decode cX12_drought 131 = .ok (.iaload, 1) := by decide +kernel
theorem dX12_drought_132 : decode cX12_drought 132 = .ok (.ireturn, 1) := by decide +kernel
theorem dX12_comesToMeter_0 : decode cX12_comesToMeter 0 = .ok (.iconst 0, 1) := by decide +kernel
theorem dX12_comesToMeter_1 : decode cX12_comesToMeter 1 = .ok (.istore_n 2, 1) := by decide +kernel
theorem dX12_comesToMeter_2 : decode cX12_comesToMeter 2 = .ok (.iload_n 2, 1) := by decide +kernel
theorem dX12_comesToMeter_3 : decode cX12_comesToMeter 3 = .ok (.bipush 24, 2) := by decide +kernel
theorem dX12_comesToMeter_5 : decode cX12_comesToMeter 5 = .ok (.if_icmp .ge 58, 3) := by decide +kernel
theorem dX12_comesToMeter_8 : decode cX12_comesToMeter 8 = .ok (.iconst 0, 1) := by decide +kernel
theorem dX12_comesToMeter_9 : decode cX12_comesToMeter 9 = .ok (.istore_n 3, 1) := by decide +kernel
theorem dX12_comesToMeter_10 : decode cX12_comesToMeter 10 = .ok (.iconst 0, 1) := by decide +kernel
theorem dX12_comesToMeter_11 : decode cX12_comesToMeter 11 = .ok (.istore 4, 2) := by decide +kernel
theorem dX12_comesToMeter_13 : decode cX12_comesToMeter 13 = .ok (.iload 4, 2) := by decide +kernel
theorem dX12_comesToMeter_15 : decode cX12_comesToMeter 15 = .ok (.iload_n 1, 1) := by decide +kernel
theorem dX12_comesToMeter_16 : decode cX12_comesToMeter 16 = .ok (.if_icmp .ge 29, 3) := by decide +kernel
theorem dX12_comesToMeter_19 : decode cX12_comesToMeter 19 = .ok (.iload_n 3, 1) := by decide +kernel
theorem dX12_comesToMeter_20 : decode cX12_comesToMeter 20 = .ok (.aload_n 0, 1) := by decide +kernel
theorem dX12_comesToMeter_21 : decode cX12_comesToMeter 21 = .ok (.getfield 13, 3) := by decide +kernel
theorem dX12_comesToMeter_24 : decode cX12_comesToMeter 24 = .ok (.bipush 72, 2) := by decide +kernel
theorem dX12_comesToMeter_26 : decode cX12_comesToMeter 26 = .ok (.aload_n 0, 1) := by decide +kernel
theorem dX12_comesToMeter_27 : decode cX12_comesToMeter 27 = .ok (.getfield 119, 3) := by decide +kernel
theorem dX12_comesToMeter_30 : decode cX12_comesToMeter 30 = .ok (.iload 4, 2) := by decide +kernel
theorem dX12_comesToMeter_32 : decode cX12_comesToMeter 32 = .ok (.iaload, 1) := by decide +kernel
theorem dX12_comesToMeter_33 : decode cX12_comesToMeter 33 = .ok (.imul, 1) := by decide +kernel
theorem dX12_comesToMeter_34 : decode cX12_comesToMeter 34 = .ok (.iload_n 2, 1) := by decide +kernel
theorem dX12_comesToMeter_35 : decode cX12_comesToMeter 35 = .ok (.iadd, 1) := by decide +kernel
theorem dX12_comesToMeter_36 : decode cX12_comesToMeter 36 = .ok (.iaload, 1) := by decide +kernel
theorem dX12_comesToMeter_37 : decode cX12_comesToMeter 37 = .ok (.iadd, 1) := by decide +kernel
theorem dX12_comesToMeter_38 : decode cX12_comesToMeter 38 = .ok (.istore_n 3, 1) := by decide +kernel
theorem dX12_comesToMeter_39 : decode cX12_comesToMeter 39 = .ok (.iinc 4 1, 3) := by decide +kernel
theorem dX12_comesToMeter_42 : decode cX12_comesToMeter 42 = .ok (.goto (-29), 3) := by decide +kernel
theorem dX12_comesToMeter_45 : decode cX12_comesToMeter 45 = .ok (.iload_n 3, 1) := by decide +kernel
theorem dX12_comesToMeter_46 : decode cX12_comesToMeter 46 = .ok (.aload_n 0, 1) := by decide +kernel
theorem dX12_comesToMeter_47 : decode cX12_comesToMeter 47 = .ok (.getfield 116, 3) := by decide +kernel
theorem dX12_comesToMeter_50 : decode cX12_comesToMeter 50 = .ok (.iload_n 2, 1) := by decide +kernel
theorem dX12_comesToMeter_51 : decode cX12_comesToMeter 51 = .ok (.iaload, 1) := by decide +kernel
theorem dX12_comesToMeter_52 : decode cX12_comesToMeter 52 = .ok (.if_icmp .eq 5, 3) := by decide +kernel
theorem dX12_comesToMeter_55 : decode cX12_comesToMeter 55 = .ok (.iconst 0, 1) := by decide +kernel
theorem dX12_comesToMeter_56 : decode cX12_comesToMeter 56 = .ok (.ireturn, 1) := by decide +kernel
theorem dX12_comesToMeter_57 : decode cX12_comesToMeter 57 = .ok (.iinc 2 1, 3) := by decide +kernel
theorem dX12_comesToMeter_60 : decode cX12_comesToMeter 60 = .ok (.goto (-58), 3) := by decide +kernel
theorem dX12_comesToMeter_63 : decode cX12_comesToMeter 63 = .ok (.iconst 1, 1) := by decide +kernel
theorem dX12_comesToMeter_64 : decode cX12_comesToMeter 64 = .ok (.ireturn, 1) := by decide +kernel
theorem dX12_isMeterRow_0 : decode cX12_isMeterRow 0 = .ok (.iload_n 2, 1) := by decide +kernel
theorem dX12_isMeterRow_1 : decode cX12_isMeterRow 1 = .ok (.istore_n 3, 1) := by decide +kernel
theorem dX12_isMeterRow_2 : decode cX12_isMeterRow 2 = .ok (.iload_n 1, 1) := by decide +kernel
theorem dX12_isMeterRow_3 : decode cX12_isMeterRow 3 = .ok (.iconst 1, 1) := by decide +kernel
theorem dX12_isMeterRow_4 : decode cX12_isMeterRow 4 = .ok (.isub, 1) := by decide +kernel
theorem dX12_isMeterRow_5 : decode cX12_isMeterRow 5 = .ok (.istore 4, 2) := by decide +kernel
theorem dX12_isMeterRow_7 : decode cX12_isMeterRow 7 = .ok (.iload 4, 2) := by decide +kernel
theorem dX12_isMeterRow_9 : decode cX12_isMeterRow 9 = .ok (.ifCond .lt 68, 3) := by decide +kernel
theorem dX12_isMeterRow_12 : decode cX12_isMeterRow 12 = .ok (.aload_n 0, 1) := by decide +kernel
theorem dX12_isMeterRow_13 : decode cX12_isMeterRow 13 = .ok (.getfield 119, 3) := by decide +kernel
theorem dX12_isMeterRow_16 : decode cX12_isMeterRow 16 = .ok (.iload 4, 2) := by decide +kernel
theorem dX12_isMeterRow_18 : decode cX12_isMeterRow 18 = .ok (.iload_n 3, 1) := by decide +kernel
theorem dX12_isMeterRow_19 : decode cX12_isMeterRow 19 = .ok (.bipush 12, 2) := by decide +kernel
theorem dX12_isMeterRow_21 : decode cX12_isMeterRow 21 = .ok (.irem, 1) := by decide +kernel
theorem dX12_isMeterRow_22 : decode cX12_isMeterRow 22 = .ok (.iastore, 1) := by decide +kernel
theorem dX12_isMeterRow_23 : decode cX12_isMeterRow 23 = .ok (.iload_n 3, 1) := by decide +kernel
theorem dX12_isMeterRow_24 : decode cX12_isMeterRow 24 = .ok (.bipush 12, 2) := by decide +kernel
theorem dX12_isMeterRow_26 : decode cX12_isMeterRow 26 = .ok (.idiv, 1) := by decide +kernel
theorem dX12_isMeterRow_27 : decode cX12_isMeterRow 27 = .ok (.istore_n 3, 1) := by decide +kernel
theorem dX12_isMeterRow_28 : decode cX12_isMeterRow 28 = .ok (.aload_n 0, 1) := by decide +kernel
theorem dX12_isMeterRow_29 : decode cX12_isMeterRow 29 = .ok (.aload_n 0, 1) := by decide +kernel
theorem dX12_isMeterRow_30 : decode cX12_isMeterRow 30 = .ok (.getfield 119, 3) := by decide +kernel
theorem dX12_isMeterRow_33 : decode cX12_isMeterRow 33 = .ok (.iload 4, 2) := by decide +kernel
theorem dX12_isMeterRow_35 : decode cX12_isMeterRow 35 = .ok (.iaload, 1) := by decide +kernel
theorem dX12_isMeterRow_36 : decode cX12_isMeterRow 36 = .ok (.invokevirtual 202, 3) := by decide +kernel
theorem dX12_isMeterRow_39 : decode cX12_isMeterRow 39 = .ok (.ifCond .eq 30, 3) := by decide +kernel
theorem dX12_isMeterRow_42 : decode cX12_isMeterRow 42 = .ok (.iload 4, 2) := by decide +kernel
theorem dX12_isMeterRow_44 : decode cX12_isMeterRow 44 = .ok (.iload_n 1, 1) := by decide +kernel
theorem dX12_isMeterRow_45 : decode cX12_isMeterRow 45 = .ok (.iconst 1, 1) := by decide +kernel
theorem dX12_isMeterRow_46 : decode cX12_isMeterRow 46 = .ok (.isub, 1) := by decide +kernel
theorem dX12_isMeterRow_47 : decode cX12_isMeterRow 47 = .ok (.if_icmp .ge 24, 3) := by decide +kernel
theorem dX12_isMeterRow_50 : decode cX12_isMeterRow 50 = .ok (.aload_n 0, 1) := by decide +kernel
theorem dX12_isMeterRow_51 : decode cX12_isMeterRow 51 = .ok (.getfield 119, 3) := by decide +kernel
theorem dX12_isMeterRow_54 : decode cX12_isMeterRow 54 = .ok (.iload 4, 2) := by decide +kernel
theorem dX12_isMeterRow_56 : decode cX12_isMeterRow 56 = .ok (.iaload, 1) := by decide +kernel
theorem dX12_isMeterRow_57 : decode cX12_isMeterRow 57 = .ok (.aload_n 0, 1) := by decide +kernel
theorem dX12_isMeterRow_58 : decode cX12_isMeterRow 58 = .ok (.getfield 119, 3) := by decide +kernel
theorem dX12_isMeterRow_61 : decode cX12_isMeterRow 61 = .ok (.iload 4, 2) := by decide +kernel
theorem dX12_isMeterRow_63 : decode cX12_isMeterRow 63 = .ok (.iconst 1, 1) := by decide +kernel
theorem dX12_isMeterRow_64 : decode cX12_isMeterRow 64 = .ok (.iadd, 1) := by decide +kernel
theorem dX12_isMeterRow_65 : decode cX12_isMeterRow 65 = .ok (.iaload, 1) := by decide +kernel
theorem dX12_isMeterRow_66 : decode cX12_isMeterRow 66 = .ok (.if_icmp .le 5, 3) := by decide +kernel
theorem dX12_isMeterRow_69 : decode cX12_isMeterRow 69 = .ok (.iconst 0, 1) := by decide +kernel
theorem dX12_isMeterRow_70 : decode cX12_isMeterRow 70 = .ok (.ireturn, 1) := by decide +kernel
theorem dX12_isMeterRow_71 : decode cX12_isMeterRow 71 = .ok (.iinc 4 (-1), 3) := by decide +kernel
theorem dX12_isMeterRow_74 : decode cX12_isMeterRow 74 = .ok (.goto (-67), 3) := by decide +kernel
theorem dX12_isMeterRow_77 : decode cX12_isMeterRow 77 = .ok (.aload_n 0, 1) := by decide +kernel
theorem dX12_isMeterRow_78 : decode cX12_isMeterRow 78 = .ok (.iload_n 1, 1) := by decide +kernel
theorem dX12_isMeterRow_79 : decode cX12_isMeterRow 79 = .ok (.invokevirtual 430, 3) := by decide +kernel
theorem dX12_isMeterRow_82 : decode cX12_isMeterRow 82 = .ok (.ireturn, 1) := by decide +kernel
theorem dX12_meter_0 : decode cX12_meter 0 = .ok (.iload_n 1, 1) := by decide +kernel
theorem dX12_meter_1 : decode cX12_meter 1 = .ok (.iconst 1, 1) := by decide +kernel
theorem dX12_meter_2 : decode cX12_meter 2 = .ok (.iconst 3, 1) := by decide +kernel
theorem dX12_meter_3 : decode cX12_meter 3 = .ok (.invokestatic 169, 3) := by decide +kernel
theorem dX12_meter_6 : decode cX12_meter 6 = .ok (.ifCond .eq 31, 3) := by decide +kernel
theorem dX12_meter_9 : decode cX12_meter 9 = .ok (.iload_n 2, 1) := by decide +kernel
theorem dX12_meter_10 : decode cX12_meter 10 = .ok (.iconst (-1), 1) := by decide +kernel
theorem dX12_meter_11 : decode cX12_meter 11 = .ok (.iconst 3, 1) := by decide +kernel
theorem dX12_meter_12 : decode cX12_meter 12 = .ok (.invokestatic 169, 3) := by decide +kernel
theorem dX12_meter_15 : decode cX12_meter 15 = .ok (.ifCond .eq 22, 3) := by decide +kernel
theorem dX12_meter_18 : decode cX12_meter 18 = .ok (.iload_n 2, 1) := by decide +kernel
theorem dX12_meter_19 : decode cX12_meter 19 = .ok (.iconst 3, 1) := by decide +kernel
theorem dX12_meter_20 : decode cX12_meter 20 = .ok (.if_icmp .eq 8, 3) := by decide +kernel
theorem dX12_meter_23 : decode cX12_meter 23 = .ok (.iload_n 2, 1) := by decide +kernel
theorem dX12_meter_24 : decode cX12_meter 24 = .ok (.iload_n 1, 1) := by decide +kernel
theorem dX12_meter_25 : decode cX12_meter 25 = .ok (.if_icmp .ge 12, 3) := by decide +kernel
theorem dX12_meter_28 : decode cX12_meter 28 = .ok (.aload_n 0, 1) := by decide +kernel
theorem dX12_meter_29 : decode cX12_meter 29 = .ok (.getfield 144, 3) := by decide +kernel
theorem dX12_meter_32 : decode cX12_meter 32 = .ok (.bipush 48, 2) := by decide +kernel
theorem dX12_meter_34 : decode cX12_meter 34 = .ok (.if_icmp .ge 6, 3) := by decide +kernel
theorem dX12_meter_37 : decode cX12_meter 37 = .ok (.bipush (-3), 2) := by decide +kernel
theorem dX12_meter_39 : decode cX12_meter 39 = .ok (.ireturn, 1) := by decide +kernel
theorem dX12_meter_40 : decode cX12_meter 40 = .ok (.aload_n 0, 1) := by decide +kernel
theorem dX12_meter_41 : decode cX12_meter 41 = .ok (.iconst 0, 1) := by decide +kernel
theorem dX12_meter_42 : decode cX12_meter 42 = .ok (.putfield 144, 3) := by decide +kernel
theorem dX12_meter_45 : decode cX12_meter 45 = .ok (.iconst 0, 1) := by decide +kernel
theorem dX12_meter_46 : decode cX12_meter 46 = .ok (.istore_n 3, 1) := by decide +kernel
theorem dX12_meter_47 : decode cX12_meter 47 = .ok (.iload_n 3, 1) := by decide +kernel
theorem dX12_meter_48 : decode cX12_meter 48 = .ok (.bipush 24, 2) := by decide +kernel
theorem dX12_meter_50 : decode cX12_meter 50 = .ok (.if_icmp .ge 45, 3) := by decide +kernel
theorem dX12_meter_53 : decode cX12_meter 53 = .ok (.aload_n 0, 1) := by decide +kernel
theorem dX12_meter_54 : decode cX12_meter 54 = .ok (.getfield 116, 3) := by decide +kernel
theorem dX12_meter_57 : decode cX12_meter 57 = .ok (.iload_n 3, 1) := by decide +kernel
theorem dX12_meter_58 : decode cX12_meter 58 = .ok (.aload_n 0, 1) := by decide +kernel
theorem dX12_meter_59 : decode cX12_meter 59 = .ok (.getfield 7, 3) := by decide +kernel
theorem dX12_meter_62 : decode cX12_meter 62 = .ok (.iconst 2, 1) := by decide +kernel
theorem dX12_meter_63 : decode cX12_meter 63 = .ok (.iload_n 3, 1) := by decide +kernel
theorem dX12_meter_64 : decode cX12_meter 64 = .ok (.imul, 1) := by decide +kernel
theorem dX12_meter_65 : decode cX12_meter 65 = .ok (.baload, 1) := by decide +kernel
theorem dX12_meter_66 : decode cX12_meter 66 = .ok (.sipush 255, 3) := by decide +kernel
theorem dX12_meter_69 : decode cX12_meter 69 = .ok (.iand, 1) := by decide +kernel
theorem dX12_meter_70 : decode cX12_meter 70 = .ok (.bipush 8, 2) := by decide +kernel
theorem dX12_meter_72 : decode cX12_meter 72 = .ok (.ishl, 1) := by decide +kernel
theorem dX12_meter_73 : decode cX12_meter 73 = .ok (.aload_n 0, 1) := by decide +kernel
theorem dX12_meter_74 : decode cX12_meter 74 = .ok (.getfield 7, 3) := by decide +kernel
theorem dX12_meter_77 : decode cX12_meter 77 = .ok (.iconst 2, 1) := by decide +kernel
theorem dX12_meter_78 : decode cX12_meter 78 = .ok (.iload_n 3, 1) := by decide +kernel
theorem dX12_meter_79 : decode cX12_meter 79 = .ok (.imul, 1) := by decide +kernel
theorem dX12_meter_80 : decode cX12_meter 80 = .ok (.iconst 1, 1) := by decide +kernel
theorem dX12_meter_81 : decode cX12_meter 81 = .ok (.iadd, 1) := by decide +kernel
theorem dX12_meter_82 : decode cX12_meter 82 = .ok (.baload, 1) := by decide +kernel
theorem dX12_meter_83 : decode cX12_meter 83 = .ok (.sipush 255, 3) := by decide +kernel
theorem dX12_meter_86 : decode cX12_meter 86 = .ok (.iand, 1) := by decide +kernel
theorem dX12_meter_87 : decode cX12_meter 87 = .ok (.ior, 1) := by decide +kernel
theorem dX12_meter_88 : decode cX12_meter 88 = .ok (.iastore, 1) := by decide +kernel
theorem dX12_meter_89 : decode cX12_meter 89 = .ok (.iinc 3 1, 3) := by decide +kernel
theorem dX12_meter_92 : decode cX12_meter 92 = .ok (.goto (-45), 3) := by decide +kernel
theorem dX12_meter_95 : decode cX12_meter 95 = .ok (.iload_n 1, 1) := by decide +kernel
theorem dX12_meter_96 : decode cX12_meter 96 = .ok (.iconst 1, 1) := by decide +kernel
theorem dX12_meter_97 : decode cX12_meter 97 = .ok (.if_icmp .ne 8, 3) := by decide +kernel
theorem dX12_meter_100 : decode cX12_meter 100 = .ok (.bipush 12, 2) := by decide +kernel
theorem dX12_meter_102 : decode cX12_meter 102 = .ok (.goto 17, 3) := by decide +kernel
theorem dX12_meter_105 : decode cX12_meter 105 = .ok (.iload_n 1, 1) := by decide +kernel
theorem dX12_meter_106 : decode cX12_meter 106 = .ok (.iconst 2, 1) := by decide +kernel
theorem dX12_meter_107 : decode cX12_meter 107 = .ok (.if_icmp .ne 9, 3) := by decide +kernel
theorem dX12_meter_110 : decode cX12_meter 110 = .ok (.sipush 144, 3) := by decide +kernel
theorem dX12_meter_113 : decode cX12_meter 113 = .ok (.goto 6, 3) := by decide +kernel
theorem dX12_meter_116 : decode cX12_meter 116 = .ok (.sipush 1728, 3) := by decide +kernel
theorem dX12_meter_119 : decode cX12_meter 119 = .ok (.istore_n 3, 1) := by decide +kernel
theorem dX12_meter_120 : decode cX12_meter 120 = .ok (.iconst 0, 1) := by decide +kernel
theorem dX12_meter_121 : decode cX12_meter 121 = .ok (.istore 4, 2) := by decide +kernel
theorem dX12_meter_123 : decode cX12_meter 123 = .ok (.sipush 4095, 3) := by decide +kernel
theorem dX12_meter_126 : decode cX12_meter 126 = .ok (.istore 5, 2) := by decide +kernel
theorem dX12_meter_128 : decode cX12_meter 128 = .ok (.iconst 0, 1) := by decide +kernel
theorem dX12_meter_129 : decode cX12_meter 129 = .ok (.istore 6, 2) := by decide +kernel
theorem dX12_meter_131 : decode cX12_meter 131 = .ok (.iload 6, 2) := by decide +kernel
theorem dX12_meter_133 : decode cX12_meter 133 = .ok (.iload_n 3, 1) := by decide +kernel
theorem dX12_meter_134 : decode cX12_meter 134 = .ok (.if_icmp .ge 101, 3) := by decide +kernel
theorem dX12_meter_137 : decode cX12_meter 137 = .ok (.aload_n 0, 1) := by decide +kernel
theorem dX12_meter_138 : decode cX12_meter 138 = .ok (.iload_n 1, 1) := by decide +kernel
theorem dX12_meter_139 : decode cX12_meter 139 = .ok (.iload 6, 2) := by decide +kernel
theorem dX12_meter_141 : decode cX12_meter 141 = .ok (.invokevirtual 433, 3) := by decide +kernel
theorem dX12_meter_144 : decode cX12_meter 144 = .ok (.ifCond .ne 6, 3) := by decide +kernel
theorem dX12_meter_147 : decode cX12_meter 147 = .ok (.goto 82, 3) := by decide +kernel
theorem dX12_meter_150 : decode cX12_meter 150 = .ok (.iconst 0, 1) := by decide +kernel
theorem dX12_meter_151 : decode cX12_meter 151 = .ok (.istore 7, 2) := by decide +kernel
theorem dX12_meter_153 : decode cX12_meter 153 = .ok (.iconst 0, 1) := by decide +kernel
theorem dX12_meter_154 : decode cX12_meter 154 = .ok (.istore 8, 2) := by decide +kernel
theorem dX12_meter_156 : decode cX12_meter 156 = .ok (.iload 8, 2) := by decide +kernel
theorem dX12_meter_158 : decode cX12_meter 158 = .ok (.iload_n 1, 1) := by decide +kernel
theorem dX12_meter_159 : decode cX12_meter 159 = .ok (.if_icmp .ge 23, 3) := by decide +kernel
theorem dX12_meter_162 : decode cX12_meter 162 = .ok (.iload 7, 2) := by decide +kernel
theorem dX12_meter_164 : decode cX12_meter 164 = .ok (.iconst 1, 1) := by decide +kernel
theorem dX12_meter_165 : decode cX12_meter 165 = .ok (.aload_n 0, 1) := by decide +kernel
theorem dX12_meter_166 : decode cX12_meter 166 = .ok (.getfield 119, 3) := by decide +kernel
theorem dX12_meter_169 : decode cX12_meter 169 = .ok (.iload 8, 2) := by decide +kernel
theorem dX12_meter_171 : decode cX12_meter 171 = .ok (.iaload, 1) := by decide +kernel
theorem dX12_meter_172 : decode cX12_meter 172 = .ok (.ishl, 1) := by decide +kernel
theorem dX12_meter_173 : decode cX12_meter 173 = .ok (.ior, 1) := by decide +kernel
theorem dX12_meter_174 : decode cX12_meter 174 = .ok (.istore 7, 2) := by decide +kernel
theorem dX12_meter_176 : decode cX12_meter 176 = .ok (.iinc 8 1, 3) := by decide +kernel
theorem dX12_meter_179 : decode cX12_meter 179 = .ok (.goto (-23), 3) := by decide +kernel
theorem dX12_meter_182 : decode cX12_meter 182 = .ok (.iconst 0, 1) := by decide +kernel
theorem dX12_meter_183 : decode cX12_meter 183 = .ok (.istore 8, 2) := by decide +kernel
theorem dX12_meter_185 : decode cX12_meter 185 = .ok (.iload 8, 2) := by decide +kernel
theorem dX12_meter_187 : decode cX12_meter 187 = .ok (.iload_n 1, 1) := by decide +kernel
theorem dX12_meter_188 : decode cX12_meter 188 = .ok (.if_icmp .ge 28, 3) := by decide +kernel
theorem dX12_meter_191 : decode cX12_meter 191 = .ok (.iload 4, 2) := by decide +kernel
theorem dX12_meter_193 : decode cX12_meter 193 = .ok (.ifCond .ne 23, 3) := by decide +kernel
theorem dX12_meter_196 : decode cX12_meter 196 = .ok (.aload_n 0, 1) := by decide +kernel
theorem dX12_meter_197 : decode cX12_meter 197 = .ok (.getfield 122, 3) := by decide +kernel
theorem dX12_meter_200 : decode cX12_meter 200 = .ok (.iload 8, 2) := by decide +kernel
theorem dX12_meter_202 : decode cX12_meter 202 = .ok (.aload_n 0, 1) := by decide +kernel
theorem dX12_meter_203 : decode cX12_meter 203 = .ok (.getfield 119, 3) := by decide +kernel
theorem dX12_meter_206 : decode cX12_meter 206 = .ok (.iload 8, 2) := by decide +kernel
theorem dX12_meter_208 : decode cX12_meter 208 = .ok (.iaload, 1) := by decide +kernel
theorem dX12_meter_209 : decode cX12_meter 209 = .ok (.iastore, 1) := by decide +kernel
theorem dX12_meter_210 : decode cX12_meter 210 = .ok (.iinc 8 1, 3) := by decide +kernel
theorem dX12_meter_213 : decode cX12_meter 213 = .ok (.goto (-28), 3) := by decide +kernel
theorem dX12_meter_216 : decode cX12_meter 216 = .ok (.iload 5, 2) := by decide +kernel
theorem dX12_meter_218 : decode cX12_meter 218 = .ok (.iload 7, 2) := by decide +kernel
theorem dX12_meter_220 : decode cX12_meter 220 = .ok (.iand, 1) := by decide +kernel
theorem dX12_meter_221 : decode cX12_meter 221 = .ok (.istore 5, 2) := by decide +kernel
theorem dX12_meter_223 : decode cX12_meter 223 = .ok (.iload 4, 2) := by decide +kernel
theorem dX12_meter_225 : decode cX12_meter 225 = .ok (.iconst 1, 1) := by decide +kernel
theorem dX12_meter_226 : decode cX12_meter 226 = .ok (.iadd, 1) := by decide +kernel
theorem dX12_meter_227 : decode cX12_meter 227 = .ok (.istore 4, 2) := by decide +kernel
theorem dX12_meter_229 : decode cX12_meter 229 = .ok (.iinc 6 1, 3) := by decide +kernel
theorem dX12_meter_232 : decode cX12_meter 232 = .ok (.goto (-101), 3) := by decide +kernel
theorem dX12_meter_235 : decode cX12_meter 235 = .ok (.iload_n 2, 1) := by decide +kernel
theorem dX12_meter_236 : decode cX12_meter 236 = .ok (.iconst (-1), 1) := by decide +kernel
theorem dX12_meter_237 : decode cX12_meter 237 = .ok (.if_icmp .ne 8, 3) := by decide +kernel
theorem dX12_meter_240 : decode cX12_meter 240 = .ok (.iload 4, 2) := by decide +kernel
theorem dX12_meter_242 : decode cX12_meter 242 = .ok (.goto 29, 3) := by decide +kernel
theorem dX12_meter_245 : decode cX12_meter 245 = .ok (.iload 4, 2) := by decide +kernel
theorem dX12_meter_247 : decode cX12_meter 247 = .ok (.ifCond .ne 8, 3) := by decide +kernel
theorem dX12_meter_250 : decode cX12_meter 250 = .ok (.bipush (-2), 2) := by decide +kernel
theorem dX12_meter_252 : decode cX12_meter 252 = .ok (.goto 19, 3) := by decide +kernel
theorem dX12_meter_255 : decode cX12_meter 255 = .ok (.iload_n 2, 1) := by decide +kernel
theorem dX12_meter_256 : decode cX12_meter 256 = .ok (.iconst 3, 1) := by decide +kernel
theorem dX12_meter_257 : decode cX12_meter 257 = .ok (.if_icmp .ne 8, 3) := by decide +kernel
theorem dX12_meter_260 : decode cX12_meter 260 = .ok (.iload 5, 2) := by decide +kernel
theorem dX12_meter_262 : decode cX12_meter 262 = .ok (.goto 9, 3) := by decide +kernel
theorem dX12_meter_265 : decode cX12_meter 265 = .ok (.aload_n 0, 1) := by decide +kernel
theorem dX12_meter_266 : decode cX12_meter 266 = .ok (.getfield 122, 3) := by decide +kernel
theorem dX12_meter_269 : decode cX12_meter 269 = .ok (.iload_n 2, 1) := by decide +kernel
theorem dX12_meter_270 : decode cX12_meter 270 = .ok (.iaload, 1) := by decide +kernel
theorem dX12_meter_271 : decode cX12_meter 271 = .ok (.ireturn, 1) := by decide +kernel
theorem dX12_seed_0 : decode cX12_seed 0 = .ok (.iload_n 1, 1) := by decide +kernel
theorem dX12_seed_1 : decode cX12_seed 1 = .ok (.iconst 0, 1) := by decide +kernel
theorem dX12_seed_2 : decode cX12_seed 2 = .ok (.ldc_w 436, 3) := by decide +kernel
theorem dX12_seed_5 : decode cX12_seed 5 = .ok (.invokestatic 169, 3) := by decide +kernel
theorem dX12_seed_8 : decode cX12_seed 8 = .ok (.ifCond .ne 5, 3) := by decide +kernel
theorem dX12_seed_11 : decode cX12_seed 11 = .ok (.iconst 0, 1) := by decide +kernel
theorem dX12_seed_12 : decode cX12_seed 12 = .ok (.ireturn, 1) := by decide +kernel
theorem dX12_seed_13 : decode cX12_seed 13 = .ok (.aload_n 0, 1) := by decide +kernel
theorem dX12_seed_14 : decode cX12_seed 14 = .ok (.iload_n 1, 1) := by decide +kernel
theorem dX12_seed_15 : decode cX12_seed 15 = .ok (.putfield 137, 3) := by decide +kernel
theorem dX12_seed_18 : decode cX12_seed 18 = .ok (.iconst 1, 1) := by decide +kernel
theorem dX12_seed_19 : decode cX12_seed 19 = .ok (.ireturn, 1) := by decide +kernel
theorem dX12_draw_0 : decode cX12_draw 0 = .ok (.iload_n 1, 1) := by decide +kernel
theorem dX12_draw_1 : decode cX12_draw 1 = .ok (.iconst 1, 1) := by decide +kernel
theorem dX12_draw_2 : decode cX12_draw 2 = .ok (.bipush 20, 2) := by decide +kernel
theorem dX12_draw_4 : decode cX12_draw 4 = .ok (.invokestatic 169, 3) := by decide +kernel
theorem dX12_draw_7 : decode cX12_draw 7 = .ok (.ifCond .ne 5, 3) := by decide +kernel
theorem dX12_draw_10 : decode cX12_draw 10 = .ok (.iconst (-1), 1) := by decide +kernel
theorem dX12_draw_11 : decode cX12_draw 11 = .ok (.ireturn, 1) := by decide +kernel
theorem dX12_draw_12 : decode cX12_draw 12 = .ok (.iconst 0, 1) := by decide +kernel
theorem dX12_draw_13 : decode cX12_draw 13 = .ok (.istore_n 2, 1) := by decide +kernel
theorem dX12_draw_14 : decode cX12_draw 14 = .ok (.iload_n 2, 1) := by decide +kernel
theorem dX12_draw_15 : decode cX12_draw 15 = .ok (.iload_n 1, 1) := by decide +kernel
theorem dX12_draw_16 : decode cX12_draw 16 = .ok (.if_icmp .ge 74, 3) := by decide +kernel
theorem dX12_draw_19 : decode cX12_draw 19 = .ok (.aload_n 0, 1) := by decide +kernel
theorem dX12_draw_20 : decode cX12_draw 20 = .ok (.sipush 25173, 3) := by decide +kernel
theorem dX12_draw_23 : decode cX12_draw 23 = .ok (.aload_n 0, 1) := by decide +kernel
theorem dX12_draw_24 : decode cX12_draw 24 = .ok (.getfield 137, 3) := by decide +kernel
theorem dX12_draw_27 : decode cX12_draw 27 = .ok (.imul, 1) := by decide +kernel
theorem dX12_draw_28 : decode cX12_draw 28 = .ok (.sipush 13849, 3) := by decide +kernel
theorem dX12_draw_31 : decode cX12_draw 31 = .ok (.iadd, 1) := by decide +kernel
theorem dX12_draw_32 : decode cX12_draw 32 = .ok (.ldc_w 437, 3) := by decide +kernel
theorem dX12_draw_35 : decode cX12_draw 35 = .ok (.irem, 1) := by decide +kernel
theorem dX12_draw_36 : decode cX12_draw 36 = .ok (.putfield 137, 3) := by decide +kernel
theorem dX12_draw_39 : decode cX12_draw 39 = .ok (.aload_n 0, 1) := by decide +kernel
theorem dX12_draw_40 : decode cX12_draw 40 = .ok (.getfield 137, 3) := by decide +kernel
theorem dX12_draw_43 : decode cX12_draw 43 = .ok (.bipush 10, 2) := by decide +kernel
theorem dX12_draw_45 : decode cX12_draw 45 = .ok (.irem, 1) := by decide +kernel
theorem dX12_draw_46 : decode cX12_draw 46 = .ok (.istore_n 3, 1) := by decide +kernel
theorem dX12_draw_47 : decode cX12_draw 47 = .ok (.aload_n 0, 1) := by decide +kernel
theorem dX12_draw_48 : decode cX12_draw 48 = .ok (.getfield 137, 3) := by decide +kernel
theorem dX12_draw_51 : decode cX12_draw 51 = .ok (.bipush 10, 2) := by decide +kernel
theorem dX12_draw_53 : decode cX12_draw 53 = .ok (.idiv, 1) := by decide +kernel
theorem dX12_draw_54 : decode cX12_draw 54 = .ok (.bipush 12, 2) := by decide +kernel
theorem dX12_draw_56 : decode cX12_draw 56 = .ok (.irem, 1) := by decide +kernel
theorem dX12_draw_57 : decode cX12_draw 57 = .ok (.istore 4, 2) := by decide +kernel
theorem dX12_draw_59 : decode cX12_draw 59 = .ok (.aload_n 0, 1) := by decide +kernel
theorem dX12_draw_60 : decode cX12_draw 60 = .ok (.iload_n 3, 1) := by decide +kernel
theorem dX12_draw_61 : decode cX12_draw 61 = .ok (.invokevirtual 220, 3) := by decide +kernel
theorem dX12_draw_64 : decode cX12_draw 64 = .ok (.ifCond .eq 20, 3) := by decide +kernel
theorem dX12_draw_67 : decode cX12_draw 67 = .ok (.aload_n 0, 1) := by decide +kernel
theorem dX12_draw_68 : decode cX12_draw 68 = .ok (.iload 4, 2) := by decide +kernel
theorem dX12_draw_70 : decode cX12_draw 70 = .ok (.invokevirtual 202, 3) := by decide +kernel
theorem dX12_draw_73 : decode cX12_draw 73 = .ok (.ifCond .eq 11, 3) := by decide +kernel
theorem dX12_draw_76 : decode cX12_draw 76 = .ok (.aload_n 0, 1) := by decide +kernel
theorem dX12_draw_77 : decode cX12_draw 77 = .ok (.getfield 35, 3) := by decide +kernel
theorem dX12_draw_80 : decode cX12_draw 80 = .ok (.iload_n 3, 1) := by decide +kernel
theorem dX12_draw_81 : decode cX12_draw 81 = .ok (.iload 4, 2) := by decide +kernel
theorem dX12_draw_83 : decode cX12_draw 83 = .ok (.iastore, 1) := by decide +kernel
theorem dX12_draw_84 : decode cX12_draw 84 = .ok (.iinc 2 1, 3) := by decide +kernel
theorem dX12_draw_87 : decode cX12_draw 87 = .ok (.goto (-73), 3) := by decide +kernel
theorem dX12_draw_90 : decode cX12_draw 90 = .ok (.aload_n 0, 1) := by decide +kernel
theorem dX12_draw_91 : decode cX12_draw 91 = .ok (.invokevirtual 344, 3) := by decide +kernel
theorem dX12_draw_94 : decode cX12_draw 94 = .ok (.aload_n 0, 1) := by decide +kernel
theorem dX12_draw_95 : decode cX12_draw 95 = .ok (.getfield 328, 3) := by decide +kernel
theorem dX12_draw_98 : decode cX12_draw 98 = .ok (.ireturn, 1) := by decide +kernel
theorem dX12_copies_0 : decode cX12_copies 0 = .ok (.iconst 0, 1) := by decide +kernel
theorem dX12_copies_1 : decode cX12_copies 1 = .ok (.istore_n 2, 1) := by decide +kernel
theorem dX12_copies_2 : decode cX12_copies 2 = .ok (.iload_n 2, 1) := by decide +kernel
theorem dX12_copies_3 : decode cX12_copies 3 = .ok (.bipush 10, 2) := by decide +kernel
theorem dX12_copies_5 : decode cX12_copies 5 = .ok (.if_icmp .ge 15, 3) := by decide +kernel
theorem dX12_copies_8 : decode cX12_copies 8 = .ok (.aload_n 1, 1) := by decide +kernel
theorem dX12_copies_9 : decode cX12_copies 9 = .ok (.iload_n 2, 1) := by decide +kernel
theorem dX12_copies_10 : decode cX12_copies 10 = .ok (.aload_n 0, 1) := by decide +kernel
theorem dX12_copies_11 : decode cX12_copies 11 = .ok (.iload_n 2, 1) := by decide +kernel
theorem dX12_copies_12 : decode cX12_copies 12 = .ok (.iaload, 1) := by decide +kernel
theorem dX12_copies_13 : decode cX12_copies 13 = .ok (.iastore, 1) := by decide +kernel
theorem dX12_copies_14 : decode cX12_copies 14 = .ok (.iinc 2 1, 3) := by decide +kernel
theorem dX12_copies_17 : decode cX12_copies 17 = .ok (.goto (-15), 3) := by decide +kernel
theorem dX12_copies_20 : decode cX12_copies 20 = .ok (.return_, 1) := by decide +kernel
theorem dX12_keep_0 : decode cX12_keep 0 = .ok (.aload_n 0, 1) := by decide +kernel
theorem dX12_keep_1 : decode cX12_keep 1 = .ok (.iconst 1, 1) := by decide +kernel
theorem dX12_keep_2 : decode cX12_keep 2 = .ok (.putfield 438, 3) := by decide +kernel
theorem dX12_keep_5 : decode cX12_keep 5 = .ok (.aload_n 0, 1) := by decide +kernel
theorem dX12_keep_6 : decode cX12_keep 6 = .ok (.aload_n 0, 1) := by decide +kernel
theorem dX12_keep_7 : decode cX12_keep 7 = .ok (.getfield 217, 3) := by decide +kernel
theorem dX12_keep_10 : decode cX12_keep 10 = .ok (.putfield 442, 3) := by decide +kernel
theorem dX12_keep_13 : decode cX12_keep 13 = .ok (.aload_n 0, 1) := by decide +kernel
theorem dX12_keep_14 : decode cX12_keep 14 = .ok (.aload_n 0, 1) := by decide +kernel
theorem dX12_keep_15 : decode cX12_keep 15 = .ok (.getfield 137, 3) := by decide +kernel
theorem dX12_keep_18 : decode cX12_keep 18 = .ok (.putfield 445, 3) := by decide +kernel
theorem dX12_keep_21 : decode cX12_keep 21 = .ok (.aload_n 0, 1) := by decide +kernel
theorem dX12_keep_22 : decode cX12_keep 22 = .ok (.getfield 32, 3) := by decide +kernel
theorem dX12_keep_25 : decode cX12_keep 25 = .ok (.aload_n 0, 1) := by decide +kernel
theorem dX12_keep_26 : decode cX12_keep 26 = .ok (.getfield 125, 3) := by decide +kernel
theorem dX12_keep_29 : decode cX12_keep 29 = .ok (.invokestatic 448, 3) := by decide +kernel
theorem dX12_keep_32 : decode cX12_keep 32 = .ok (.aload_n 0, 1) := by decide +kernel
theorem dX12_keep_33 : decode cX12_keep 33 = .ok (.getfield 35, 3) := by decide +kernel
theorem dX12_keep_36 : decode cX12_keep 36 = .ok (.aload_n 0, 1) := by decide +kernel
theorem dX12_keep_37 : decode cX12_keep 37 = .ok (.getfield 128, 3) := by decide +kernel
theorem dX12_keep_40 : decode cX12_keep 40 = .ok (.invokestatic 448, 3) := by decide +kernel
theorem dX12_keep_43 : decode cX12_keep 43 = .ok (.aload_n 0, 1) := by decide +kernel
theorem dX12_keep_44 : decode cX12_keep 44 = .ok (.getfield 38, 3) := by decide +kernel
theorem dX12_keep_47 : decode cX12_keep 47 = .ok (.aload_n 0, 1) := by decide +kernel
theorem dX12_keep_48 : decode cX12_keep 48 = .ok (.getfield 131, 3) := by decide +kernel
theorem dX12_keep_51 : decode cX12_keep 51 = .ok (.invokestatic 448, 3) := by decide +kernel
theorem dX12_keep_54 : decode cX12_keep 54 = .ok (.aload_n 0, 1) := by decide +kernel
theorem dX12_keep_55 : decode cX12_keep 55 = .ok (.getfield 41, 3) := by decide +kernel
theorem dX12_keep_58 : decode cX12_keep 58 = .ok (.aload_n 0, 1) := by decide +kernel
theorem dX12_keep_59 : decode cX12_keep 59 = .ok (.getfield 134, 3) := by decide +kernel
theorem dX12_keep_62 : decode cX12_keep 62 = .ok (.invokestatic 448, 3) := by decide +kernel
theorem dX12_keep_65 : decode cX12_keep 65 = .ok (.aload_n 0, 1) := by decide +kernel
theorem dX12_keep_66 : decode cX12_keep 66 = .ok (.getfield 217, 3) := by decide +kernel
theorem dX12_keep_69 : decode cX12_keep 69 = .ok (.invokestatic 367, 3) := by decide +kernel
theorem dX12_keep_72 : decode cX12_keep 72 = .ok (.ireturn, 1) := by decide +kernel
theorem dX12_undo_0 : decode cX12_undo 0 = .ok (.aload_n 0, 1) := by decide +kernel
theorem dX12_undo_1 : decode cX12_undo 1 = .ok (.getfield 438, 3) := by decide +kernel
theorem dX12_undo_4 : decode cX12_undo 4 = .ok (.ifCond .ne 5, 3) := by decide +kernel
theorem dX12_undo_7 : decode cX12_undo 7 = .ok (.iconst 0, 1) := by decide +kernel
theorem dX12_undo_8 : decode cX12_undo 8 = .ok (.ireturn, 1) := by decide +kernel
theorem dX12_undo_9 : decode cX12_undo 9 = .ok (.aload_n 0, 1) := by decide +kernel
theorem dX12_undo_10 : decode cX12_undo 10 = .ok (.aload_n 0, 1) := by decide +kernel
theorem dX12_undo_11 : decode cX12_undo 11 = .ok (.getfield 442, 3) := by decide +kernel
theorem dX12_undo_14 : decode cX12_undo 14 = .ok (.putfield 217, 3) := by decide +kernel
theorem dX12_undo_17 : decode cX12_undo 17 = .ok (.aload_n 0, 1) := by decide +kernel
theorem dX12_undo_18 : decode cX12_undo 18 = .ok (.aload_n 0, 1) := by decide +kernel
theorem dX12_undo_19 : decode cX12_undo 19 = .ok (.getfield 445, 3) := by decide +kernel
theorem dX12_undo_22 : decode cX12_undo 22 = .ok (.putfield 137, 3) := by decide +kernel
theorem dX12_undo_25 : decode cX12_undo 25 = .ok (.aload_n 0, 1) := by decide +kernel
theorem dX12_undo_26 : decode cX12_undo 26 = .ok (.getfield 125, 3) := by decide +kernel
theorem dX12_undo_29 : decode cX12_undo 29 = .ok (.aload_n 0, 1) := by decide +kernel
theorem dX12_undo_30 : decode cX12_undo 30 = .ok (.getfield 32, 3) := by decide +kernel
theorem dX12_undo_33 : decode cX12_undo 33 = .ok (.invokestatic 448, 3) := by decide +kernel
theorem dX12_undo_36 : decode cX12_undo 36 = .ok (.aload_n 0, 1) := by decide +kernel
theorem dX12_undo_37 : decode cX12_undo 37 = .ok (.getfield 128, 3) := by decide +kernel
theorem dX12_undo_40 : decode cX12_undo 40 = .ok (.aload_n 0, 1) := by decide +kernel
theorem dX12_undo_41 : decode cX12_undo 41 = .ok (.getfield 35, 3) := by decide +kernel
theorem dX12_undo_44 : decode cX12_undo 44 = .ok (.invokestatic 448, 3) := by decide +kernel
theorem dX12_undo_47 : decode cX12_undo 47 = .ok (.aload_n 0, 1) := by decide +kernel
theorem dX12_undo_48 : decode cX12_undo 48 = .ok (.getfield 131, 3) := by decide +kernel
theorem dX12_undo_51 : decode cX12_undo 51 = .ok (.aload_n 0, 1) := by decide +kernel
theorem dX12_undo_52 : decode cX12_undo 52 = .ok (.getfield 38, 3) := by decide +kernel
theorem dX12_undo_55 : decode cX12_undo 55 = .ok (.invokestatic 448, 3) := by decide +kernel
theorem dX12_undo_58 : decode cX12_undo 58 = .ok (.aload_n 0, 1) := by decide +kernel
theorem dX12_undo_59 : decode cX12_undo 59 = .ok (.getfield 134, 3) := by decide +kernel
theorem dX12_undo_62 : decode cX12_undo 62 = .ok (.aload_n 0, 1) := by decide +kernel
theorem dX12_undo_63 : decode cX12_undo 63 = .ok (.getfield 41, 3) := by decide +kernel
theorem dX12_undo_66 : decode cX12_undo 66 = .ok (.invokestatic 448, 3) := by decide +kernel
theorem dX12_undo_69 : decode cX12_undo 69 = .ok (.iconst 1, 1) := by decide +kernel
theorem dX12_undo_70 : decode cX12_undo 70 = .ok (.ireturn, 1) := by decide +kernel
theorem dX12_tapeNumber_0 : decode cX12_tapeNumber 0 = .ok (.iconst 0, 1) := by decide +kernel
theorem dX12_tapeNumber_1 : decode cX12_tapeNumber 1 = .ok (.istore_n 2, 1) := by decide +kernel
theorem dX12_tapeNumber_2 : decode cX12_tapeNumber 2 = .ok (.iconst 4, 1) := by decide +kernel
theorem dX12_tapeNumber_3 : decode cX12_tapeNumber 3 = .ok (.iload_n 1, 1) := by decide +kernel
theorem dX12_tapeNumber_4 : decode cX12_tapeNumber 4 = .ok (.imul, 1) := by decide +kernel
theorem dX12_tapeNumber_5 : decode cX12_tapeNumber 5 = .ok (.istore_n 3, 1) := by decide +kernel
theorem dX12_tapeNumber_6 : decode cX12_tapeNumber 6 = .ok (.iload_n 3, 1) := by decide +kernel
theorem dX12_tapeNumber_7 : decode cX12_tapeNumber 7 = .ok (.iconst 4, 1) := by decide +kernel
theorem dX12_tapeNumber_8 : decode cX12_tapeNumber 8 = .ok (.iload_n 1, 1) := by decide +kernel
theorem dX12_tapeNumber_9 : decode cX12_tapeNumber 9 = .ok (.imul, 1) := by decide +kernel
theorem dX12_tapeNumber_10 : decode cX12_tapeNumber 10 = .ok (.iconst 4, 1) := by decide +kernel
theorem dX12_tapeNumber_11 : decode cX12_tapeNumber 11 = .ok (.iadd, 1) := by decide +kernel
theorem dX12_tapeNumber_12 : decode cX12_tapeNumber 12 = .ok (.if_icmp .ge 25, 3) := by decide +kernel
theorem dX12_tapeNumber_15 : decode cX12_tapeNumber 15 = .ok (.iload_n 2, 1) := by decide +kernel
theorem dX12_tapeNumber_16 : decode cX12_tapeNumber 16 = .ok (.bipush 8, 2) := by decide +kernel
theorem dX12_tapeNumber_18 : decode cX12_tapeNumber 18 = .ok (.ishl, 1) := by decide +kernel
theorem dX12_tapeNumber_19 : decode cX12_tapeNumber 19 = .ok (.aload_n 0, 1) := by decide +kernel
theorem dX12_tapeNumber_20 : decode cX12_tapeNumber 20 = .ok (.getfield 7, 3) := by decide +kernel
theorem dX12_tapeNumber_23 : decode cX12_tapeNumber 23 = .ok (.iload_n 3, 1) := by decide +kernel
theorem dX12_tapeNumber_24 : decode cX12_tapeNumber 24 = .ok (.baload, 1) := by decide +kernel
theorem dX12_tapeNumber_25 : decode cX12_tapeNumber 25 = .ok (.sipush 255, 3) := by decide +kernel
theorem dX12_tapeNumber_28 : decode cX12_tapeNumber 28 = .ok (.iand, 1) := by decide +kernel
theorem dX12_tapeNumber_29 : decode cX12_tapeNumber 29 = .ok (.ior, 1) := by decide +kernel
theorem dX12_tapeNumber_30 : decode cX12_tapeNumber 30 = .ok (.istore_n 2, 1) := by decide +kernel
theorem dX12_tapeNumber_31 : decode cX12_tapeNumber 31 = .ok (.iinc 3 1, 3) := by decide +kernel
theorem dX12_tapeNumber_34 : decode cX12_tapeNumber 34 = .ok (.goto (-28), 3) := by decide +kernel
theorem dX12_tapeNumber_37 : decode cX12_tapeNumber 37 = .ok (.iload_n 2, 1) := by decide +kernel
theorem dX12_tapeNumber_38 : decode cX12_tapeNumber 38 = .ok (.ireturn, 1) := by decide +kernel
theorem dX12_check_0 : decode cX12_check 0 = .ok (.aload_n 0, 1) := by decide +kernel
theorem dX12_check_1 : decode cX12_check 1 = .ok (.iload_n 1, 1) := by decide +kernel
theorem dX12_check_2 : decode cX12_check 2 = .ok (.invokevirtual 202, 3) := by decide +kernel
theorem dX12_check_5 : decode cX12_check 5 = .ok (.ifCond .eq 30, 3) := by decide +kernel
theorem dX12_check_8 : decode cX12_check 8 = .ok (.iload_n 2, 1) := by decide +kernel
theorem dX12_check_9 : decode cX12_check 9 = .ok (.invokestatic 205, 3) := by decide +kernel
theorem dX12_check_12 : decode cX12_check 12 = .ok (.ifCond .eq 23, 3) := by decide +kernel
theorem dX12_check_15 : decode cX12_check 15 = .ok (.iload_n 3, 1) := by decide +kernel
theorem dX12_check_16 : decode cX12_check 16 = .ok (.iconst 0, 1) := by decide +kernel
theorem dX12_check_17 : decode cX12_check 17 = .ok (.bipush 24, 2) := by decide +kernel
theorem dX12_check_19 : decode cX12_check 19 = .ok (.invokestatic 169, 3) := by decide +kernel
theorem dX12_check_22 : decode cX12_check 22 = .ok (.ifCond .eq 13, 3) := by decide +kernel
theorem dX12_check_25 : decode cX12_check 25 = .ok (.iload_n 3, 1) := by decide +kernel
theorem dX12_check_26 : decode cX12_check 26 = .ok (.aload_n 0, 1) := by decide +kernel
theorem dX12_check_27 : decode cX12_check 27 = .ok (.getfield 144, 3) := by decide +kernel
theorem dX12_check_30 : decode cX12_check 30 = .ok (.iconst 4, 1) := by decide +kernel
theorem dX12_check_31 : decode cX12_check 31 = .ok (.idiv, 1) := by decide +kernel
theorem dX12_check_32 : decode cX12_check 32 = .ok (.if_icmp .le 6, 3) := by decide +kernel
theorem dX12_check_35 : decode cX12_check 35 = .ok (.bipush (-2), 2) := by decide +kernel
theorem dX12_check_37 : decode cX12_check 37 = .ok (.ireturn, 1) := by decide +kernel
theorem dX12_check_38 : decode cX12_check 38 = .ok (.aload_n 0, 1) := by decide +kernel
theorem dX12_check_39 : decode cX12_check 39 = .ok (.iconst 0, 1) := by decide +kernel
theorem dX12_check_40 : decode cX12_check 40 = .ok (.putfield 144, 3) := by decide +kernel
theorem dX12_check_43 : decode cX12_check 43 = .ok (.iconst 0, 1) := by decide +kernel
theorem dX12_check_44 : decode cX12_check 44 = .ok (.istore 4, 2) := by decide +kernel
theorem dX12_check_46 : decode cX12_check 46 = .ok (.iload 4, 2) := by decide +kernel
theorem dX12_check_48 : decode cX12_check 48 = .ok (.iload_n 3, 1) := by decide +kernel
theorem dX12_check_49 : decode cX12_check 49 = .ok (.if_icmp .ge 38, 3) := by decide +kernel
theorem dX12_check_52 : decode cX12_check 52 = .ok (.aload_n 0, 1) := by decide +kernel
theorem dX12_check_53 : decode cX12_check 53 = .ok (.iload 4, 2) := by decide +kernel
theorem dX12_check_55 : decode cX12_check 55 = .ok (.invokevirtual 452, 3) := by decide +kernel
theorem dX12_check_58 : decode cX12_check 58 = .ok (.aload_n 0, 1) := by decide +kernel
theorem dX12_check_59 : decode cX12_check 59 = .ok (.getfield 13, 3) := by decide +kernel
theorem dX12_check_62 : decode cX12_check 62 = .ok (.bipush 72, 2) := by decide +kernel
theorem dX12_check_64 : decode cX12_check 64 = .ok (.iload_n 1, 1) := by decide +kernel
theorem dX12_check_65 : decode cX12_check 65 = .ok (.imul, 1) := by decide +kernel
theorem dX12_check_66 : decode cX12_check 66 = .ok (.bipush 24, 2) := by decide +kernel
theorem dX12_check_68 : decode cX12_check 68 = .ok (.iload_n 2, 1) := by decide +kernel
theorem dX12_check_69 : decode cX12_check 69 = .ok (.imul, 1) := by decide +kernel
theorem dX12_check_70 : decode cX12_check 70 = .ok (.iadd, 1) := by decide +kernel
theorem dX12_check_71 : decode cX12_check 71 = .ok (.iload 4, 2) := by decide +kernel
theorem dX12_check_73 : decode cX12_check 73 = .ok (.iadd, 1) := by decide +kernel
theorem dX12_check_74 : decode cX12_check 74 = .ok (.iaload, 1) := by decide +kernel
theorem dX12_check_75 : decode cX12_check 75 = .ok (.if_icmp .eq 6, 3) := by decide +kernel
theorem dX12_check_78 : decode cX12_check 78 = .ok (.iload 4, 2) := by decide +kernel
theorem dX12_check_80 : decode cX12_check 80 = .ok (.ireturn, 1) := by decide +kernel
theorem dX12_check_81 : decode cX12_check 81 = .ok (.iinc 4 1, 3) := by decide +kernel
theorem dX12_check_84 : decode cX12_check 84 = .ok (.goto (-38), 3) := by decide +kernel
theorem dX12_check_87 : decode cX12_check 87 = .ok (.iconst (-1), 1) := by decide +kernel
theorem dX12_check_88 : decode cX12_check 88 = .ok (.ireturn, 1) := by decide +kernel
theorem dX12_count_0 : decode cX12_count 0 = .ok (.iload_n 1, 1) := by decide +kernel
theorem dX12_count_1 : decode cX12_count 1 = .ok (.tableswitch 69 0 5 #[39, 44, 49, 54, 59, 64], 39) := by decide +kernel
theorem dX12_count_40 : decode cX12_count 40 = .ok (.aload_n 0, 1) := by decide +kernel
theorem dX12_count_41 : decode cX12_count 41 = .ok (.getfield 196, 3) := by decide +kernel
theorem dX12_count_44 : decode cX12_count 44 = .ok (.ireturn, 1) := by decide +kernel
theorem dX12_count_45 : decode cX12_count 45 = .ok (.aload_n 0, 1) := by decide +kernel
theorem dX12_count_46 : decode cX12_count 46 = .ok (.getfield 211, 3) := by decide +kernel
theorem dX12_count_49 : decode cX12_count 49 = .ok (.ireturn, 1) := by decide +kernel
theorem dX12_count_50 : decode cX12_count 50 = .ok (.aload_n 0, 1) := by decide +kernel
theorem dX12_count_51 : decode cX12_count 51 = .ok (.getfield 217, 3) := by decide +kernel
theorem dX12_count_54 : decode cX12_count 54 = .ok (.ireturn, 1) := by decide +kernel
theorem dX12_count_55 : decode cX12_count 55 = .ok (.aload_n 0, 1) := by decide +kernel
theorem dX12_count_56 : decode cX12_count 56 = .ok (.getfield 300, 3) := by decide +kernel
theorem dX12_count_59 : decode cX12_count 59 = .ok (.ireturn, 1) := by decide +kernel
theorem dX12_count_60 : decode cX12_count 60 = .ok (.aload_n 0, 1) := by decide +kernel
theorem dX12_count_61 : decode cX12_count 61 = .ok (.getfield 144, 3) := by decide +kernel
theorem dX12_count_64 : decode cX12_count 64 = .ok (.ireturn, 1) := by decide +kernel
theorem dX12_count_65 : decode cX12_count 65 = .ok (.aload_n 0, 1) := by decide +kernel
theorem dX12_count_66 : decode cX12_count 66 = .ok (.getfield 137, 3) := by decide +kernel
theorem dX12_count_69 : decode cX12_count 69 = .ok (.ireturn, 1) := by decide +kernel
theorem dX12_count_70 : decode cX12_count 70 = .ok (.iload_n 1, 1) := by decide +kernel
theorem dX12_count_71 : decode cX12_count 71 = .ok (.bipush 50, 2) := by decide +kernel
theorem dX12_count_73 : decode cX12_count 73 = .ok (.bipush 49, 2) := by decide +kernel
theorem dX12_count_75 : decode cX12_count 75 = .ok (.aload_n 0, 1) := by decide +kernel
theorem dX12_count_76 : decode cX12_count 76 = .ok (.getfield 211, 3) := by decide +kernel
theorem dX12_count_79 : decode cX12_count 79 = .ok (.iadd, 1) := by decide +kernel
theorem dX12_count_80 : decode cX12_count 80 = .ok (.invokestatic 169, 3) := by decide +kernel
theorem dX12_count_83 : decode cX12_count 83 = .ok (.ifCond .eq 13, 3) := by decide +kernel
theorem dX12_count_86 : decode cX12_count 86 = .ok (.aload_n 0, 1) := by decide +kernel
theorem dX12_count_87 : decode cX12_count 87 = .ok (.getfield 20, 3) := by decide +kernel
theorem dX12_count_90 : decode cX12_count 90 = .ok (.iload_n 1, 1) := by decide +kernel
theorem dX12_count_91 : decode cX12_count 91 = .ok (.bipush 50, 2) := by decide +kernel
theorem dX12_count_93 : decode cX12_count 93 = .ok (.isub, 1) := by decide +kernel
theorem dX12_count_94 : decode cX12_count 94 = .ok (.iaload, 1) := by decide +kernel
theorem dX12_count_95 : decode cX12_count 95 = .ok (.ireturn, 1) := by decide +kernel
theorem dX12_count_96 : decode cX12_count 96 = .ok (.iload_n 1, 1) := by decide +kernel
theorem dX12_count_97 : decode cX12_count 97 = .ok (.bipush 10, 2) := by decide +kernel
theorem dX12_count_99 : decode cX12_count 99 = .ok (.bipush 49, 2) := by decide +kernel
theorem dX12_count_101 : decode cX12_count 101 = .ok (.invokestatic 169, 3) := by decide +kernel
theorem dX12_count_104 : decode cX12_count 104 = .ok (.ifCond .eq 14, 3) := by decide +kernel
theorem dX12_count_107 : decode cX12_count 107 = .ok (.aload_n 0, 1) := by decide +kernel
theorem dX12_count_108 : decode cX12_count 108 = .ok (.iload_n 1, 1) := by decide +kernel
theorem dX12_count_109 : decode cX12_count 109 = .ok (.bipush 10, 2) := by decide +kernel
theorem dX12_count_111 : decode cX12_count 111 = .ok (.irem, 1) := by decide +kernel
theorem dX12_count_112 : decode cX12_count 112 = .ok (.invokevirtual 220, 3) := by decide +kernel
theorem dX12_count_115 : decode cX12_count 115 = .ok (.ifCond .ne 5, 3) := by decide +kernel
theorem dX12_count_118 : decode cX12_count 118 = .ok (.iconst (-1), 1) := by decide +kernel
theorem dX12_count_119 : decode cX12_count 119 = .ok (.ireturn, 1) := by decide +kernel
theorem dX12_count_120 : decode cX12_count 120 = .ok (.iload_n 1, 1) := by decide +kernel
theorem dX12_count_121 : decode cX12_count 121 = .ok (.bipush 20, 2) := by decide +kernel
theorem dX12_count_123 : decode cX12_count 123 = .ok (.if_icmp .ge 15, 3) := by decide +kernel
theorem dX12_count_126 : decode cX12_count 126 = .ok (.aload_n 0, 1) := by decide +kernel
theorem dX12_count_127 : decode cX12_count 127 = .ok (.getfield 32, 3) := by decide +kernel
theorem dX12_count_130 : decode cX12_count 130 = .ok (.iload_n 1, 1) := by decide +kernel
theorem dX12_count_131 : decode cX12_count 131 = .ok (.bipush 10, 2) := by decide +kernel
theorem dX12_count_133 : decode cX12_count 133 = .ok (.isub, 1) := by decide +kernel
theorem dX12_count_134 : decode cX12_count 134 = .ok (.iaload, 1) := by decide +kernel
theorem dX12_count_135 : decode cX12_count 135 = .ok (.goto 50, 3) := by decide +kernel
theorem dX12_count_138 : decode cX12_count 138 = .ok (.iload_n 1, 1) := by decide +kernel
theorem dX12_count_139 : decode cX12_count 139 = .ok (.bipush 30, 2) := by decide +kernel
theorem dX12_count_141 : decode cX12_count 141 = .ok (.if_icmp .ge 15, 3) := by decide +kernel
theorem dX12_count_144 : decode cX12_count 144 = .ok (.aload_n 0, 1) := by decide +kernel
theorem dX12_count_145 : decode cX12_count 145 = .ok (.getfield 35, 3) := by decide +kernel
theorem dX12_count_148 : decode cX12_count 148 = .ok (.iload_n 1, 1) := by decide +kernel
theorem dX12_count_149 : decode cX12_count 149 = .ok (.bipush 20, 2) := by decide +kernel
theorem dX12_count_151 : decode cX12_count 151 = .ok (.isub, 1) := by decide +kernel
theorem dX12_count_152 : decode cX12_count 152 = .ok (.iaload, 1) := by decide +kernel
theorem dX12_count_153 : decode cX12_count 153 = .ok (.goto 32, 3) := by decide +kernel
theorem dX12_count_156 : decode cX12_count 156 = .ok (.iload_n 1, 1) := by decide +kernel
theorem dX12_count_157 : decode cX12_count 157 = .ok (.bipush 40, 2) := by decide +kernel
theorem dX12_count_159 : decode cX12_count 159 = .ok (.if_icmp .ge 15, 3) := by decide +kernel
theorem dX12_count_162 : decode cX12_count 162 = .ok (.aload_n 0, 1) := by decide +kernel
theorem dX12_count_163 : decode cX12_count 163 = .ok (.getfield 38, 3) := by decide +kernel
theorem dX12_count_166 : decode cX12_count 166 = .ok (.iload_n 1, 1) := by decide +kernel
theorem dX12_count_167 : decode cX12_count 167 = .ok (.bipush 30, 2) := by decide +kernel
theorem dX12_count_169 : decode cX12_count 169 = .ok (.isub, 1) := by decide +kernel
theorem dX12_count_170 : decode cX12_count 170 = .ok (.iaload, 1) := by decide +kernel
theorem dX12_count_171 : decode cX12_count 171 = .ok (.goto 14, 3) := by decide +kernel
theorem dX12_count_174 : decode cX12_count 174 = .ok (.aload_n 0, 1) := by decide +kernel
theorem dX12_count_175 : decode cX12_count 175 = .ok (.getfield 41, 3) := by decide +kernel
theorem dX12_count_178 : decode cX12_count 178 = .ok (.iload_n 1, 1) := by decide +kernel
theorem dX12_count_179 : decode cX12_count 179 = .ok (.bipush 40, 2) := by decide +kernel
theorem dX12_count_181 : decode cX12_count 181 = .ok (.isub, 1) := by decide +kernel
theorem dX12_count_182 : decode cX12_count 182 = .ok (.iaload, 1) := by decide +kernel
theorem dX12_count_183 : decode cX12_count 183 = .ok (.iconst 3, 1) := by decide +kernel
theorem dX12_count_184 : decode cX12_count 184 = .ok (.iadd, 1) := by decide +kernel
theorem dX12_count_185 : decode cX12_count 185 = .ok (.ireturn, 1) := by decide +kernel
theorem dJ11_isValidCodePoint_9a6ad_0 : decode cJ11_isValidCodePoint_9a6ad 0 = .ok (.iload_n 0, 1) := by decide +kernel
theorem dJ11_isValidCodePoint_9a6ad_1 : decode cJ11_isValidCodePoint_9a6ad 1 = .ok (.bipush 16, 2) := by decide +kernel
theorem dJ11_isValidCodePoint_9a6ad_3 : decode cJ11_isValidCodePoint_9a6ad 3 = .ok (.iushr, 1) := by decide +kernel
theorem dJ11_isValidCodePoint_9a6ad_4 : decode cJ11_isValidCodePoint_9a6ad 4 = .ok (.istore_n 1, 1) := by decide +kernel
theorem dJ11_isValidCodePoint_9a6ad_5 : decode cJ11_isValidCodePoint_9a6ad 5 = .ok (.iload_n 1, 1) := by decide +kernel
theorem dJ11_isValidCodePoint_9a6ad_6 : decode cJ11_isValidCodePoint_9a6ad 6 = .ok (.bipush 17, 2) := by decide +kernel
theorem dJ11_isValidCodePoint_9a6ad_8 : decode cJ11_isValidCodePoint_9a6ad 8 = .ok (.if_icmp .ge 7, 3) := by decide +kernel
theorem dJ11_isValidCodePoint_9a6ad_11 : decode cJ11_isValidCodePoint_9a6ad 11 = .ok (.iconst 1, 1) := by decide +kernel
theorem dJ11_isValidCodePoint_9a6ad_12 : decode cJ11_isValidCodePoint_9a6ad 12 = .ok (.goto 4, 3) := by decide +kernel
theorem dJ11_isValidCodePoint_9a6ad_15 : decode cJ11_isValidCodePoint_9a6ad 15 = .ok (.iconst 0, 1) := by decide +kernel
theorem dJ11_isValidCodePoint_9a6ad_16 : decode cJ11_isValidCodePoint_9a6ad 16 = .ok (.ireturn, 1) := by decide +kernel
theorem dJ11_highSurrogate_5068e_0 : decode cJ11_highSurrogate_5068e 0 = .ok (.iload_n 0, 1) := by decide +kernel
theorem dJ11_highSurrogate_5068e_1 : decode cJ11_highSurrogate_5068e 1 = .ok (.bipush 10, 2) := by decide +kernel
theorem dJ11_highSurrogate_5068e_3 : decode cJ11_highSurrogate_5068e 3 = .ok (.iushr, 1) := by decide +kernel
theorem dJ11_highSurrogate_5068e_4 : decode cJ11_highSurrogate_5068e 4 = .ok (.ldc 110, 2) := by decide +kernel
theorem dJ11_highSurrogate_5068e_6 : decode cJ11_highSurrogate_5068e 6 = .ok (.iadd, 1) := by decide +kernel
theorem dJ11_highSurrogate_5068e_7 : decode cJ11_highSurrogate_5068e 7 = .ok (.i2c, 1) := by decide +kernel
theorem dJ11_highSurrogate_5068e_8 : decode cJ11_highSurrogate_5068e 8 = .ok (.ireturn, 1) := by decide +kernel
theorem dJ11_lowSurrogate_5068e_0 : decode cJ11_lowSurrogate_5068e 0 = .ok (.iload_n 0, 1) := by decide +kernel
theorem dJ11_lowSurrogate_5068e_1 : decode cJ11_lowSurrogate_5068e 1 = .ok (.sipush 1023, 3) := by decide +kernel
theorem dJ11_lowSurrogate_5068e_4 : decode cJ11_lowSurrogate_5068e 4 = .ok (.iand, 1) := by decide +kernel
theorem dJ11_lowSurrogate_5068e_5 : decode cJ11_lowSurrogate_5068e 5 = .ok (.ldc 76, 2) := by decide +kernel
theorem dJ11_lowSurrogate_5068e_7 : decode cJ11_lowSurrogate_5068e 7 = .ok (.iadd, 1) := by decide +kernel
theorem dJ11_lowSurrogate_5068e_8 : decode cJ11_lowSurrogate_5068e 8 = .ok (.i2c, 1) := by decide +kernel
theorem dJ11_lowSurrogate_5068e_9 : decode cJ11_lowSurrogate_5068e 9 = .ok (.ireturn, 1) := by decide +kernel
theorem dJ6_bitCount_0f7a4_0 : decode cJ6_bitCount_0f7a4 0 = .ok (.iload_n 0, 1) := by decide +kernel
theorem dJ6_bitCount_0f7a4_1 : decode cJ6_bitCount_0f7a4 1 = .ok (.iload_n 0, 1) := by decide +kernel
theorem dJ6_bitCount_0f7a4_2 : decode cJ6_bitCount_0f7a4 2 = .ok (.iconst 1, 1) := by decide +kernel
theorem dJ6_bitCount_0f7a4_3 : decode cJ6_bitCount_0f7a4 3 = .ok (.iushr, 1) := by decide +kernel
theorem dJ6_bitCount_0f7a4_4 : decode cJ6_bitCount_0f7a4 4 = .ok (.ldc_w 265, 3) := by decide +kernel
theorem dJ6_bitCount_0f7a4_7 : decode cJ6_bitCount_0f7a4 7 = .ok (.iand, 1) := by decide +kernel
theorem dJ6_bitCount_0f7a4_8 : decode cJ6_bitCount_0f7a4 8 = .ok (.isub, 1) := by decide +kernel
theorem dJ6_bitCount_0f7a4_9 : decode cJ6_bitCount_0f7a4 9 = .ok (.istore_n 0, 1) := by decide +kernel
theorem dJ6_bitCount_0f7a4_10 : decode cJ6_bitCount_0f7a4 10 = .ok (.iload_n 0, 1) := by decide +kernel
theorem dJ6_bitCount_0f7a4_11 : decode cJ6_bitCount_0f7a4 11 = .ok (.ldc_w 266, 3) := by decide +kernel
theorem dJ6_bitCount_0f7a4_14 : decode cJ6_bitCount_0f7a4 14 = .ok (.iand, 1) := by decide +kernel
theorem dJ6_bitCount_0f7a4_15 : decode cJ6_bitCount_0f7a4 15 = .ok (.iload_n 0, 1) := by decide +kernel
theorem dJ6_bitCount_0f7a4_16 : decode cJ6_bitCount_0f7a4 16 = .ok (.iconst 2, 1) := by decide +kernel
theorem dJ6_bitCount_0f7a4_17 : decode cJ6_bitCount_0f7a4 17 = .ok (.iushr, 1) := by decide +kernel
theorem dJ6_bitCount_0f7a4_18 : decode cJ6_bitCount_0f7a4 18 = .ok (.ldc_w 266, 3) := by decide +kernel
theorem dJ6_bitCount_0f7a4_21 : decode cJ6_bitCount_0f7a4 21 = .ok (.iand, 1) := by decide +kernel
theorem dJ6_bitCount_0f7a4_22 : decode cJ6_bitCount_0f7a4 22 = .ok (.iadd, 1) := by decide +kernel
theorem dJ6_bitCount_0f7a4_23 : decode cJ6_bitCount_0f7a4 23 = .ok (.istore_n 0, 1) := by decide +kernel
theorem dJ6_bitCount_0f7a4_24 : decode cJ6_bitCount_0f7a4 24 = .ok (.iload_n 0, 1) := by decide +kernel
theorem dJ6_bitCount_0f7a4_25 : decode cJ6_bitCount_0f7a4 25 = .ok (.iload_n 0, 1) := by decide +kernel
theorem dJ6_bitCount_0f7a4_26 : decode cJ6_bitCount_0f7a4 26 = .ok (.iconst 4, 1) := by decide +kernel
theorem dJ6_bitCount_0f7a4_27 : decode cJ6_bitCount_0f7a4 27 = .ok (.iushr, 1) := by decide +kernel
theorem dJ6_bitCount_0f7a4_28 : decode cJ6_bitCount_0f7a4 28 = .ok (.iadd, 1) := by decide +kernel
theorem dJ6_bitCount_0f7a4_29 : decode cJ6_bitCount_0f7a4 29 = .ok (.ldc_w 267, 3) := by decide +kernel
theorem dJ6_bitCount_0f7a4_32 : decode cJ6_bitCount_0f7a4 32 = .ok (.iand, 1) := by decide +kernel
theorem dJ6_bitCount_0f7a4_33 : decode cJ6_bitCount_0f7a4 33 = .ok (.istore_n 0, 1) := by decide +kernel
theorem dJ6_bitCount_0f7a4_34 : decode cJ6_bitCount_0f7a4 34 = .ok (.iload_n 0, 1) := by decide +kernel
theorem dJ6_bitCount_0f7a4_35 : decode cJ6_bitCount_0f7a4 35 = .ok (.iload_n 0, 1) := by decide +kernel
theorem dJ6_bitCount_0f7a4_36 : decode cJ6_bitCount_0f7a4 36 = .ok (.bipush 8, 2) := by decide +kernel
theorem dJ6_bitCount_0f7a4_38 : decode cJ6_bitCount_0f7a4 38 = .ok (.iushr, 1) := by decide +kernel
theorem dJ6_bitCount_0f7a4_39 : decode cJ6_bitCount_0f7a4 39 = .ok (.iadd, 1) := by decide +kernel
theorem dJ6_bitCount_0f7a4_40 : decode cJ6_bitCount_0f7a4 40 = .ok (.istore_n 0, 1) := by decide +kernel
theorem dJ6_bitCount_0f7a4_41 : decode cJ6_bitCount_0f7a4 41 = .ok (.iload_n 0, 1) := by decide +kernel
theorem dJ6_bitCount_0f7a4_42 : decode cJ6_bitCount_0f7a4 42 = .ok (.iload_n 0, 1) := by decide +kernel
theorem dJ6_bitCount_0f7a4_43 : decode cJ6_bitCount_0f7a4 43 = .ok (.bipush 16, 2) := by decide +kernel
theorem dJ6_bitCount_0f7a4_45 : decode cJ6_bitCount_0f7a4 45 = .ok (.iushr, 1) := by decide +kernel
theorem dJ6_bitCount_0f7a4_46 : decode cJ6_bitCount_0f7a4 46 = .ok (.iadd, 1) := by decide +kernel
theorem dJ6_bitCount_0f7a4_47 : decode cJ6_bitCount_0f7a4 47 = .ok (.istore_n 0, 1) := by decide +kernel
theorem dJ6_bitCount_0f7a4_48 : decode cJ6_bitCount_0f7a4 48 = .ok (.iload_n 0, 1) := by decide +kernel
theorem dJ6_bitCount_0f7a4_49 : decode cJ6_bitCount_0f7a4 49 = .ok (.bipush 63, 2) := by decide +kernel
theorem dJ6_bitCount_0f7a4_51 : decode cJ6_bitCount_0f7a4 51 = .ok (.iand, 1) := by decide +kernel
theorem dJ6_bitCount_0f7a4_52 : decode cJ6_bitCount_0f7a4 52 = .ok (.ireturn, 1) := by decide +kernel
theorem dJ9_floorMod_7cf53_0 : decode cJ9_floorMod_7cf53 0 = .ok (.iload_n 0, 1) := by decide +kernel
theorem dJ9_floorMod_7cf53_1 : decode cJ9_floorMod_7cf53 1 = .ok (.iload_n 1, 1) := by decide +kernel
theorem dJ9_floorMod_7cf53_2 : decode cJ9_floorMod_7cf53 2 = .ok (.irem, 1) := by decide +kernel
theorem dJ9_floorMod_7cf53_3 : decode cJ9_floorMod_7cf53 3 = .ok (.istore_n 2, 1) := by decide +kernel
theorem dJ9_floorMod_7cf53_4 : decode cJ9_floorMod_7cf53 4 = .ok (.iload_n 0, 1) := by decide +kernel
theorem dJ9_floorMod_7cf53_5 : decode cJ9_floorMod_7cf53 5 = .ok (.iload_n 1, 1) := by decide +kernel
theorem dJ9_floorMod_7cf53_6 : decode cJ9_floorMod_7cf53 6 = .ok (.ixor, 1) := by decide +kernel
theorem dJ9_floorMod_7cf53_7 : decode cJ9_floorMod_7cf53 7 = .ok (.ifCond .ge 11, 3) := by decide +kernel
theorem dJ9_floorMod_7cf53_10 : decode cJ9_floorMod_7cf53 10 = .ok (.iload_n 2, 1) := by decide +kernel
theorem dJ9_floorMod_7cf53_11 : decode cJ9_floorMod_7cf53 11 = .ok (.ifCond .eq 7, 3) := by decide +kernel
theorem dJ9_floorMod_7cf53_14 : decode cJ9_floorMod_7cf53 14 = .ok (.iload_n 2, 1) := by decide +kernel
theorem dJ9_floorMod_7cf53_15 : decode cJ9_floorMod_7cf53 15 = .ok (.iload_n 1, 1) := by decide +kernel
theorem dJ9_floorMod_7cf53_16 : decode cJ9_floorMod_7cf53 16 = .ok (.iadd, 1) := by decide +kernel
theorem dJ9_floorMod_7cf53_17 : decode cJ9_floorMod_7cf53 17 = .ok (.ireturn, 1) := by decide +kernel
theorem dJ9_floorMod_7cf53_18 : decode cJ9_floorMod_7cf53 18 = .ok (.iload_n 2, 1) := by decide +kernel
theorem dJ9_floorMod_7cf53_19 : decode cJ9_floorMod_7cf53 19 = .ok (.ireturn, 1) := by decide +kernel
theorem dJ9_abs_0f7a4_0 : decode cJ9_abs_0f7a4 0 = .ok (.iload_n 0, 1) := by decide +kernel
theorem dJ9_abs_0f7a4_1 : decode cJ9_abs_0f7a4 1 = .ok (.ifCond .ge 8, 3) := by decide +kernel
theorem dJ9_abs_0f7a4_4 : decode cJ9_abs_0f7a4 4 = .ok (.iload_n 0, 1) := by decide +kernel
theorem dJ9_abs_0f7a4_5 : decode cJ9_abs_0f7a4 5 = .ok (.ineg, 1) := by decide +kernel
theorem dJ9_abs_0f7a4_6 : decode cJ9_abs_0f7a4 6 = .ok (.goto 4, 3) := by decide +kernel
theorem dJ9_abs_0f7a4_9 : decode cJ9_abs_0f7a4 9 = .ok (.iload_n 0, 1) := by decide +kernel
theorem dJ9_abs_0f7a4_10 : decode cJ9_abs_0f7a4 10 = .ok (.ireturn, 1) := by decide +kernel
theorem dJ9_max_7cf53_0 : decode cJ9_max_7cf53 0 = .ok (.iload_n 0, 1) := by decide +kernel
theorem dJ9_max_7cf53_1 : decode cJ9_max_7cf53 1 = .ok (.iload_n 1, 1) := by decide +kernel
theorem dJ9_max_7cf53_2 : decode cJ9_max_7cf53 2 = .ok (.if_icmp .lt 7, 3) := by decide +kernel
theorem dJ9_max_7cf53_5 : decode cJ9_max_7cf53 5 = .ok (.iload_n 0, 1) := by decide +kernel
theorem dJ9_max_7cf53_6 : decode cJ9_max_7cf53 6 = .ok (.goto 4, 3) := by decide +kernel
theorem dJ9_max_7cf53_9 : decode cJ9_max_7cf53 9 = .ok (.iload_n 1, 1) := by decide +kernel
theorem dJ9_max_7cf53_10 : decode cJ9_max_7cf53 10 = .ok (.ireturn, 1) := by decide +kernel
theorem dJ9_min_7cf53_0 : decode cJ9_min_7cf53 0 = .ok (.iload_n 0, 1) := by decide +kernel
theorem dJ9_min_7cf53_1 : decode cJ9_min_7cf53 1 = .ok (.iload_n 1, 1) := by decide +kernel
theorem dJ9_min_7cf53_2 : decode cJ9_min_7cf53 2 = .ok (.if_icmp .gt 7, 3) := by decide +kernel
theorem dJ9_min_7cf53_5 : decode cJ9_min_7cf53 5 = .ok (.iload_n 0, 1) := by decide +kernel
theorem dJ9_min_7cf53_6 : decode cJ9_min_7cf53 6 = .ok (.goto 4, 3) := by decide +kernel
theorem dJ9_min_7cf53_9 : decode cJ9_min_7cf53 9 = .ok (.iload_n 1, 1) := by decide +kernel
theorem dJ9_min_7cf53_10 : decode cJ9_min_7cf53 10 = .ok (.ireturn, 1) := by decide +kernel
theorem dJ0_length_8abf5_0 : decode cJ0_length_8abf5 0 = .ok (.aload_n 0, 1) := by decide +kernel
theorem dJ0_length_8abf5_1 : decode cJ0_length_8abf5 1 = .ok (.getfield 9, 3) := by decide +kernel
theorem dJ0_length_8abf5_4 : decode cJ0_length_8abf5 4 = .ok (.arraylength, 1) := by decide +kernel
theorem dJ0_length_8abf5_5 : decode cJ0_length_8abf5 5 = .ok (.aload_n 0, 1) := by decide +kernel
theorem dJ0_length_8abf5_6 : decode cJ0_length_8abf5 6 = .ok (.invokevirtual 335, 3) := by decide +kernel
theorem dJ0_length_8abf5_9 : decode cJ0_length_8abf5 9 = .ok (.ishr, 1) := by decide +kernel
theorem dJ0_length_8abf5_10 : decode cJ0_length_8abf5 10 = .ok (.ireturn, 1) := by decide +kernel
theorem dJ0_indexOf_0f7a4_0 : decode cJ0_indexOf_0f7a4 0 = .ok (.aload_n 0, 1) := by decide +kernel
theorem dJ0_indexOf_0f7a4_1 : decode cJ0_indexOf_0f7a4 1 = .ok (.iload_n 1, 1) := by decide +kernel
theorem dJ0_indexOf_0f7a4_2 : decode cJ0_indexOf_0f7a4 2 = .ok (.iconst 0, 1) := by decide +kernel
theorem dJ0_indexOf_0f7a4_3 : decode cJ0_indexOf_0f7a4 3 = .ok (.invokevirtual 633, 3) := by decide +kernel
theorem dJ0_indexOf_0f7a4_6 : decode cJ0_indexOf_0f7a4 6 = .ok (.ireturn, 1) := by decide +kernel
theorem dJ0_indexOf_7cf53_0 : decode cJ0_indexOf_7cf53 0 = .ok (.aload_n 0, 1) := by decide +kernel
theorem dJ0_indexOf_7cf53_1 : decode cJ0_indexOf_7cf53 1 = .ok (.invokevirtual 492, 3) := by decide +kernel
theorem dJ0_indexOf_7cf53_4 : decode cJ0_indexOf_7cf53 4 = .ok (.ifCond .eq 19, 3) := by decide +kernel
theorem dJ0_indexOf_7cf53_7 : decode cJ0_indexOf_7cf53 7 = .ok (.aload_n 0, 1) := by decide +kernel
theorem dJ0_indexOf_7cf53_8 : decode cJ0_indexOf_7cf53 8 = .ok (.getfield 9, 3) := by decide +kernel
theorem dJ0_indexOf_7cf53_11 : decode cJ0_indexOf_7cf53 11 = .ok (.iload_n 1, 1) := by decide +kernel
theorem dJ0_indexOf_7cf53_12 : decode cJ0_indexOf_7cf53 12 = .ok (.iload_n 2, 1) := by decide +kernel
theorem dJ0_indexOf_7cf53_13 : decode cJ0_indexOf_7cf53 13 = .ok (.aload_n 0, 1) := by decide +kernel
theorem dJ0_indexOf_7cf53_14 : decode cJ0_indexOf_7cf53 14 = .ok (.invokevirtual 505, 3) := by decide +kernel
theorem dJ0_indexOf_7cf53_17 : decode cJ0_indexOf_7cf53 17 = .ok (.invokestatic 637, 3) := by decide +kernel
theorem dJ0_indexOf_7cf53_20 : decode cJ0_indexOf_7cf53 20 = .ok (.goto 16, 3) := by decide +kernel
theorem dJ0_indexOf_7cf53_23 : decode cJ0_indexOf_7cf53 23 = .ok (.aload_n 0, 1) := by decide +kernel
theorem dJ0_indexOf_7cf53_24 : decode cJ0_indexOf_7cf53 24 = .ok (.getfield 9, 3) := by decide +kernel
theorem dJ0_indexOf_7cf53_27 : decode cJ0_indexOf_7cf53 27 = .ok (.iload_n 1, 1) := by decide +kernel
theorem dJ0_indexOf_7cf53_28 : decode cJ0_indexOf_7cf53 28 = .ok (.iload_n 2, 1) := by decide +kernel
theorem dJ0_indexOf_7cf53_29 : decode cJ0_indexOf_7cf53 29 = .ok (.aload_n 0, 1) := by decide +kernel
theorem dJ0_indexOf_7cf53_30 : decode cJ0_indexOf_7cf53 30 = .ok (.invokevirtual 505, 3) := by decide +kernel
theorem dJ0_indexOf_7cf53_33 : decode cJ0_indexOf_7cf53 33 = .ok (.invokestatic 640, 3) := by decide +kernel
theorem dJ0_indexOf_7cf53_36 : decode cJ0_indexOf_7cf53 36 = .ok (.ireturn, 1) := by decide +kernel
theorem dJ0_coder_7d493_0 : decode cJ0_coder_7d493 0 = .ok (.getstatic 38, 3) := by decide +kernel
theorem dJ0_coder_7d493_3 : decode cJ0_coder_7d493 3 = .ok (.ifCond .eq 10, 3) := by decide +kernel
theorem dJ0_coder_7d493_6 : decode cJ0_coder_7d493 6 = .ok (.aload_n 0, 1) := by decide +kernel
theorem dJ0_coder_7d493_7 : decode cJ0_coder_7d493 7 = .ok (.getfield 15, 3) := by decide +kernel
theorem dJ0_coder_7d493_10 : decode cJ0_coder_7d493 10 = .ok (.goto 4, 3) := by decide +kernel
theorem dJ0_coder_7d493_13 : decode cJ0_coder_7d493 13 = .ok (.iconst 1, 1) := by decide +kernel
theorem dJ0_coder_7d493_14 : decode cJ0_coder_7d493 14 = .ok (.ireturn, 1) := by decide +kernel
theorem dJ0_isLatin1_aae02_0 : decode cJ0_isLatin1_aae02 0 = .ok (.getstatic 38, 3) := by decide +kernel
theorem dJ0_isLatin1_aae02_3 : decode cJ0_isLatin1_aae02 3 = .ok (.ifCond .eq 14, 3) := by decide +kernel
theorem dJ0_isLatin1_aae02_6 : decode cJ0_isLatin1_aae02 6 = .ok (.aload_n 0, 1) := by decide +kernel
theorem dJ0_isLatin1_aae02_7 : decode cJ0_isLatin1_aae02 7 = .ok (.getfield 15, 3) := by decide +kernel
theorem dJ0_isLatin1_aae02_10 : decode cJ0_isLatin1_aae02 10 = .ok (.ifCond .ne 7, 3) := by decide +kernel
theorem dJ0_isLatin1_aae02_13 : decode cJ0_isLatin1_aae02 13 = .ok (.iconst 1, 1) := by decide +kernel
theorem dJ0_isLatin1_aae02_14 : decode cJ0_isLatin1_aae02 14 = .ok (.goto 4, 3) := by decide +kernel
theorem dJ0_isLatin1_aae02_17 : decode cJ0_isLatin1_aae02 17 = .ok (.iconst 0, 1) := by decide +kernel
theorem dJ0_isLatin1_aae02_18 : decode cJ0_isLatin1_aae02 18 = .ok (.ireturn, 1) := by decide +kernel
theorem dJ0_checkBoundsBeginEnd_23922_0 : decode cJ0_checkBoundsBeginEnd_23922 0 = .ok (.iload_n 0, 1) := by decide +kernel
theorem dJ0_checkBoundsBeginEnd_23922_1 : decode cJ0_checkBoundsBeginEnd_23922 1 = .ok (.iload_n 1, 1) := by decide +kernel
theorem dJ0_checkBoundsBeginEnd_23922_2 : decode cJ0_checkBoundsBeginEnd_23922 2 = .ok (.iload_n 2, 1) := by decide +kernel
theorem dJ0_checkBoundsBeginEnd_23922_3 : decode cJ0_checkBoundsBeginEnd_23922 3 = .ok (.getstatic 1053, 3) := by decide +kernel
theorem dJ0_checkBoundsBeginEnd_23922_6 : decode cJ0_checkBoundsBeginEnd_23922 6 = .ok (.invokestatic 1062, 3) := by decide +kernel
theorem dJ0_checkBoundsBeginEnd_23922_9 : decode cJ0_checkBoundsBeginEnd_23922 9 = .ok (.pop, 1) := by decide +kernel
theorem dJ0_checkBoundsBeginEnd_23922_10 : decode cJ0_checkBoundsBeginEnd_23922 10 = .ok (.return_, 1) := by decide +kernel
theorem dJ1_canEncode_9a6ad_0 : decode cJ1_canEncode_9a6ad 0 = .ok (.iload_n 0, 1) := by decide +kernel
theorem dJ1_canEncode_9a6ad_1 : decode cJ1_canEncode_9a6ad 1 = .ok (.ifCond .lt 14, 3) := by decide +kernel
theorem dJ1_canEncode_9a6ad_4 : decode cJ1_canEncode_9a6ad 4 = .ok (.iload_n 0, 1) := by decide +kernel
theorem dJ1_canEncode_9a6ad_5 : decode cJ1_canEncode_9a6ad 5 = .ok (.sipush 255, 3) := by decide +kernel
theorem dJ1_canEncode_9a6ad_8 : decode cJ1_canEncode_9a6ad 8 = .ok (.if_icmp .gt 7, 3) := by decide +kernel
theorem dJ1_canEncode_9a6ad_11 : decode cJ1_canEncode_9a6ad 11 = .ok (.iconst 1, 1) := by decide +kernel
theorem dJ1_canEncode_9a6ad_12 : decode cJ1_canEncode_9a6ad 12 = .ok (.goto 4, 3) := by decide +kernel
theorem dJ1_canEncode_9a6ad_15 : decode cJ1_canEncode_9a6ad 15 = .ok (.iconst 0, 1) := by decide +kernel
theorem dJ1_canEncode_9a6ad_16 : decode cJ1_canEncode_9a6ad 16 = .ok (.ireturn, 1) := by decide +kernel
theorem dJ1_indexOf_4cfef_0 : decode cJ1_indexOf_4cfef 0 = .ok (.iload_n 1, 1) := by decide +kernel
theorem dJ1_indexOf_4cfef_1 : decode cJ1_indexOf_4cfef 1 = .ok (.invokestatic 88, 3) := by decide +kernel
theorem dJ1_indexOf_4cfef_4 : decode cJ1_indexOf_4cfef 4 = .ok (.ifCond .ne 5, 3) := by decide +kernel
theorem dJ1_indexOf_4cfef_7 : decode cJ1_indexOf_4cfef 7 = .ok (.iconst (-1), 1) := by decide +kernel
theorem dJ1_indexOf_4cfef_8 : decode cJ1_indexOf_4cfef 8 = .ok (.ireturn, 1) := by decide +kernel
theorem dJ1_indexOf_4cfef_9 : decode cJ1_indexOf_4cfef 9 = .ok (.iload_n 2, 1) := by decide +kernel
theorem dJ1_indexOf_4cfef_10 : decode cJ1_indexOf_4cfef 10 = .ok (.iconst 0, 1) := by decide +kernel
theorem dJ1_indexOf_4cfef_11 : decode cJ1_indexOf_4cfef 11 = .ok (.invokestatic 92, 3) := by decide +kernel
theorem dJ1_indexOf_4cfef_14 : decode cJ1_indexOf_4cfef 14 = .ok (.istore_n 2, 1) := by decide +kernel
theorem dJ1_indexOf_4cfef_15 : decode cJ1_indexOf_4cfef 15 = .ok (.iload_n 3, 1) := by decide +kernel
theorem dJ1_indexOf_4cfef_16 : decode cJ1_indexOf_4cfef 16 = .ok (.aload_n 0, 1) := by decide +kernel
theorem dJ1_indexOf_4cfef_17 : decode cJ1_indexOf_4cfef 17 = .ok (.arraylength, 1) := by decide +kernel
theorem dJ1_indexOf_4cfef_18 : decode cJ1_indexOf_4cfef 18 = .ok (.invokestatic 38, 3) := by decide +kernel
theorem dJ1_indexOf_4cfef_21 : decode cJ1_indexOf_4cfef 21 = .ok (.istore_n 3, 1) := by decide +kernel
theorem dJ1_indexOf_4cfef_22 : decode cJ1_indexOf_4cfef 22 = .ok (.iload_n 2, 1) := by decide +kernel
theorem dJ1_indexOf_4cfef_23 : decode cJ1_indexOf_4cfef 23 = .ok (.iload_n 3, 1) := by decide +kernel
theorem dJ1_indexOf_4cfef_24 : decode cJ1_indexOf_4cfef 24 = .ok (.if_icmp .lt 5, 3) := by decide +kernel
theorem dJ1_indexOf_4cfef_27 : decode cJ1_indexOf_4cfef 27 = .ok (.iconst (-1), 1) := by decide +kernel
theorem dJ1_indexOf_4cfef_28 : decode cJ1_indexOf_4cfef 28 = .ok (.ireturn, 1) := by decide +kernel
theorem dJ1_indexOf_4cfef_29 : decode cJ1_indexOf_4cfef 29 = .ok (.aload_n 0, 1) := by decide +kernel
theorem dJ1_indexOf_4cfef_30 : decode cJ1_indexOf_4cfef 30 = .ok (.iload_n 1, 1) := by decide +kernel
theorem dJ1_indexOf_4cfef_31 : decode cJ1_indexOf_4cfef 31 = .ok (.iload_n 2, 1) := by decide +kernel
theorem dJ1_indexOf_4cfef_32 : decode cJ1_indexOf_4cfef 32 = .ok (.iload_n 3, 1) := by decide +kernel
theorem dJ1_indexOf_4cfef_33 : decode cJ1_indexOf_4cfef 33 = .ok (.invokestatic 95, 3) := by decide +kernel
theorem dJ1_indexOf_4cfef_36 : decode cJ1_indexOf_4cfef 36 = .ok (.ireturn, 1) := by decide +kernel
theorem dJ1_indexOfChar_4cfef_0 : decode cJ1_indexOfChar_4cfef 0 = .ok (.iload_n 1, 1) := by decide +kernel
theorem dJ1_indexOfChar_4cfef_1 : decode cJ1_indexOfChar_4cfef 1 = .ok (.i2b, 1) := by decide +kernel
theorem dJ1_indexOfChar_4cfef_2 : decode cJ1_indexOfChar_4cfef 2 = .ok (.istore 4, 2) := by decide +kernel
theorem dJ1_indexOfChar_4cfef_4 : decode cJ1_indexOfChar_4cfef 4 = .ok (.iload_n 2, 1) := by decide +kernel
theorem dJ1_indexOfChar_4cfef_5 : decode cJ1_indexOfChar_4cfef 5 = .ok (.istore 5, 2) := by decide +kernel
theorem dJ1_indexOfChar_4cfef_7 : decode cJ1_indexOfChar_4cfef 7 = .ok (.iload 5, 2) := by decide +kernel
theorem dJ1_indexOfChar_4cfef_9 : decode cJ1_indexOfChar_4cfef 9 = .ok (.iload_n 3, 1) := by decide +kernel
theorem dJ1_indexOfChar_4cfef_10 : decode cJ1_indexOfChar_4cfef 10 = .ok (.if_icmp .ge 21, 3) := by decide +kernel
theorem dJ1_indexOfChar_4cfef_13 : decode cJ1_indexOfChar_4cfef 13 = .ok (.aload_n 0, 1) := by decide +kernel
theorem dJ1_indexOfChar_4cfef_14 : decode cJ1_indexOfChar_4cfef 14 = .ok (.iload 5, 2) := by decide +kernel
theorem dJ1_indexOfChar_4cfef_16 : decode cJ1_indexOfChar_4cfef 16 = .ok (.baload, 1) := by decide +kernel
theorem dJ1_indexOfChar_4cfef_17 : decode cJ1_indexOfChar_4cfef 17 = .ok (.iload 4, 2) := by decide +kernel
theorem dJ1_indexOfChar_4cfef_19 : decode cJ1_indexOfChar_4cfef 19 = .ok (.if_icmp .ne 6, 3) := by decide +kernel
theorem dJ1_indexOfChar_4cfef_22 : decode cJ1_indexOfChar_4cfef 22 = .ok (.iload 5, 2) := by decide +kernel
theorem dJ1_indexOfChar_4cfef_24 : decode cJ1_indexOfChar_4cfef 24 = .ok (.ireturn, 1) := by decide +kernel
theorem dJ1_indexOfChar_4cfef_25 : decode cJ1_indexOfChar_4cfef 25 = .ok (.iinc 5 1, 3) := by decide +kernel
theorem dJ1_indexOfChar_4cfef_28 : decode cJ1_indexOfChar_4cfef 28 = .ok (.goto (-21), 3) := by decide +kernel
theorem dJ1_indexOfChar_4cfef_31 : decode cJ1_indexOfChar_4cfef 31 = .ok (.iconst (-1), 1) := by decide +kernel
theorem dJ1_indexOfChar_4cfef_32 : decode cJ1_indexOfChar_4cfef 32 = .ok (.ireturn, 1) := by decide +kernel
theorem dJ2_getChar_3b067_0 : decode cJ2_getChar_3b067 0 = .ok (.getstatic 44, 3) := by decide +kernel
theorem dJ2_getChar_3b067_3 : decode cJ2_getChar_3b067 3 = .ok (.ifCond .ne 25, 3) := by decide +kernel
theorem dJ2_getChar_3b067_6 : decode cJ2_getChar_3b067 6 = .ok (.iload_n 1, 1) := by decide +kernel
theorem dJ2_getChar_3b067_7 : decode cJ2_getChar_3b067 7 = .ok (.ifCond .lt 11, 3) := by decide +kernel
theorem dJ2_getChar_3b067_10 : decode cJ2_getChar_3b067 10 = .ok (.iload_n 1, 1) := by decide +kernel
theorem dJ2_getChar_3b067_11 : decode cJ2_getChar_3b067 11 = .ok (.aload_n 0, 1) := by decide +kernel
theorem dJ2_getChar_3b067_12 : decode cJ2_getChar_3b067 12 = .ok (.invokestatic 48, 3) := by decide +kernel
theorem dJ2_getChar_3b067_15 : decode cJ2_getChar_3b067 15 = .ok (.if_icmp .lt 13, 3) := by decide +kernel
theorem dJ2_getChar_3b067_18 : decode cJ2_getChar_3b067 18 = .ok (.new 52, 3) := by decide +kernel
theorem dJ2_getChar_3b067_21 : decode cJ2_getChar_3b067 21 = .ok (.dup, 1) := by decide +kernel
theorem dJ2_getChar_3b067_22 : decode cJ2_getChar_3b067 22 = .ok (.ldc 54, 2) := by decide +kernel
theorem dJ2_getChar_3b067_24 : decode cJ2_getChar_3b067 24 = .ok (.invokespecial 56, 3) := by decide +kernel
theorem dJ2_getChar_3b067_27 : decode cJ2_getChar_3b067 27 = .ok (.athrow, 1) := by decide +kernel
theorem dJ2_getChar_3b067_28 : decode cJ2_getChar_3b067 28 = .ok (.iload_n 1, 1) := by decide +kernel
theorem dJ2_getChar_3b067_29 : decode cJ2_getChar_3b067 29 = .ok (.iconst 1, 1) := by decide +kernel
theorem dJ2_getChar_3b067_30 : decode cJ2_getChar_3b067 30 = .ok (.ishl, 1) := by decide +kernel
theorem dJ2_getChar_3b067_31 : decode cJ2_getChar_3b067 31 = .ok (.istore_n 1, 1) := by decide +kernel
theorem dJ2_getChar_3b067_32 : decode cJ2_getChar_3b067 32 = .ok (.aload_n 0, 1) := by decide +kernel
theorem dJ2_getChar_3b067_33 : decode cJ2_getChar_3b067 33 = .ok (.iload_n 1, 1) := by decide +kernel
theorem dJ2_getChar_3b067_34 : decode cJ2_getChar_3b067 34 = .ok (.iinc 1 1, 3) := by decide +kernel
theorem dJ2_getChar_3b067_37 : decode cJ2_getChar_3b067 37 = .ok (.baload, 1) := by decide +kernel
theorem dJ2_getChar_3b067_38 : decode cJ2_getChar_3b067 38 = .ok (.sipush 255, 3) := by decide +kernel
theorem dJ2_getChar_3b067_41 : decode cJ2_getChar_3b067 41 = .ok (.iand, 1) := by decide +kernel
theorem dJ2_getChar_3b067_42 : decode cJ2_getChar_3b067 42 = .ok (.getstatic 59, 3) := by decide +kernel
theorem dJ2_getChar_3b067_45 : decode cJ2_getChar_3b067 45 = .ok (.ishl, 1) := by decide +kernel
theorem dJ2_getChar_3b067_46 : decode cJ2_getChar_3b067 46 = .ok (.aload_n 0, 1) := by decide +kernel
theorem dJ2_getChar_3b067_47 : decode cJ2_getChar_3b067 47 = .ok (.iload_n 1, 1) := by decide +kernel
theorem dJ2_getChar_3b067_48 : decode cJ2_getChar_3b067 48 = .ok (.baload, 1) := by decide +kernel
theorem dJ2_getChar_3b067_49 : decode cJ2_getChar_3b067 49 = .ok (.sipush 255, 3) := by decide +kernel
theorem dJ2_getChar_3b067_52 : decode cJ2_getChar_3b067 52 = .ok (.iand, 1) := by decide +kernel
theorem dJ2_getChar_3b067_53 : decode cJ2_getChar_3b067 53 = .ok (.getstatic 63, 3) := by decide +kernel
theorem dJ2_getChar_3b067_56 : decode cJ2_getChar_3b067 56 = .ok (.ishl, 1) := by decide +kernel
theorem dJ2_getChar_3b067_57 : decode cJ2_getChar_3b067 57 = .ok (.ior, 1) := by decide +kernel
theorem dJ2_getChar_3b067_58 : decode cJ2_getChar_3b067 58 = .ok (.i2c, 1) := by decide +kernel
theorem dJ2_getChar_3b067_59 : decode cJ2_getChar_3b067 59 = .ok (.ireturn, 1) := by decide +kernel
theorem dJ2_length_9d52b_0 : decode cJ2_length_9d52b 0 = .ok (.aload_n 0, 1) := by decide +kernel
theorem dJ2_length_9d52b_1 : decode cJ2_length_9d52b 1 = .ok (.arraylength, 1) := by decide +kernel
theorem dJ2_length_9d52b_2 : decode cJ2_length_9d52b 2 = .ok (.iconst 1, 1) := by decide +kernel
theorem dJ2_length_9d52b_3 : decode cJ2_length_9d52b 3 = .ok (.ishr, 1) := by decide +kernel
theorem dJ2_length_9d52b_4 : decode cJ2_length_9d52b 4 = .ok (.ireturn, 1) := by decide +kernel
theorem dJ2_indexOf_4cfef_0 : decode cJ2_indexOf_4cfef 0 = .ok (.iload_n 2, 1) := by decide +kernel
theorem dJ2_indexOf_4cfef_1 : decode cJ2_indexOf_4cfef 1 = .ok (.iconst 0, 1) := by decide +kernel
theorem dJ2_indexOf_4cfef_2 : decode cJ2_indexOf_4cfef 2 = .ok (.invokestatic 224, 3) := by decide +kernel
theorem dJ2_indexOf_4cfef_5 : decode cJ2_indexOf_4cfef 5 = .ok (.istore_n 2, 1) := by decide +kernel
theorem dJ2_indexOf_4cfef_6 : decode cJ2_indexOf_4cfef 6 = .ok (.iload_n 3, 1) := by decide +kernel
theorem dJ2_indexOf_4cfef_7 : decode cJ2_indexOf_4cfef 7 = .ok (.aload_n 0, 1) := by decide +kernel
theorem dJ2_indexOf_4cfef_8 : decode cJ2_indexOf_4cfef 8 = .ok (.arraylength, 1) := by decide +kernel
theorem dJ2_indexOf_4cfef_9 : decode cJ2_indexOf_4cfef 9 = .ok (.iconst 1, 1) := by decide +kernel
theorem dJ2_indexOf_4cfef_10 : decode cJ2_indexOf_4cfef 10 = .ok (.ishr, 1) := by decide +kernel
theorem dJ2_indexOf_4cfef_11 : decode cJ2_indexOf_4cfef 11 = .ok (.invokestatic 183, 3) := by decide +kernel
theorem dJ2_indexOf_4cfef_14 : decode cJ2_indexOf_4cfef 14 = .ok (.istore_n 3, 1) := by decide +kernel
theorem dJ2_indexOf_4cfef_15 : decode cJ2_indexOf_4cfef 15 = .ok (.iload_n 2, 1) := by decide +kernel
theorem dJ2_indexOf_4cfef_16 : decode cJ2_indexOf_4cfef 16 = .ok (.iload_n 3, 1) := by decide +kernel
theorem dJ2_indexOf_4cfef_17 : decode cJ2_indexOf_4cfef 17 = .ok (.if_icmp .lt 5, 3) := by decide +kernel
theorem dJ2_indexOf_4cfef_20 : decode cJ2_indexOf_4cfef 20 = .ok (.iconst (-1), 1) := by decide +kernel
theorem dJ2_indexOf_4cfef_21 : decode cJ2_indexOf_4cfef 21 = .ok (.ireturn, 1) := by decide +kernel
theorem dJ2_indexOf_4cfef_22 : decode cJ2_indexOf_4cfef 22 = .ok (.iload_n 1, 1) := by decide +kernel
theorem dJ2_indexOf_4cfef_23 : decode cJ2_indexOf_4cfef 23 = .ok (.ldc 227, 2) := by decide +kernel
theorem dJ2_indexOf_4cfef_25 : decode cJ2_indexOf_4cfef 25 = .ok (.if_icmp .ge 11, 3) := by decide +kernel
theorem dJ2_indexOf_4cfef_28 : decode cJ2_indexOf_4cfef 28 = .ok (.aload_n 0, 1) := by decide +kernel
theorem dJ2_indexOf_4cfef_29 : decode cJ2_indexOf_4cfef 29 = .ok (.iload_n 1, 1) := by decide +kernel
theorem dJ2_indexOf_4cfef_30 : decode cJ2_indexOf_4cfef 30 = .ok (.iload_n 2, 1) := by decide +kernel
theorem dJ2_indexOf_4cfef_31 : decode cJ2_indexOf_4cfef 31 = .ok (.iload_n 3, 1) := by decide +kernel
theorem dJ2_indexOf_4cfef_32 : decode cJ2_indexOf_4cfef 32 = .ok (.invokestatic 228, 3) := by decide +kernel
theorem dJ2_indexOf_4cfef_35 : decode cJ2_indexOf_4cfef 35 = .ok (.ireturn, 1) := by decide +kernel
theorem dJ2_indexOf_4cfef_36 : decode cJ2_indexOf_4cfef 36 = .ok (.aload_n 0, 1) := by decide +kernel
theorem dJ2_indexOf_4cfef_37 : decode cJ2_indexOf_4cfef 37 = .ok (.iload_n 1, 1) := by decide +kernel
theorem dJ2_indexOf_4cfef_38 : decode cJ2_indexOf_4cfef 38 = .ok (.iload_n 2, 1) := by decide +kernel
theorem dJ2_indexOf_4cfef_39 : decode cJ2_indexOf_4cfef 39 = .ok (.iload_n 3, 1) := by decide +kernel
theorem dJ2_indexOf_4cfef_40 : decode cJ2_indexOf_4cfef 40 = .ok (.invokestatic 232, 3) := by decide +kernel
theorem dJ2_indexOf_4cfef_43 : decode cJ2_indexOf_4cfef 43 = .ok (.ireturn, 1) := by decide +kernel
theorem dJ2_indexOfChar_4cfef_0 : decode cJ2_indexOfChar_4cfef 0 = .ok (.iload_n 2, 1) := by decide +kernel
theorem dJ2_indexOfChar_4cfef_1 : decode cJ2_indexOfChar_4cfef 1 = .ok (.iload_n 3, 1) := by decide +kernel
theorem dJ2_indexOfChar_4cfef_2 : decode cJ2_indexOfChar_4cfef 2 = .ok (.aload_n 0, 1) := by decide +kernel
theorem dJ2_indexOfChar_4cfef_3 : decode cJ2_indexOfChar_4cfef 3 = .ok (.invokestatic 96, 3) := by decide +kernel
theorem dJ2_indexOfChar_4cfef_6 : decode cJ2_indexOfChar_4cfef 6 = .ok (.aload_n 0, 1) := by decide +kernel
theorem dJ2_indexOfChar_4cfef_7 : decode cJ2_indexOfChar_4cfef 7 = .ok (.iload_n 1, 1) := by decide +kernel
theorem dJ2_indexOfChar_4cfef_8 : decode cJ2_indexOfChar_4cfef 8 = .ok (.iload_n 2, 1) := by decide +kernel
theorem dJ2_indexOfChar_4cfef_9 : decode cJ2_indexOfChar_4cfef 9 = .ok (.iload_n 3, 1) := by decide +kernel
theorem dJ2_indexOfChar_4cfef_10 : decode cJ2_indexOfChar_4cfef 10 = .ok (.invokestatic 244, 3) := by decide +kernel
theorem dJ2_indexOfChar_4cfef_13 : decode cJ2_indexOfChar_4cfef 13 = .ok (.ireturn, 1) := by decide +kernel
theorem dJ2_indexOfCharUnsafe_4cfef_0 : decode cJ2_indexOfCharUnsafe_4cfef 0 = .ok (.iload_n 2, 1) := by decide +kernel
theorem dJ2_indexOfCharUnsafe_4cfef_1 : decode cJ2_indexOfCharUnsafe_4cfef 1 = .ok (.istore 4, 2) := by decide +kernel
theorem dJ2_indexOfCharUnsafe_4cfef_3 : decode cJ2_indexOfCharUnsafe_4cfef 3 = .ok (.iload 4, 2) := by decide +kernel
theorem dJ2_indexOfCharUnsafe_4cfef_5 : decode cJ2_indexOfCharUnsafe_4cfef 5 = .ok (.iload_n 3, 1) := by decide +kernel
theorem dJ2_indexOfCharUnsafe_4cfef_6 : decode cJ2_indexOfCharUnsafe_4cfef 6 = .ok (.if_icmp .ge 22, 3) := by decide +kernel
theorem dJ2_indexOfCharUnsafe_4cfef_9 : decode cJ2_indexOfCharUnsafe_4cfef 9 = .ok (.aload_n 0, 1) := by decide +kernel
theorem dJ2_indexOfCharUnsafe_4cfef_10 : decode cJ2_indexOfCharUnsafe_4cfef 10 = .ok (.iload 4, 2) := by decide +kernel
theorem dJ2_indexOfCharUnsafe_4cfef_12 : decode cJ2_indexOfCharUnsafe_4cfef 12 = .ok (.invokestatic 71, 3) := by decide +kernel
theorem dJ2_indexOfCharUnsafe_4cfef_15 : decode cJ2_indexOfCharUnsafe_4cfef 15 = .ok (.iload_n 1, 1) := by decide +kernel
theorem dJ2_indexOfCharUnsafe_4cfef_16 : decode cJ2_indexOfCharUnsafe_4cfef 16 = .ok (.if_icmp .ne 6, 3) := by decide +kernel
theorem dJ2_indexOfCharUnsafe_4cfef_19 : decode cJ2_indexOfCharUnsafe_4cfef 19 = .ok (.iload 4, 2) := by decide +kernel
theorem dJ2_indexOfCharUnsafe_4cfef_21 : decode cJ2_indexOfCharUnsafe_4cfef 21 = .ok (.ireturn, 1) := by decide +kernel
theorem dJ2_indexOfCharUnsafe_4cfef_22 : decode cJ2_indexOfCharUnsafe_4cfef 22 = .ok (.iinc 4 1, 3) := by decide +kernel
theorem dJ2_indexOfCharUnsafe_4cfef_25 : decode cJ2_indexOfCharUnsafe_4cfef 25 = .ok (.goto (-22), 3) := by decide +kernel
theorem dJ2_indexOfCharUnsafe_4cfef_28 : decode cJ2_indexOfCharUnsafe_4cfef 28 = .ok (.iconst (-1), 1) := by decide +kernel
theorem dJ2_indexOfCharUnsafe_4cfef_29 : decode cJ2_indexOfCharUnsafe_4cfef 29 = .ok (.ireturn, 1) := by decide +kernel
theorem dJ2_indexOfSupplementary_4cfef_0 : decode cJ2_indexOfSupplementary_4cfef 0 = .ok (.iload_n 1, 1) := by decide +kernel
theorem dJ2_indexOfSupplementary_4cfef_1 : decode cJ2_indexOfSupplementary_4cfef 1 = .ok (.invokestatic 164, 3) := by decide +kernel
theorem dJ2_indexOfSupplementary_4cfef_4 : decode cJ2_indexOfSupplementary_4cfef 4 = .ok (.ifCond .eq 65, 3) := by decide +kernel
theorem dJ2_indexOfSupplementary_4cfef_7 : decode cJ2_indexOfSupplementary_4cfef 7 = .ok (.iload_n 1, 1) := by decide +kernel
theorem dJ2_indexOfSupplementary_4cfef_8 : decode cJ2_indexOfSupplementary_4cfef 8 = .ok (.invokestatic 157, 3) := by decide +kernel
theorem dJ2_indexOfSupplementary_4cfef_11 : decode cJ2_indexOfSupplementary_4cfef 11 = .ok (.istore 4, 2) := by decide +kernel
theorem dJ2_indexOfSupplementary_4cfef_13 : decode cJ2_indexOfSupplementary_4cfef 13 = .ok (.iload_n 1, 1) := by decide +kernel
theorem dJ2_indexOfSupplementary_4cfef_14 : decode cJ2_indexOfSupplementary_4cfef 14 = .ok (.invokestatic 161, 3) := by decide +kernel
theorem dJ2_indexOfSupplementary_4cfef_17 : decode cJ2_indexOfSupplementary_4cfef 17 = .ok (.istore 5, 2) := by decide +kernel
theorem dJ2_indexOfSupplementary_4cfef_19 : decode cJ2_indexOfSupplementary_4cfef 19 = .ok (.iload_n 2, 1) := by decide +kernel
theorem dJ2_indexOfSupplementary_4cfef_20 : decode cJ2_indexOfSupplementary_4cfef 20 = .ok (.iload_n 3, 1) := by decide +kernel
theorem dJ2_indexOfSupplementary_4cfef_21 : decode cJ2_indexOfSupplementary_4cfef 21 = .ok (.aload_n 0, 1) := by decide +kernel
theorem dJ2_indexOfSupplementary_4cfef_22 : decode cJ2_indexOfSupplementary_4cfef 22 = .ok (.invokestatic 96, 3) := by decide +kernel
theorem dJ2_indexOfSupplementary_4cfef_25 : decode cJ2_indexOfSupplementary_4cfef 25 = .ok (.iload_n 2, 1) := by decide +kernel
theorem dJ2_indexOfSupplementary_4cfef_26 : decode cJ2_indexOfSupplementary_4cfef 26 = .ok (.istore 6, 2) := by decide +kernel
theorem dJ2_indexOfSupplementary_4cfef_28 : decode cJ2_indexOfSupplementary_4cfef 28 = .ok (.iload 6, 2) := by decide +kernel
theorem dJ2_indexOfSupplementary_4cfef_30 : decode cJ2_indexOfSupplementary_4cfef 30 = .ok (.iload_n 3, 1) := by decide +kernel
theorem dJ2_indexOfSupplementary_4cfef_31 : decode cJ2_indexOfSupplementary_4cfef 31 = .ok (.iconst 1, 1) := by decide +kernel
theorem dJ2_indexOfSupplementary_4cfef_32 : decode cJ2_indexOfSupplementary_4cfef 32 = .ok (.isub, 1) := by decide +kernel
theorem dJ2_indexOfSupplementary_4cfef_33 : decode cJ2_indexOfSupplementary_4cfef 33 = .ok (.if_icmp .ge 36, 3) := by decide +kernel
theorem dJ2_indexOfSupplementary_4cfef_36 : decode cJ2_indexOfSupplementary_4cfef 36 = .ok (.aload_n 0, 1) := by decide +kernel
theorem dJ2_indexOfSupplementary_4cfef_37 : decode cJ2_indexOfSupplementary_4cfef 37 = .ok (.iload 6, 2) := by decide +kernel
theorem dJ2_indexOfSupplementary_4cfef_39 : decode cJ2_indexOfSupplementary_4cfef 39 = .ok (.invokestatic 71, 3) := by decide +kernel
theorem dJ2_indexOfSupplementary_4cfef_42 : decode cJ2_indexOfSupplementary_4cfef 42 = .ok (.iload 4, 2) := by decide +kernel
theorem dJ2_indexOfSupplementary_4cfef_44 : decode cJ2_indexOfSupplementary_4cfef 44 = .ok (.if_icmp .ne 19, 3) := by decide +kernel
theorem dJ2_indexOfSupplementary_4cfef_47 : decode cJ2_indexOfSupplementary_4cfef 47 = .ok (.aload_n 0, 1) := by decide +kernel
theorem dJ2_indexOfSupplementary_4cfef_48 : decode cJ2_indexOfSupplementary_4cfef 48 = .ok (.iload 6, 2) := by decide +kernel
theorem dJ2_indexOfSupplementary_4cfef_50 : decode cJ2_indexOfSupplementary_4cfef 50 = .ok (.iconst 1, 1) := by decide +kernel
theorem dJ2_indexOfSupplementary_4cfef_51 : decode cJ2_indexOfSupplementary_4cfef 51 = .ok (.iadd, 1) := by decide +kernel
theorem dJ2_indexOfSupplementary_4cfef_52 : decode cJ2_indexOfSupplementary_4cfef 52 = .ok (.invokestatic 71, 3) := by decide +kernel
theorem dJ2_indexOfSupplementary_4cfef_55 : decode cJ2_indexOfSupplementary_4cfef 55 = .ok (.iload 5, 2) := by decide +kernel
theorem dJ2_indexOfSupplementary_4cfef_57 : decode cJ2_indexOfSupplementary_4cfef 57 = .ok (.if_icmp .ne 6, 3) := by decide +kernel
theorem dJ2_indexOfSupplementary_4cfef_60 : decode cJ2_indexOfSupplementary_4cfef 60 = .ok (.iload 6, 2) := by decide +kernel
theorem dJ2_indexOfSupplementary_4cfef_62 : decode cJ2_indexOfSupplementary_4cfef 62 = .ok (.ireturn, 1) := by decide +kernel
theorem dJ2_indexOfSupplementary_4cfef_63 : decode cJ2_indexOfSupplementary_4cfef 63 = .ok (.iinc 6 1, 3) := by decide +kernel
theorem dJ2_indexOfSupplementary_4cfef_66 : decode cJ2_indexOfSupplementary_4cfef 66 = .ok (.goto (-38), 3) := by decide +kernel
theorem dJ2_indexOfSupplementary_4cfef_69 : decode cJ2_indexOfSupplementary_4cfef 69 = .ok (.iconst (-1), 1) := by decide +kernel
theorem dJ2_indexOfSupplementary_4cfef_70 : decode cJ2_indexOfSupplementary_4cfef 70 = .ok (.ireturn, 1) := by decide +kernel
theorem dJ2_checkBoundsBeginEnd_d044e_0 : decode cJ2_checkBoundsBeginEnd_d044e 0 = .ok (.iload_n 0, 1) := by decide +kernel
theorem dJ2_checkBoundsBeginEnd_d044e_1 : decode cJ2_checkBoundsBeginEnd_d044e 1 = .ok (.iload_n 1, 1) := by decide +kernel
theorem dJ2_checkBoundsBeginEnd_d044e_2 : decode cJ2_checkBoundsBeginEnd_d044e 2 = .ok (.aload_n 2, 1) := by decide +kernel
theorem dJ2_checkBoundsBeginEnd_d044e_3 : decode cJ2_checkBoundsBeginEnd_d044e 3 = .ok (.invokestatic 48, 3) := by decide +kernel
theorem dJ2_checkBoundsBeginEnd_d044e_6 : decode cJ2_checkBoundsBeginEnd_d044e 6 = .ok (.invokestatic 241, 3) := by decide +kernel
theorem dJ2_checkBoundsBeginEnd_d044e_9 : decode cJ2_checkBoundsBeginEnd_d044e 9 = .ok (.return_, 1) := by decide +kernel
theorem dJ7_fill_53178_0 : decode cJ7_fill_53178 0 = .ok (.iconst 0, 1) := by decide +kernel
theorem dJ7_fill_53178_1 : decode cJ7_fill_53178 1 = .ok (.istore_n 2, 1) := by decide +kernel
theorem dJ7_fill_53178_2 : decode cJ7_fill_53178 2 = .ok (.aload_n 0, 1) := by decide +kernel
theorem dJ7_fill_53178_3 : decode cJ7_fill_53178 3 = .ok (.arraylength, 1) := by decide +kernel
theorem dJ7_fill_53178_4 : decode cJ7_fill_53178 4 = .ok (.istore_n 3, 1) := by decide +kernel
theorem dJ7_fill_53178_5 : decode cJ7_fill_53178 5 = .ok (.iload_n 2, 1) := by decide +kernel
theorem dJ7_fill_53178_6 : decode cJ7_fill_53178 6 = .ok (.iload_n 3, 1) := by decide +kernel
theorem dJ7_fill_53178_7 : decode cJ7_fill_53178 7 = .ok (.if_icmp .ge 13, 3) := by decide +kernel
theorem dJ7_fill_53178_10 : decode cJ7_fill_53178 10 = .ok (.aload_n 0, 1) := by decide +kernel
theorem dJ7_fill_53178_11 : decode cJ7_fill_53178 11 = .ok (.iload_n 2, 1) := by decide +kernel
theorem dJ7_fill_53178_12 : decode cJ7_fill_53178 12 = .ok (.iload_n 1, 1) := by decide +kernel
theorem dJ7_fill_53178_13 : decode cJ7_fill_53178 13 = .ok (.iastore, 1) := by decide +kernel
theorem dJ7_fill_53178_14 : decode cJ7_fill_53178 14 = .ok (.iinc 2 1, 3) := by decide +kernel
theorem dJ7_fill_53178_17 : decode cJ7_fill_53178 17 = .ok (.goto (-12), 3) := by decide +kernel
theorem dJ7_fill_53178_20 : decode cJ7_fill_53178 20 = .ok (.return_, 1) := by decide +kernel
theorem dJ3_checkFromToIndex_8c36e_0 : decode cJ3_checkFromToIndex_8c36e 0 = .ok (.iload_n 0, 1) := by decide +kernel
theorem dJ3_checkFromToIndex_8c36e_1 : decode cJ3_checkFromToIndex_8c36e 1 = .ok (.ifCond .lt 13, 3) := by decide +kernel
theorem dJ3_checkFromToIndex_8c36e_4 : decode cJ3_checkFromToIndex_8c36e 4 = .ok (.iload_n 0, 1) := by decide +kernel
theorem dJ3_checkFromToIndex_8c36e_5 : decode cJ3_checkFromToIndex_8c36e 5 = .ok (.iload_n 1, 1) := by decide +kernel
theorem dJ3_checkFromToIndex_8c36e_6 : decode cJ3_checkFromToIndex_8c36e 6 = .ok (.if_icmp .gt 8, 3) := by decide +kernel
theorem dJ3_checkFromToIndex_8c36e_9 : decode cJ3_checkFromToIndex_8c36e 9 = .ok (.iload_n 1, 1) := by decide +kernel
theorem dJ3_checkFromToIndex_8c36e_10 : decode cJ3_checkFromToIndex_8c36e 10 = .ok (.iload_n 2, 1) := by decide +kernel
theorem dJ3_checkFromToIndex_8c36e_11 : decode cJ3_checkFromToIndex_8c36e 11 = .ok (.if_icmp .le 11, 3) := by decide +kernel
theorem dJ3_checkFromToIndex_8c36e_14 : decode cJ3_checkFromToIndex_8c36e 14 = .ok (.aload_n 3, 1) := by decide +kernel
theorem dJ3_checkFromToIndex_8c36e_15 : decode cJ3_checkFromToIndex_8c36e 15 = .ok (.iload_n 0, 1) := by decide +kernel
theorem dJ3_checkFromToIndex_8c36e_16 : decode cJ3_checkFromToIndex_8c36e 16 = .ok (.iload_n 1, 1) := by decide +kernel
theorem dJ3_checkFromToIndex_8c36e_17 : decode cJ3_checkFromToIndex_8c36e 17 = .ok (.iload_n 2, 1) := by decide +kernel
theorem dJ3_checkFromToIndex_8c36e_18 : decode cJ3_checkFromToIndex_8c36e 18 = .ok (.invokestatic 99, 3) := by decide +kernel
theorem dJ3_checkFromToIndex_8c36e_21 : decode cJ3_checkFromToIndex_8c36e 21 = .ok (.athrow, 1) := by decide +kernel
theorem dJ3_checkFromToIndex_8c36e_22 : decode cJ3_checkFromToIndex_8c36e 22 = .ok (.iload_n 0, 1) := by decide +kernel
theorem dJ3_checkFromToIndex_8c36e_23 : decode cJ3_checkFromToIndex_8c36e 23 = .ok (.ireturn, 1) := by decide +kernel
theorem dL_law_0 : decode cL_law 0 = .ok (.new 7, 3) := by decide +kernel
theorem dL_law_3 : decode cL_law 3 = .ok (.dup, 1) := by decide +kernel
theorem dL_law_4 : decode cL_law 4 = .ok (.invokespecial 9, 3) := by decide +kernel
theorem dL_law_7 : decode cL_law 7 = .ok (.astore_n 1, 1) := by decide +kernel
theorem dL_law_8 : decode cL_law 8 = .ok (.new 10, 3) := by decide +kernel
theorem dL_law_11 : decode cL_law 11 = .ok (.dup, 1) := by decide +kernel
theorem dL_law_12 : decode cL_law 12 = .ok (.invokespecial 12, 3) := by decide +kernel
theorem dL_law_15 : decode cL_law 15 = .ok (.astore_n 2, 1) := by decide +kernel
theorem dL_law_16 : decode cL_law 16 = .ok (.iconst 0, 1) := by decide +kernel
theorem dL_law_17 : decode cL_law 17 = .ok (.istore_n 3, 1) := by decide +kernel
theorem dL_law_18 : decode cL_law 18 = .ok (.iload_n 3, 1) := by decide +kernel
theorem dL_law_19 : decode cL_law 19 = .ok (.aload_n 0, 1) := by decide +kernel
theorem dL_law_20 : decode cL_law 20 = .ok (.arraylength, 1) := by decide +kernel
theorem dL_law_21 : decode cL_law 21 = .ok (.bipush 6, 2) := by decide +kernel
theorem dL_law_23 : decode cL_law 23 = .ok (.isub, 1) := by decide +kernel
theorem dL_law_24 : decode cL_law 24 = .ok (.if_icmp .gt 1101, 3) := by decide +kernel
theorem dL_law_27 : decode cL_law 27 = .ok (.aload_n 0, 1) := by decide +kernel
theorem dL_law_28 : decode cL_law 28 = .ok (.iload_n 3, 1) := by decide +kernel
theorem dL_law_29 : decode cL_law 29 = .ok (.iaload, 1) := by decide +kernel
theorem dL_law_30 : decode cL_law 30 = .ok (.bipush 31, 2) := by decide +kernel
theorem dL_law_32 : decode cL_law 32 = .ok (.iand, 1) := by decide +kernel
theorem dL_law_33 : decode cL_law 33 = .ok (.tableswitch 1086 0 29 #[135, 198, 231, 274, 297, 340, 373, 406, 459, 482, 515, 538, 571, 614, 637, 670, 693, 706, 729, 772, 815, 838, 882, 915, 948, 971, 994, 1007, 1020, 1063], 135) := by decide +kernel
theorem dL_law_168 : decode cL_law 168 = .ok (.aload_n 1, 1) := by decide +kernel
theorem dL_law_169 : decode cL_law 169 = .ok (.aload_n 0, 1) := by decide +kernel
theorem dL_law_170 : decode cL_law 170 = .ok (.iload_n 3, 1) := by decide +kernel
theorem dL_law_171 : decode cL_law 171 = .ok (.iconst 1, 1) := by decide +kernel
theorem dL_law_172 : decode cL_law 172 = .ok (.iadd, 1) := by decide +kernel
theorem dL_law_173 : decode cL_law 173 = .ok (.iaload, 1) := by decide +kernel
theorem dL_law_174 : decode cL_law 174 = .ok (.aload_n 0, 1) := by decide +kernel
theorem dL_law_175 : decode cL_law 175 = .ok (.iload_n 3, 1) := by decide +kernel
theorem dL_law_176 : decode cL_law 176 = .ok (.iconst 2, 1) := by decide +kernel
theorem dL_law_177 : decode cL_law 177 = .ok (.iadd, 1) := by decide +kernel
theorem dL_law_178 : decode cL_law 178 = .ok (.iaload, 1) := by decide +kernel
theorem dL_law_179 : decode cL_law 179 = .ok (.aload_n 0, 1) := by decide +kernel
theorem dL_law_180 : decode cL_law 180 = .ok (.iload_n 3, 1) := by decide +kernel
theorem dL_law_181 : decode cL_law 181 = .ok (.iconst 3, 1) := by decide +kernel
theorem dL_law_182 : decode cL_law 182 = .ok (.iadd, 1) := by decide +kernel
theorem dL_law_183 : decode cL_law 183 = .ok (.iaload, 1) := by decide +kernel
theorem dL_law_184 : decode cL_law 184 = .ok (.aload_n 0, 1) := by decide +kernel
theorem dL_law_185 : decode cL_law 185 = .ok (.iload_n 3, 1) := by decide +kernel
theorem dL_law_186 : decode cL_law 186 = .ok (.iconst 4, 1) := by decide +kernel
theorem dL_law_187 : decode cL_law 187 = .ok (.iadd, 1) := by decide +kernel
theorem dL_law_188 : decode cL_law 188 = .ok (.iaload, 1) := by decide +kernel
theorem dL_law_189 : decode cL_law 189 = .ok (.aload_n 0, 1) := by decide +kernel
theorem dL_law_190 : decode cL_law 190 = .ok (.iload_n 3, 1) := by decide +kernel
theorem dL_law_191 : decode cL_law 191 = .ok (.iconst 5, 1) := by decide +kernel
theorem dL_law_192 : decode cL_law 192 = .ok (.iadd, 1) := by decide +kernel
theorem dL_law_193 : decode cL_law 193 = .ok (.iaload, 1) := by decide +kernel
theorem dL_law_194 : decode cL_law 194 = .ok (.invokevirtual 13, 3) := by decide +kernel
theorem dL_law_197 : decode cL_law 197 = .ok (.aload_n 2, 1) := by decide +kernel
theorem dL_law_198 : decode cL_law 198 = .ok (.aload_n 0, 1) := by decide +kernel
theorem dL_law_199 : decode cL_law 199 = .ok (.iload_n 3, 1) := by decide +kernel
theorem dL_law_200 : decode cL_law 200 = .ok (.iconst 1, 1) := by decide +kernel
theorem dL_law_201 : decode cL_law 201 = .ok (.iadd, 1) := by decide +kernel
theorem dL_law_202 : decode cL_law 202 = .ok (.iaload, 1) := by decide +kernel
theorem dL_law_203 : decode cL_law 203 = .ok (.aload_n 0, 1) := by decide +kernel
theorem dL_law_204 : decode cL_law 204 = .ok (.iload_n 3, 1) := by decide +kernel
theorem dL_law_205 : decode cL_law 205 = .ok (.iconst 2, 1) := by decide +kernel
theorem dL_law_206 : decode cL_law 206 = .ok (.iadd, 1) := by decide +kernel
theorem dL_law_207 : decode cL_law 207 = .ok (.iaload, 1) := by decide +kernel
theorem dL_law_208 : decode cL_law 208 = .ok (.aload_n 0, 1) := by decide +kernel
theorem dL_law_209 : decode cL_law 209 = .ok (.iload_n 3, 1) := by decide +kernel
theorem dL_law_210 : decode cL_law 210 = .ok (.iconst 3, 1) := by decide +kernel
theorem dL_law_211 : decode cL_law 211 = .ok (.iadd, 1) := by decide +kernel
theorem dL_law_212 : decode cL_law 212 = .ok (.iaload, 1) := by decide +kernel
theorem dL_law_213 : decode cL_law 213 = .ok (.aload_n 0, 1) := by decide +kernel
theorem dL_law_214 : decode cL_law 214 = .ok (.iload_n 3, 1) := by decide +kernel
theorem dL_law_215 : decode cL_law 215 = .ok (.iconst 4, 1) := by decide +kernel
theorem dL_law_216 : decode cL_law 216 = .ok (.iadd, 1) := by decide +kernel
theorem dL_law_217 : decode cL_law 217 = .ok (.iaload, 1) := by decide +kernel
theorem dL_law_218 : decode cL_law 218 = .ok (.aload_n 0, 1) := by decide +kernel
theorem dL_law_219 : decode cL_law 219 = .ok (.iload_n 3, 1) := by decide +kernel
theorem dL_law_220 : decode cL_law 220 = .ok (.iconst 5, 1) := by decide +kernel
theorem dL_law_221 : decode cL_law 221 = .ok (.iadd, 1) := by decide +kernel
theorem dL_law_222 : decode cL_law 222 = .ok (.iaload, 1) := by decide +kernel
theorem dL_law_223 : decode cL_law 223 = .ok (.invokevirtual 17, 3) := by decide +kernel
theorem dL_law_226 : decode cL_law 226 = .ok (.if_icmp .eq 893, 3) := by decide +kernel
theorem dL_law_229 : decode cL_law 229 = .ok (.iconst 0, 1) := by decide +kernel
theorem dL_law_230 : decode cL_law 230 = .ok (.ireturn, 1) := by decide +kernel
theorem dL_law_231 : decode cL_law 231 = .ok (.aload_n 1, 1) := by decide +kernel
theorem dL_law_232 : decode cL_law 232 = .ok (.aload_n 0, 1) := by decide +kernel
theorem dL_law_233 : decode cL_law 233 = .ok (.iload_n 3, 1) := by decide +kernel
theorem dL_law_234 : decode cL_law 234 = .ok (.iconst 1, 1) := by decide +kernel
theorem dL_law_235 : decode cL_law 235 = .ok (.iadd, 1) := by decide +kernel
theorem dL_law_236 : decode cL_law 236 = .ok (.iaload, 1) := by decide +kernel
theorem dL_law_237 : decode cL_law 237 = .ok (.aload_n 0, 1) := by decide +kernel
theorem dL_law_238 : decode cL_law 238 = .ok (.iload_n 3, 1) := by decide +kernel
theorem dL_law_239 : decode cL_law 239 = .ok (.iconst 2, 1) := by decide +kernel
theorem dL_law_240 : decode cL_law 240 = .ok (.iadd, 1) := by decide +kernel
theorem dL_law_241 : decode cL_law 241 = .ok (.iaload, 1) := by decide +kernel
theorem dL_law_242 : decode cL_law 242 = .ok (.invokevirtual 18, 3) := by decide +kernel
theorem dL_law_245 : decode cL_law 245 = .ok (.aload_n 2, 1) := by decide +kernel
theorem dL_law_246 : decode cL_law 246 = .ok (.aload_n 0, 1) := by decide +kernel
theorem dL_law_247 : decode cL_law 247 = .ok (.iload_n 3, 1) := by decide +kernel
theorem dL_law_248 : decode cL_law 248 = .ok (.iconst 1, 1) := by decide +kernel
theorem dL_law_249 : decode cL_law 249 = .ok (.iadd, 1) := by decide +kernel
theorem dL_law_250 : decode cL_law 250 = .ok (.iaload, 1) := by decide +kernel
theorem dL_law_251 : decode cL_law 251 = .ok (.aload_n 0, 1) := by decide +kernel
theorem dL_law_252 : decode cL_law 252 = .ok (.iload_n 3, 1) := by decide +kernel
theorem dL_law_253 : decode cL_law 253 = .ok (.iconst 2, 1) := by decide +kernel
theorem dL_law_254 : decode cL_law 254 = .ok (.iadd, 1) := by decide +kernel
theorem dL_law_255 : decode cL_law 255 = .ok (.iaload, 1) := by decide +kernel
theorem dL_law_256 : decode cL_law 256 = .ok (.invokevirtual 22, 3) := by decide +kernel
theorem dL_law_259 : decode cL_law 259 = .ok (.if_icmp .eq 860, 3) := by decide +kernel
theorem dL_law_262 : decode cL_law 262 = .ok (.iconst 0, 1) := by decide +kernel
theorem dL_law_263 : decode cL_law 263 = .ok (.ireturn, 1) := by decide +kernel
theorem dL_law_264 : decode cL_law 264 = .ok (.aload_n 1, 1) := by decide +kernel
theorem dL_law_265 : decode cL_law 265 = .ok (.aload_n 0, 1) := by decide +kernel
theorem dL_law_266 : decode cL_law 266 = .ok (.iload_n 3, 1) := by decide +kernel
theorem dL_law_267 : decode cL_law 267 = .ok (.iconst 1, 1) := by decide +kernel
theorem dL_law_268 : decode cL_law 268 = .ok (.iadd, 1) := by decide +kernel
theorem dL_law_269 : decode cL_law 269 = .ok (.iaload, 1) := by decide +kernel
theorem dL_law_270 : decode cL_law 270 = .ok (.aload_n 0, 1) := by decide +kernel
theorem dL_law_271 : decode cL_law 271 = .ok (.iload_n 3, 1) := by decide +kernel
theorem dL_law_272 : decode cL_law 272 = .ok (.iconst 2, 1) := by decide +kernel
theorem dL_law_273 : decode cL_law 273 = .ok (.iadd, 1) := by decide +kernel
theorem dL_law_274 : decode cL_law 274 = .ok (.iaload, 1) := by decide +kernel
theorem dL_law_275 : decode cL_law 275 = .ok (.aload_n 0, 1) := by decide +kernel
theorem dL_law_276 : decode cL_law 276 = .ok (.iload_n 3, 1) := by decide +kernel
theorem dL_law_277 : decode cL_law 277 = .ok (.iconst 3, 1) := by decide +kernel
theorem dL_law_278 : decode cL_law 278 = .ok (.iadd, 1) := by decide +kernel
theorem dL_law_279 : decode cL_law 279 = .ok (.iaload, 1) := by decide +kernel
theorem dL_law_280 : decode cL_law 280 = .ok (.invokevirtual 23, 3) := by decide +kernel
theorem dL_law_283 : decode cL_law 283 = .ok (.aload_n 2, 1) := by decide +kernel
theorem dL_law_284 : decode cL_law 284 = .ok (.aload_n 0, 1) := by decide +kernel
theorem dL_law_285 : decode cL_law 285 = .ok (.iload_n 3, 1) := by decide +kernel
theorem dL_law_286 : decode cL_law 286 = .ok (.iconst 1, 1) := by decide +kernel
theorem dL_law_287 : decode cL_law 287 = .ok (.iadd, 1) := by decide +kernel
theorem dL_law_288 : decode cL_law 288 = .ok (.iaload, 1) := by decide +kernel
theorem dL_law_289 : decode cL_law 289 = .ok (.aload_n 0, 1) := by decide +kernel
theorem dL_law_290 : decode cL_law 290 = .ok (.iload_n 3, 1) := by decide +kernel
theorem dL_law_291 : decode cL_law 291 = .ok (.iconst 2, 1) := by decide +kernel
theorem dL_law_292 : decode cL_law 292 = .ok (.iadd, 1) := by decide +kernel
theorem dL_law_293 : decode cL_law 293 = .ok (.iaload, 1) := by decide +kernel
theorem dL_law_294 : decode cL_law 294 = .ok (.aload_n 0, 1) := by decide +kernel
theorem dL_law_295 : decode cL_law 295 = .ok (.iload_n 3, 1) := by decide +kernel
theorem dL_law_296 : decode cL_law 296 = .ok (.iconst 3, 1) := by decide +kernel
theorem dL_law_297 : decode cL_law 297 = .ok (.iadd, 1) := by decide +kernel
theorem dL_law_298 : decode cL_law 298 = .ok (.iaload, 1) := by decide +kernel
theorem dL_law_299 : decode cL_law 299 = .ok (.invokevirtual 27, 3) := by decide +kernel
theorem dL_law_302 : decode cL_law 302 = .ok (.if_icmp .eq 817, 3) := by decide +kernel
theorem dL_law_305 : decode cL_law 305 = .ok (.iconst 0, 1) := by decide +kernel
theorem dL_law_306 : decode cL_law 306 = .ok (.ireturn, 1) := by decide +kernel
theorem dL_law_307 : decode cL_law 307 = .ok (.aload_n 1, 1) := by decide +kernel
theorem dL_law_308 : decode cL_law 308 = .ok (.aload_n 0, 1) := by decide +kernel
theorem dL_law_309 : decode cL_law 309 = .ok (.iload_n 3, 1) := by decide +kernel
theorem dL_law_310 : decode cL_law 310 = .ok (.iconst 1, 1) := by decide +kernel
theorem dL_law_311 : decode cL_law 311 = .ok (.iadd, 1) := by decide +kernel
theorem dL_law_312 : decode cL_law 312 = .ok (.iaload, 1) := by decide +kernel
theorem dL_law_313 : decode cL_law 313 = .ok (.invokevirtual 28, 3) := by decide +kernel
theorem dL_law_316 : decode cL_law 316 = .ok (.aload_n 2, 1) := by decide +kernel
theorem dL_law_317 : decode cL_law 317 = .ok (.aload_n 0, 1) := by decide +kernel
theorem dL_law_318 : decode cL_law 318 = .ok (.iload_n 3, 1) := by decide +kernel
theorem dL_law_319 : decode cL_law 319 = .ok (.iconst 1, 1) := by decide +kernel
theorem dL_law_320 : decode cL_law 320 = .ok (.iadd, 1) := by decide +kernel
theorem dL_law_321 : decode cL_law 321 = .ok (.iaload, 1) := by decide +kernel
theorem dL_law_322 : decode cL_law 322 = .ok (.invokevirtual 32, 3) := by decide +kernel
theorem dL_law_325 : decode cL_law 325 = .ok (.if_icmp .eq 794, 3) := by decide +kernel
theorem dL_law_328 : decode cL_law 328 = .ok (.iconst 0, 1) := by decide +kernel
theorem dL_law_329 : decode cL_law 329 = .ok (.ireturn, 1) := by decide +kernel
theorem dL_law_330 : decode cL_law 330 = .ok (.aload_n 1, 1) := by decide +kernel
theorem dL_law_331 : decode cL_law 331 = .ok (.aload_n 0, 1) := by decide +kernel
theorem dL_law_332 : decode cL_law 332 = .ok (.iload_n 3, 1) := by decide +kernel
theorem dL_law_333 : decode cL_law 333 = .ok (.iconst 1, 1) := by decide +kernel
theorem dL_law_334 : decode cL_law 334 = .ok (.iadd, 1) := by decide +kernel
theorem dL_law_335 : decode cL_law 335 = .ok (.iaload, 1) := by decide +kernel
theorem dL_law_336 : decode cL_law 336 = .ok (.aload_n 0, 1) := by decide +kernel
theorem dL_law_337 : decode cL_law 337 = .ok (.iload_n 3, 1) := by decide +kernel
theorem dL_law_338 : decode cL_law 338 = .ok (.iconst 2, 1) := by decide +kernel
theorem dL_law_339 : decode cL_law 339 = .ok (.iadd, 1) := by decide +kernel
theorem dL_law_340 : decode cL_law 340 = .ok (.iaload, 1) := by decide +kernel
theorem dL_law_341 : decode cL_law 341 = .ok (.aload_n 0, 1) := by decide +kernel
theorem dL_law_342 : decode cL_law 342 = .ok (.iload_n 3, 1) := by decide +kernel
theorem dL_law_343 : decode cL_law 343 = .ok (.iconst 3, 1) := by decide +kernel
theorem dL_law_344 : decode cL_law 344 = .ok (.iadd, 1) := by decide +kernel
theorem dL_law_345 : decode cL_law 345 = .ok (.iaload, 1) := by decide +kernel
theorem dL_law_346 : decode cL_law 346 = .ok (.invokevirtual 33, 3) := by decide +kernel
theorem dL_law_349 : decode cL_law 349 = .ok (.aload_n 2, 1) := by decide +kernel
theorem dL_law_350 : decode cL_law 350 = .ok (.aload_n 0, 1) := by decide +kernel
theorem dL_law_351 : decode cL_law 351 = .ok (.iload_n 3, 1) := by decide +kernel
theorem dL_law_352 : decode cL_law 352 = .ok (.iconst 1, 1) := by decide +kernel
theorem dL_law_353 : decode cL_law 353 = .ok (.iadd, 1) := by decide +kernel
theorem dL_law_354 : decode cL_law 354 = .ok (.iaload, 1) := by decide +kernel
theorem dL_law_355 : decode cL_law 355 = .ok (.aload_n 0, 1) := by decide +kernel
theorem dL_law_356 : decode cL_law 356 = .ok (.iload_n 3, 1) := by decide +kernel
theorem dL_law_357 : decode cL_law 357 = .ok (.iconst 2, 1) := by decide +kernel
theorem dL_law_358 : decode cL_law 358 = .ok (.iadd, 1) := by decide +kernel
theorem dL_law_359 : decode cL_law 359 = .ok (.iaload, 1) := by decide +kernel
theorem dL_law_360 : decode cL_law 360 = .ok (.aload_n 0, 1) := by decide +kernel
theorem dL_law_361 : decode cL_law 361 = .ok (.iload_n 3, 1) := by decide +kernel
theorem dL_law_362 : decode cL_law 362 = .ok (.iconst 3, 1) := by decide +kernel
theorem dL_law_363 : decode cL_law 363 = .ok (.iadd, 1) := by decide +kernel
theorem dL_law_364 : decode cL_law 364 = .ok (.iaload, 1) := by decide +kernel
theorem dL_law_365 : decode cL_law 365 = .ok (.invokevirtual 37, 3) := by decide +kernel
theorem dL_law_368 : decode cL_law 368 = .ok (.if_icmp .eq 751, 3) := by decide +kernel
theorem dL_law_371 : decode cL_law 371 = .ok (.iconst 0, 1) := by decide +kernel
theorem dL_law_372 : decode cL_law 372 = .ok (.ireturn, 1) := by decide +kernel
theorem dL_law_373 : decode cL_law 373 = .ok (.aload_n 1, 1) := by decide +kernel
theorem dL_law_374 : decode cL_law 374 = .ok (.aload_n 0, 1) := by decide +kernel
theorem dL_law_375 : decode cL_law 375 = .ok (.iload_n 3, 1) := by decide +kernel
theorem dL_law_376 : decode cL_law 376 = .ok (.iconst 1, 1) := by decide +kernel
theorem dL_law_377 : decode cL_law 377 = .ok (.iadd, 1) := by decide +kernel
theorem dL_law_378 : decode cL_law 378 = .ok (.iaload, 1) := by decide +kernel
theorem dL_law_379 : decode cL_law 379 = .ok (.aload_n 0, 1) := by decide +kernel
theorem dL_law_380 : decode cL_law 380 = .ok (.iload_n 3, 1) := by decide +kernel
theorem dL_law_381 : decode cL_law 381 = .ok (.iconst 2, 1) := by decide +kernel
theorem dL_law_382 : decode cL_law 382 = .ok (.iadd, 1) := by decide +kernel
theorem dL_law_383 : decode cL_law 383 = .ok (.iaload, 1) := by decide +kernel
theorem dL_law_384 : decode cL_law 384 = .ok (.invokevirtual 38, 3) := by decide +kernel
theorem dL_law_387 : decode cL_law 387 = .ok (.aload_n 2, 1) := by decide +kernel
theorem dL_law_388 : decode cL_law 388 = .ok (.aload_n 0, 1) := by decide +kernel
theorem dL_law_389 : decode cL_law 389 = .ok (.iload_n 3, 1) := by decide +kernel
theorem dL_law_390 : decode cL_law 390 = .ok (.iconst 1, 1) := by decide +kernel
theorem dL_law_391 : decode cL_law 391 = .ok (.iadd, 1) := by decide +kernel
theorem dL_law_392 : decode cL_law 392 = .ok (.iaload, 1) := by decide +kernel
theorem dL_law_393 : decode cL_law 393 = .ok (.aload_n 0, 1) := by decide +kernel
theorem dL_law_394 : decode cL_law 394 = .ok (.iload_n 3, 1) := by decide +kernel
theorem dL_law_395 : decode cL_law 395 = .ok (.iconst 2, 1) := by decide +kernel
theorem dL_law_396 : decode cL_law 396 = .ok (.iadd, 1) := by decide +kernel
theorem dL_law_397 : decode cL_law 397 = .ok (.iaload, 1) := by decide +kernel
theorem dL_law_398 : decode cL_law 398 = .ok (.invokevirtual 42, 3) := by decide +kernel
theorem dL_law_401 : decode cL_law 401 = .ok (.if_icmp .eq 718, 3) := by decide +kernel
theorem dL_law_404 : decode cL_law 404 = .ok (.iconst 0, 1) := by decide +kernel
theorem dL_law_405 : decode cL_law 405 = .ok (.ireturn, 1) := by decide +kernel
theorem dL_law_406 : decode cL_law 406 = .ok (.aload_n 1, 1) := by decide +kernel
theorem dL_law_407 : decode cL_law 407 = .ok (.aload_n 0, 1) := by decide +kernel
theorem dL_law_408 : decode cL_law 408 = .ok (.iload_n 3, 1) := by decide +kernel
theorem dL_law_409 : decode cL_law 409 = .ok (.iconst 1, 1) := by decide +kernel
theorem dL_law_410 : decode cL_law 410 = .ok (.iadd, 1) := by decide +kernel
theorem dL_law_411 : decode cL_law 411 = .ok (.iaload, 1) := by decide +kernel
theorem dL_law_412 : decode cL_law 412 = .ok (.aload_n 0, 1) := by decide +kernel
theorem dL_law_413 : decode cL_law 413 = .ok (.iload_n 3, 1) := by decide +kernel
theorem dL_law_414 : decode cL_law 414 = .ok (.iconst 2, 1) := by decide +kernel
theorem dL_law_415 : decode cL_law 415 = .ok (.iadd, 1) := by decide +kernel
theorem dL_law_416 : decode cL_law 416 = .ok (.iaload, 1) := by decide +kernel
theorem dL_law_417 : decode cL_law 417 = .ok (.invokevirtual 43, 3) := by decide +kernel
theorem dL_law_420 : decode cL_law 420 = .ok (.aload_n 2, 1) := by decide +kernel
theorem dL_law_421 : decode cL_law 421 = .ok (.aload_n 0, 1) := by decide +kernel
theorem dL_law_422 : decode cL_law 422 = .ok (.iload_n 3, 1) := by decide +kernel
theorem dL_law_423 : decode cL_law 423 = .ok (.iconst 1, 1) := by decide +kernel
theorem dL_law_424 : decode cL_law 424 = .ok (.iadd, 1) := by decide +kernel
theorem dL_law_425 : decode cL_law 425 = .ok (.iaload, 1) := by decide +kernel
theorem dL_law_426 : decode cL_law 426 = .ok (.aload_n 0, 1) := by decide +kernel
theorem dL_law_427 : decode cL_law 427 = .ok (.iload_n 3, 1) := by decide +kernel
theorem dL_law_428 : decode cL_law 428 = .ok (.iconst 2, 1) := by decide +kernel
theorem dL_law_429 : decode cL_law 429 = .ok (.iadd, 1) := by decide +kernel
theorem dL_law_430 : decode cL_law 430 = .ok (.iaload, 1) := by decide +kernel
theorem dL_law_431 : decode cL_law 431 = .ok (.invokevirtual 46, 3) := by decide +kernel
theorem dL_law_434 : decode cL_law 434 = .ok (.if_icmp .eq 685, 3) := by decide +kernel
theorem dL_law_437 : decode cL_law 437 = .ok (.iconst 0, 1) := by decide +kernel
theorem dL_law_438 : decode cL_law 438 = .ok (.ireturn, 1) := by decide +kernel
theorem dL_law_439 : decode cL_law 439 = .ok (.aload_n 1, 1) := by decide +kernel
theorem dL_law_440 : decode cL_law 440 = .ok (.aload_n 0, 1) := by decide +kernel
theorem dL_law_441 : decode cL_law 441 = .ok (.iload_n 3, 1) := by decide +kernel
theorem dL_law_442 : decode cL_law 442 = .ok (.iconst 1, 1) := by decide +kernel
theorem dL_law_443 : decode cL_law 443 = .ok (.iadd, 1) := by decide +kernel
theorem dL_law_444 : decode cL_law 444 = .ok (.iaload, 1) := by decide +kernel
theorem dL_law_445 : decode cL_law 445 = .ok (.aload_n 0, 1) := by decide +kernel
theorem dL_law_446 : decode cL_law 446 = .ok (.iload_n 3, 1) := by decide +kernel
theorem dL_law_447 : decode cL_law 447 = .ok (.iconst 2, 1) := by decide +kernel
theorem dL_law_448 : decode cL_law 448 = .ok (.iadd, 1) := by decide +kernel
theorem dL_law_449 : decode cL_law 449 = .ok (.iaload, 1) := by decide +kernel
theorem dL_law_450 : decode cL_law 450 = .ok (.aload_n 0, 1) := by decide +kernel
theorem dL_law_451 : decode cL_law 451 = .ok (.iload_n 3, 1) := by decide +kernel
theorem dL_law_452 : decode cL_law 452 = .ok (.iconst 3, 1) := by decide +kernel
theorem dL_law_453 : decode cL_law 453 = .ok (.iadd, 1) := by decide +kernel
theorem dL_law_454 : decode cL_law 454 = .ok (.iaload, 1) := by decide +kernel
theorem dL_law_455 : decode cL_law 455 = .ok (.aload_n 0, 1) := by decide +kernel
theorem dL_law_456 : decode cL_law 456 = .ok (.iload_n 3, 1) := by decide +kernel
theorem dL_law_457 : decode cL_law 457 = .ok (.iconst 4, 1) := by decide +kernel
theorem dL_law_458 : decode cL_law 458 = .ok (.iadd, 1) := by decide +kernel
theorem dL_law_459 : decode cL_law 459 = .ok (.iaload, 1) := by decide +kernel
theorem dL_law_460 : decode cL_law 460 = .ok (.invokevirtual 47, 3) := by decide +kernel
theorem dL_law_463 : decode cL_law 463 = .ok (.aload_n 2, 1) := by decide +kernel
theorem dL_law_464 : decode cL_law 464 = .ok (.aload_n 0, 1) := by decide +kernel
theorem dL_law_465 : decode cL_law 465 = .ok (.iload_n 3, 1) := by decide +kernel
theorem dL_law_466 : decode cL_law 466 = .ok (.iconst 1, 1) := by decide +kernel
theorem dL_law_467 : decode cL_law 467 = .ok (.iadd, 1) := by decide +kernel
theorem dL_law_468 : decode cL_law 468 = .ok (.iaload, 1) := by decide +kernel
theorem dL_law_469 : decode cL_law 469 = .ok (.aload_n 0, 1) := by decide +kernel
theorem dL_law_470 : decode cL_law 470 = .ok (.iload_n 3, 1) := by decide +kernel
theorem dL_law_471 : decode cL_law 471 = .ok (.iconst 2, 1) := by decide +kernel
theorem dL_law_472 : decode cL_law 472 = .ok (.iadd, 1) := by decide +kernel
theorem dL_law_473 : decode cL_law 473 = .ok (.iaload, 1) := by decide +kernel
theorem dL_law_474 : decode cL_law 474 = .ok (.aload_n 0, 1) := by decide +kernel
theorem dL_law_475 : decode cL_law 475 = .ok (.iload_n 3, 1) := by decide +kernel
theorem dL_law_476 : decode cL_law 476 = .ok (.iconst 3, 1) := by decide +kernel
theorem dL_law_477 : decode cL_law 477 = .ok (.iadd, 1) := by decide +kernel
theorem dL_law_478 : decode cL_law 478 = .ok (.iaload, 1) := by decide +kernel
theorem dL_law_479 : decode cL_law 479 = .ok (.aload_n 0, 1) := by decide +kernel
theorem dL_law_480 : decode cL_law 480 = .ok (.iload_n 3, 1) := by decide +kernel
theorem dL_law_481 : decode cL_law 481 = .ok (.iconst 4, 1) := by decide +kernel
theorem dL_law_482 : decode cL_law 482 = .ok (.iadd, 1) := by decide +kernel
theorem dL_law_483 : decode cL_law 483 = .ok (.iaload, 1) := by decide +kernel
theorem dL_law_484 : decode cL_law 484 = .ok (.invokevirtual 51, 3) := by decide +kernel
theorem dL_law_487 : decode cL_law 487 = .ok (.if_icmp .eq 632, 3) := by decide +kernel
theorem dL_law_490 : decode cL_law 490 = .ok (.iconst 0, 1) := by decide +kernel
theorem dL_law_491 : decode cL_law 491 = .ok (.ireturn, 1) := by decide +kernel
theorem dL_law_492 : decode cL_law 492 = .ok (.aload_n 1, 1) := by decide +kernel
theorem dL_law_493 : decode cL_law 493 = .ok (.aload_n 0, 1) := by decide +kernel
theorem dL_law_494 : decode cL_law 494 = .ok (.iload_n 3, 1) := by decide +kernel
theorem dL_law_495 : decode cL_law 495 = .ok (.iconst 1, 1) := by decide +kernel
theorem dL_law_496 : decode cL_law 496 = .ok (.iadd, 1) := by decide +kernel
theorem dL_law_497 : decode cL_law 497 = .ok (.iaload, 1) := by decide +kernel
theorem dL_law_498 : decode cL_law 498 = .ok (.invokevirtual 52, 3) := by decide +kernel
theorem dL_law_501 : decode cL_law 501 = .ok (.aload_n 2, 1) := by decide +kernel
theorem dL_law_502 : decode cL_law 502 = .ok (.aload_n 0, 1) := by decide +kernel
theorem dL_law_503 : decode cL_law 503 = .ok (.iload_n 3, 1) := by decide +kernel
theorem dL_law_504 : decode cL_law 504 = .ok (.iconst 1, 1) := by decide +kernel
theorem dL_law_505 : decode cL_law 505 = .ok (.iadd, 1) := by decide +kernel
theorem dL_law_506 : decode cL_law 506 = .ok (.iaload, 1) := by decide +kernel
theorem dL_law_507 : decode cL_law 507 = .ok (.invokevirtual 56, 3) := by decide +kernel
theorem dL_law_510 : decode cL_law 510 = .ok (.if_icmp .eq 609, 3) := by decide +kernel
theorem dL_law_513 : decode cL_law 513 = .ok (.iconst 0, 1) := by decide +kernel
theorem dL_law_514 : decode cL_law 514 = .ok (.ireturn, 1) := by decide +kernel
theorem dL_law_515 : decode cL_law 515 = .ok (.aload_n 1, 1) := by decide +kernel
theorem dL_law_516 : decode cL_law 516 = .ok (.aload_n 0, 1) := by decide +kernel
theorem dL_law_517 : decode cL_law 517 = .ok (.iload_n 3, 1) := by decide +kernel
theorem dL_law_518 : decode cL_law 518 = .ok (.iconst 1, 1) := by decide +kernel
theorem dL_law_519 : decode cL_law 519 = .ok (.iadd, 1) := by decide +kernel
theorem dL_law_520 : decode cL_law 520 = .ok (.iaload, 1) := by decide +kernel
theorem dL_law_521 : decode cL_law 521 = .ok (.aload_n 0, 1) := by decide +kernel
theorem dL_law_522 : decode cL_law 522 = .ok (.iload_n 3, 1) := by decide +kernel
theorem dL_law_523 : decode cL_law 523 = .ok (.iconst 2, 1) := by decide +kernel
theorem dL_law_524 : decode cL_law 524 = .ok (.iadd, 1) := by decide +kernel
theorem dL_law_525 : decode cL_law 525 = .ok (.iaload, 1) := by decide +kernel
theorem dL_law_526 : decode cL_law 526 = .ok (.invokevirtual 57, 3) := by decide +kernel
theorem dL_law_529 : decode cL_law 529 = .ok (.aload_n 2, 1) := by decide +kernel
theorem dL_law_530 : decode cL_law 530 = .ok (.aload_n 0, 1) := by decide +kernel
theorem dL_law_531 : decode cL_law 531 = .ok (.iload_n 3, 1) := by decide +kernel
theorem dL_law_532 : decode cL_law 532 = .ok (.iconst 1, 1) := by decide +kernel
theorem dL_law_533 : decode cL_law 533 = .ok (.iadd, 1) := by decide +kernel
theorem dL_law_534 : decode cL_law 534 = .ok (.iaload, 1) := by decide +kernel
theorem dL_law_535 : decode cL_law 535 = .ok (.aload_n 0, 1) := by decide +kernel
theorem dL_law_536 : decode cL_law 536 = .ok (.iload_n 3, 1) := by decide +kernel
theorem dL_law_537 : decode cL_law 537 = .ok (.iconst 2, 1) := by decide +kernel
theorem dL_law_538 : decode cL_law 538 = .ok (.iadd, 1) := by decide +kernel
theorem dL_law_539 : decode cL_law 539 = .ok (.iaload, 1) := by decide +kernel
theorem dL_law_540 : decode cL_law 540 = .ok (.invokevirtual 60, 3) := by decide +kernel
theorem dL_law_543 : decode cL_law 543 = .ok (.if_icmp .eq 576, 3) := by decide +kernel
theorem dL_law_546 : decode cL_law 546 = .ok (.iconst 0, 1) := by decide +kernel
theorem dL_law_547 : decode cL_law 547 = .ok (.ireturn, 1) := by decide +kernel
theorem dL_law_548 : decode cL_law 548 = .ok (.aload_n 1, 1) := by decide +kernel
theorem dL_law_549 : decode cL_law 549 = .ok (.aload_n 0, 1) := by decide +kernel
theorem dL_law_550 : decode cL_law 550 = .ok (.iload_n 3, 1) := by decide +kernel
theorem dL_law_551 : decode cL_law 551 = .ok (.iconst 1, 1) := by decide +kernel
theorem dL_law_552 : decode cL_law 552 = .ok (.iadd, 1) := by decide +kernel
theorem dL_law_553 : decode cL_law 553 = .ok (.iaload, 1) := by decide +kernel
theorem dL_law_554 : decode cL_law 554 = .ok (.invokevirtual 61, 3) := by decide +kernel
theorem dL_law_557 : decode cL_law 557 = .ok (.aload_n 2, 1) := by decide +kernel
theorem dL_law_558 : decode cL_law 558 = .ok (.aload_n 0, 1) := by decide +kernel
theorem dL_law_559 : decode cL_law 559 = .ok (.iload_n 3, 1) := by decide +kernel
theorem dL_law_560 : decode cL_law 560 = .ok (.iconst 1, 1) := by decide +kernel
theorem dL_law_561 : decode cL_law 561 = .ok (.iadd, 1) := by decide +kernel
theorem dL_law_562 : decode cL_law 562 = .ok (.iaload, 1) := by decide +kernel
theorem dL_law_563 : decode cL_law 563 = .ok (.invokevirtual 64, 3) := by decide +kernel
theorem dL_law_566 : decode cL_law 566 = .ok (.if_icmp .eq 553, 3) := by decide +kernel
theorem dL_law_569 : decode cL_law 569 = .ok (.iconst 0, 1) := by decide +kernel
theorem dL_law_570 : decode cL_law 570 = .ok (.ireturn, 1) := by decide +kernel
theorem dL_law_571 : decode cL_law 571 = .ok (.aload_n 1, 1) := by decide +kernel
theorem dL_law_572 : decode cL_law 572 = .ok (.aload_n 0, 1) := by decide +kernel
theorem dL_law_573 : decode cL_law 573 = .ok (.iload_n 3, 1) := by decide +kernel
theorem dL_law_574 : decode cL_law 574 = .ok (.iconst 1, 1) := by decide +kernel
theorem dL_law_575 : decode cL_law 575 = .ok (.iadd, 1) := by decide +kernel
theorem dL_law_576 : decode cL_law 576 = .ok (.iaload, 1) := by decide +kernel
theorem dL_law_577 : decode cL_law 577 = .ok (.aload_n 0, 1) := by decide +kernel
theorem dL_law_578 : decode cL_law 578 = .ok (.iload_n 3, 1) := by decide +kernel
theorem dL_law_579 : decode cL_law 579 = .ok (.iconst 2, 1) := by decide +kernel
theorem dL_law_580 : decode cL_law 580 = .ok (.iadd, 1) := by decide +kernel
theorem dL_law_581 : decode cL_law 581 = .ok (.iaload, 1) := by decide +kernel
theorem dL_law_582 : decode cL_law 582 = .ok (.invokevirtual 65, 3) := by decide +kernel
theorem dL_law_585 : decode cL_law 585 = .ok (.aload_n 2, 1) := by decide +kernel
theorem dL_law_586 : decode cL_law 586 = .ok (.aload_n 0, 1) := by decide +kernel
theorem dL_law_587 : decode cL_law 587 = .ok (.iload_n 3, 1) := by decide +kernel
theorem dL_law_588 : decode cL_law 588 = .ok (.iconst 1, 1) := by decide +kernel
theorem dL_law_589 : decode cL_law 589 = .ok (.iadd, 1) := by decide +kernel
theorem dL_law_590 : decode cL_law 590 = .ok (.iaload, 1) := by decide +kernel
theorem dL_law_591 : decode cL_law 591 = .ok (.aload_n 0, 1) := by decide +kernel
theorem dL_law_592 : decode cL_law 592 = .ok (.iload_n 3, 1) := by decide +kernel
theorem dL_law_593 : decode cL_law 593 = .ok (.iconst 2, 1) := by decide +kernel
theorem dL_law_594 : decode cL_law 594 = .ok (.iadd, 1) := by decide +kernel
theorem dL_law_595 : decode cL_law 595 = .ok (.iaload, 1) := by decide +kernel
theorem dL_law_596 : decode cL_law 596 = .ok (.invokevirtual 68, 3) := by decide +kernel
theorem dL_law_599 : decode cL_law 599 = .ok (.if_icmp .eq 520, 3) := by decide +kernel
theorem dL_law_602 : decode cL_law 602 = .ok (.iconst 0, 1) := by decide +kernel
theorem dL_law_603 : decode cL_law 603 = .ok (.ireturn, 1) := by decide +kernel
theorem dL_law_604 : decode cL_law 604 = .ok (.aload_n 1, 1) := by decide +kernel
theorem dL_law_605 : decode cL_law 605 = .ok (.aload_n 0, 1) := by decide +kernel
theorem dL_law_606 : decode cL_law 606 = .ok (.iload_n 3, 1) := by decide +kernel
theorem dL_law_607 : decode cL_law 607 = .ok (.iconst 1, 1) := by decide +kernel
theorem dL_law_608 : decode cL_law 608 = .ok (.iadd, 1) := by decide +kernel
theorem dL_law_609 : decode cL_law 609 = .ok (.iaload, 1) := by decide +kernel
theorem dL_law_610 : decode cL_law 610 = .ok (.aload_n 0, 1) := by decide +kernel
theorem dL_law_611 : decode cL_law 611 = .ok (.iload_n 3, 1) := by decide +kernel
theorem dL_law_612 : decode cL_law 612 = .ok (.iconst 2, 1) := by decide +kernel
theorem dL_law_613 : decode cL_law 613 = .ok (.iadd, 1) := by decide +kernel
theorem dL_law_614 : decode cL_law 614 = .ok (.iaload, 1) := by decide +kernel
theorem dL_law_615 : decode cL_law 615 = .ok (.aload_n 0, 1) := by decide +kernel
theorem dL_law_616 : decode cL_law 616 = .ok (.iload_n 3, 1) := by decide +kernel
theorem dL_law_617 : decode cL_law 617 = .ok (.iconst 3, 1) := by decide +kernel
theorem dL_law_618 : decode cL_law 618 = .ok (.iadd, 1) := by decide +kernel
theorem dL_law_619 : decode cL_law 619 = .ok (.iaload, 1) := by decide +kernel
theorem dL_law_620 : decode cL_law 620 = .ok (.invokevirtual 69, 3) := by decide +kernel
theorem dL_law_623 : decode cL_law 623 = .ok (.aload_n 2, 1) := by decide +kernel
theorem dL_law_624 : decode cL_law 624 = .ok (.aload_n 0, 1) := by decide +kernel
theorem dL_law_625 : decode cL_law 625 = .ok (.iload_n 3, 1) := by decide +kernel
theorem dL_law_626 : decode cL_law 626 = .ok (.iconst 1, 1) := by decide +kernel
theorem dL_law_627 : decode cL_law 627 = .ok (.iadd, 1) := by decide +kernel
theorem dL_law_628 : decode cL_law 628 = .ok (.iaload, 1) := by decide +kernel
theorem dL_law_629 : decode cL_law 629 = .ok (.aload_n 0, 1) := by decide +kernel
theorem dL_law_630 : decode cL_law 630 = .ok (.iload_n 3, 1) := by decide +kernel
theorem dL_law_631 : decode cL_law 631 = .ok (.iconst 2, 1) := by decide +kernel
theorem dL_law_632 : decode cL_law 632 = .ok (.iadd, 1) := by decide +kernel
theorem dL_law_633 : decode cL_law 633 = .ok (.iaload, 1) := by decide +kernel
theorem dL_law_634 : decode cL_law 634 = .ok (.aload_n 0, 1) := by decide +kernel
theorem dL_law_635 : decode cL_law 635 = .ok (.iload_n 3, 1) := by decide +kernel
theorem dL_law_636 : decode cL_law 636 = .ok (.iconst 3, 1) := by decide +kernel
theorem dL_law_637 : decode cL_law 637 = .ok (.iadd, 1) := by decide +kernel
theorem dL_law_638 : decode cL_law 638 = .ok (.iaload, 1) := by decide +kernel
theorem dL_law_639 : decode cL_law 639 = .ok (.invokevirtual 72, 3) := by decide +kernel
theorem dL_law_642 : decode cL_law 642 = .ok (.if_icmp .eq 477, 3) := by decide +kernel
theorem dL_law_645 : decode cL_law 645 = .ok (.iconst 0, 1) := by decide +kernel
theorem dL_law_646 : decode cL_law 646 = .ok (.ireturn, 1) := by decide +kernel
theorem dL_law_647 : decode cL_law 647 = .ok (.aload_n 1, 1) := by decide +kernel
theorem dL_law_648 : decode cL_law 648 = .ok (.aload_n 0, 1) := by decide +kernel
theorem dL_law_649 : decode cL_law 649 = .ok (.iload_n 3, 1) := by decide +kernel
theorem dL_law_650 : decode cL_law 650 = .ok (.iconst 1, 1) := by decide +kernel
theorem dL_law_651 : decode cL_law 651 = .ok (.iadd, 1) := by decide +kernel
theorem dL_law_652 : decode cL_law 652 = .ok (.iaload, 1) := by decide +kernel
theorem dL_law_653 : decode cL_law 653 = .ok (.invokevirtual 73, 3) := by decide +kernel
theorem dL_law_656 : decode cL_law 656 = .ok (.aload_n 2, 1) := by decide +kernel
theorem dL_law_657 : decode cL_law 657 = .ok (.aload_n 0, 1) := by decide +kernel
theorem dL_law_658 : decode cL_law 658 = .ok (.iload_n 3, 1) := by decide +kernel
theorem dL_law_659 : decode cL_law 659 = .ok (.iconst 1, 1) := by decide +kernel
theorem dL_law_660 : decode cL_law 660 = .ok (.iadd, 1) := by decide +kernel
theorem dL_law_661 : decode cL_law 661 = .ok (.iaload, 1) := by decide +kernel
theorem dL_law_662 : decode cL_law 662 = .ok (.invokevirtual 76, 3) := by decide +kernel
theorem dL_law_665 : decode cL_law 665 = .ok (.if_icmp .eq 454, 3) := by decide +kernel
theorem dL_law_668 : decode cL_law 668 = .ok (.iconst 0, 1) := by decide +kernel
theorem dL_law_669 : decode cL_law 669 = .ok (.ireturn, 1) := by decide +kernel
theorem dL_law_670 : decode cL_law 670 = .ok (.aload_n 1, 1) := by decide +kernel
theorem dL_law_671 : decode cL_law 671 = .ok (.aload_n 0, 1) := by decide +kernel
theorem dL_law_672 : decode cL_law 672 = .ok (.iload_n 3, 1) := by decide +kernel
theorem dL_law_673 : decode cL_law 673 = .ok (.iconst 1, 1) := by decide +kernel
theorem dL_law_674 : decode cL_law 674 = .ok (.iadd, 1) := by decide +kernel
theorem dL_law_675 : decode cL_law 675 = .ok (.iaload, 1) := by decide +kernel
theorem dL_law_676 : decode cL_law 676 = .ok (.aload_n 0, 1) := by decide +kernel
theorem dL_law_677 : decode cL_law 677 = .ok (.iload_n 3, 1) := by decide +kernel
theorem dL_law_678 : decode cL_law 678 = .ok (.iconst 2, 1) := by decide +kernel
theorem dL_law_679 : decode cL_law 679 = .ok (.iadd, 1) := by decide +kernel
theorem dL_law_680 : decode cL_law 680 = .ok (.iaload, 1) := by decide +kernel
theorem dL_law_681 : decode cL_law 681 = .ok (.invokevirtual 77, 3) := by decide +kernel
theorem dL_law_684 : decode cL_law 684 = .ok (.aload_n 2, 1) := by decide +kernel
theorem dL_law_685 : decode cL_law 685 = .ok (.aload_n 0, 1) := by decide +kernel
theorem dL_law_686 : decode cL_law 686 = .ok (.iload_n 3, 1) := by decide +kernel
theorem dL_law_687 : decode cL_law 687 = .ok (.iconst 1, 1) := by decide +kernel
theorem dL_law_688 : decode cL_law 688 = .ok (.iadd, 1) := by decide +kernel
theorem dL_law_689 : decode cL_law 689 = .ok (.iaload, 1) := by decide +kernel
theorem dL_law_690 : decode cL_law 690 = .ok (.aload_n 0, 1) := by decide +kernel
theorem dL_law_691 : decode cL_law 691 = .ok (.iload_n 3, 1) := by decide +kernel
theorem dL_law_692 : decode cL_law 692 = .ok (.iconst 2, 1) := by decide +kernel
theorem dL_law_693 : decode cL_law 693 = .ok (.iadd, 1) := by decide +kernel
theorem dL_law_694 : decode cL_law 694 = .ok (.iaload, 1) := by decide +kernel
theorem dL_law_695 : decode cL_law 695 = .ok (.invokevirtual 80, 3) := by decide +kernel
theorem dL_law_698 : decode cL_law 698 = .ok (.if_icmp .eq 421, 3) := by decide +kernel
theorem dL_law_701 : decode cL_law 701 = .ok (.iconst 0, 1) := by decide +kernel
theorem dL_law_702 : decode cL_law 702 = .ok (.ireturn, 1) := by decide +kernel
theorem dL_law_703 : decode cL_law 703 = .ok (.aload_n 1, 1) := by decide +kernel
theorem dL_law_704 : decode cL_law 704 = .ok (.aload_n 0, 1) := by decide +kernel
theorem dL_law_705 : decode cL_law 705 = .ok (.iload_n 3, 1) := by decide +kernel
theorem dL_law_706 : decode cL_law 706 = .ok (.iconst 1, 1) := by decide +kernel
theorem dL_law_707 : decode cL_law 707 = .ok (.iadd, 1) := by decide +kernel
theorem dL_law_708 : decode cL_law 708 = .ok (.iaload, 1) := by decide +kernel
theorem dL_law_709 : decode cL_law 709 = .ok (.invokevirtual 81, 3) := by decide +kernel
theorem dL_law_712 : decode cL_law 712 = .ok (.aload_n 2, 1) := by decide +kernel
theorem dL_law_713 : decode cL_law 713 = .ok (.aload_n 0, 1) := by decide +kernel
theorem dL_law_714 : decode cL_law 714 = .ok (.iload_n 3, 1) := by decide +kernel
theorem dL_law_715 : decode cL_law 715 = .ok (.iconst 1, 1) := by decide +kernel
theorem dL_law_716 : decode cL_law 716 = .ok (.iadd, 1) := by decide +kernel
theorem dL_law_717 : decode cL_law 717 = .ok (.iaload, 1) := by decide +kernel
theorem dL_law_718 : decode cL_law 718 = .ok (.invokevirtual 84, 3) := by decide +kernel
theorem dL_law_721 : decode cL_law 721 = .ok (.if_icmp .eq 398, 3) := by decide +kernel
theorem dL_law_724 : decode cL_law 724 = .ok (.iconst 0, 1) := by decide +kernel
theorem dL_law_725 : decode cL_law 725 = .ok (.ireturn, 1) := by decide +kernel
theorem dL_law_726 : decode cL_law 726 = .ok (.aload_n 1, 1) := by decide +kernel
theorem dL_law_727 : decode cL_law 727 = .ok (.invokevirtual 85, 3) := by decide +kernel
theorem dL_law_730 : decode cL_law 730 = .ok (.aload_n 2, 1) := by decide +kernel
theorem dL_law_731 : decode cL_law 731 = .ok (.invokevirtual 89, 3) := by decide +kernel
theorem dL_law_734 : decode cL_law 734 = .ok (.if_icmp .eq 385, 3) := by decide +kernel
theorem dL_law_737 : decode cL_law 737 = .ok (.iconst 0, 1) := by decide +kernel
theorem dL_law_738 : decode cL_law 738 = .ok (.ireturn, 1) := by decide +kernel
theorem dL_law_739 : decode cL_law 739 = .ok (.aload_n 1, 1) := by decide +kernel
theorem dL_law_740 : decode cL_law 740 = .ok (.aload_n 0, 1) := by decide +kernel
theorem dL_law_741 : decode cL_law 741 = .ok (.iload_n 3, 1) := by decide +kernel
theorem dL_law_742 : decode cL_law 742 = .ok (.iconst 1, 1) := by decide +kernel
theorem dL_law_743 : decode cL_law 743 = .ok (.iadd, 1) := by decide +kernel
theorem dL_law_744 : decode cL_law 744 = .ok (.iaload, 1) := by decide +kernel
theorem dL_law_745 : decode cL_law 745 = .ok (.invokevirtual 90, 3) := by decide +kernel
theorem dL_law_748 : decode cL_law 748 = .ok (.aload_n 2, 1) := by decide +kernel
theorem dL_law_749 : decode cL_law 749 = .ok (.aload_n 0, 1) := by decide +kernel
theorem dL_law_750 : decode cL_law 750 = .ok (.iload_n 3, 1) := by decide +kernel
theorem dL_law_751 : decode cL_law 751 = .ok (.iconst 1, 1) := by decide +kernel
theorem dL_law_752 : decode cL_law 752 = .ok (.iadd, 1) := by decide +kernel
theorem dL_law_753 : decode cL_law 753 = .ok (.iaload, 1) := by decide +kernel
theorem dL_law_754 : decode cL_law 754 = .ok (.invokevirtual 93, 3) := by decide +kernel
theorem dL_law_757 : decode cL_law 757 = .ok (.if_icmp .eq 362, 3) := by decide +kernel
theorem dL_law_760 : decode cL_law 760 = .ok (.iconst 0, 1) := by decide +kernel
theorem dL_law_761 : decode cL_law 761 = .ok (.ireturn, 1) := by decide +kernel
theorem dL_law_762 : decode cL_law 762 = .ok (.aload_n 1, 1) := by decide +kernel
theorem dL_law_763 : decode cL_law 763 = .ok (.aload_n 0, 1) := by decide +kernel
theorem dL_law_764 : decode cL_law 764 = .ok (.iload_n 3, 1) := by decide +kernel
theorem dL_law_765 : decode cL_law 765 = .ok (.iconst 1, 1) := by decide +kernel
theorem dL_law_766 : decode cL_law 766 = .ok (.iadd, 1) := by decide +kernel
theorem dL_law_767 : decode cL_law 767 = .ok (.iaload, 1) := by decide +kernel
theorem dL_law_768 : decode cL_law 768 = .ok (.aload_n 0, 1) := by decide +kernel
theorem dL_law_769 : decode cL_law 769 = .ok (.iload_n 3, 1) := by decide +kernel
theorem dL_law_770 : decode cL_law 770 = .ok (.iconst 2, 1) := by decide +kernel
theorem dL_law_771 : decode cL_law 771 = .ok (.iadd, 1) := by decide +kernel
theorem dL_law_772 : decode cL_law 772 = .ok (.iaload, 1) := by decide +kernel
theorem dL_law_773 : decode cL_law 773 = .ok (.aload_n 0, 1) := by decide +kernel
theorem dL_law_774 : decode cL_law 774 = .ok (.iload_n 3, 1) := by decide +kernel
theorem dL_law_775 : decode cL_law 775 = .ok (.iconst 3, 1) := by decide +kernel
theorem dL_law_776 : decode cL_law 776 = .ok (.iadd, 1) := by decide +kernel
theorem dL_law_777 : decode cL_law 777 = .ok (.iaload, 1) := by decide +kernel
theorem dL_law_778 : decode cL_law 778 = .ok (.invokevirtual 94, 3) := by decide +kernel
theorem dL_law_781 : decode cL_law 781 = .ok (.aload_n 2, 1) := by decide +kernel
theorem dL_law_782 : decode cL_law 782 = .ok (.aload_n 0, 1) := by decide +kernel
theorem dL_law_783 : decode cL_law 783 = .ok (.iload_n 3, 1) := by decide +kernel
theorem dL_law_784 : decode cL_law 784 = .ok (.iconst 1, 1) := by decide +kernel
theorem dL_law_785 : decode cL_law 785 = .ok (.iadd, 1) := by decide +kernel
theorem dL_law_786 : decode cL_law 786 = .ok (.iaload, 1) := by decide +kernel
theorem dL_law_787 : decode cL_law 787 = .ok (.aload_n 0, 1) := by decide +kernel
theorem dL_law_788 : decode cL_law 788 = .ok (.iload_n 3, 1) := by decide +kernel
theorem dL_law_789 : decode cL_law 789 = .ok (.iconst 2, 1) := by decide +kernel
theorem dL_law_790 : decode cL_law 790 = .ok (.iadd, 1) := by decide +kernel
theorem dL_law_791 : decode cL_law 791 = .ok (.iaload, 1) := by decide +kernel
theorem dL_law_792 : decode cL_law 792 = .ok (.aload_n 0, 1) := by decide +kernel
theorem dL_law_793 : decode cL_law 793 = .ok (.iload_n 3, 1) := by decide +kernel
theorem dL_law_794 : decode cL_law 794 = .ok (.iconst 3, 1) := by decide +kernel
theorem dL_law_795 : decode cL_law 795 = .ok (.iadd, 1) := by decide +kernel
theorem dL_law_796 : decode cL_law 796 = .ok (.iaload, 1) := by decide +kernel
theorem dL_law_797 : decode cL_law 797 = .ok (.invokevirtual 97, 3) := by decide +kernel
theorem dL_law_800 : decode cL_law 800 = .ok (.if_icmp .eq 319, 3) := by decide +kernel
theorem dL_law_803 : decode cL_law 803 = .ok (.iconst 0, 1) := by decide +kernel
theorem dL_law_804 : decode cL_law 804 = .ok (.ireturn, 1) := by decide +kernel
theorem dL_law_805 : decode cL_law 805 = .ok (.aload_n 1, 1) := by decide +kernel
theorem dL_law_806 : decode cL_law 806 = .ok (.aload_n 0, 1) := by decide +kernel
theorem dL_law_807 : decode cL_law 807 = .ok (.iload_n 3, 1) := by decide +kernel
theorem dL_law_808 : decode cL_law 808 = .ok (.iconst 1, 1) := by decide +kernel
theorem dL_law_809 : decode cL_law 809 = .ok (.iadd, 1) := by decide +kernel
theorem dL_law_810 : decode cL_law 810 = .ok (.iaload, 1) := by decide +kernel
theorem dL_law_811 : decode cL_law 811 = .ok (.aload_n 0, 1) := by decide +kernel
theorem dL_law_812 : decode cL_law 812 = .ok (.iload_n 3, 1) := by decide +kernel
theorem dL_law_813 : decode cL_law 813 = .ok (.iconst 2, 1) := by decide +kernel
theorem dL_law_814 : decode cL_law 814 = .ok (.iadd, 1) := by decide +kernel
theorem dL_law_815 : decode cL_law 815 = .ok (.iaload, 1) := by decide +kernel
theorem dL_law_816 : decode cL_law 816 = .ok (.aload_n 0, 1) := by decide +kernel
theorem dL_law_817 : decode cL_law 817 = .ok (.iload_n 3, 1) := by decide +kernel
theorem dL_law_818 : decode cL_law 818 = .ok (.iconst 3, 1) := by decide +kernel
theorem dL_law_819 : decode cL_law 819 = .ok (.iadd, 1) := by decide +kernel
theorem dL_law_820 : decode cL_law 820 = .ok (.iaload, 1) := by decide +kernel
theorem dL_law_821 : decode cL_law 821 = .ok (.invokevirtual 98, 3) := by decide +kernel
theorem dL_law_824 : decode cL_law 824 = .ok (.aload_n 2, 1) := by decide +kernel
theorem dL_law_825 : decode cL_law 825 = .ok (.aload_n 0, 1) := by decide +kernel
theorem dL_law_826 : decode cL_law 826 = .ok (.iload_n 3, 1) := by decide +kernel
theorem dL_law_827 : decode cL_law 827 = .ok (.iconst 1, 1) := by decide +kernel
theorem dL_law_828 : decode cL_law 828 = .ok (.iadd, 1) := by decide +kernel
theorem dL_law_829 : decode cL_law 829 = .ok (.iaload, 1) := by decide +kernel
theorem dL_law_830 : decode cL_law 830 = .ok (.aload_n 0, 1) := by decide +kernel
theorem dL_law_831 : decode cL_law 831 = .ok (.iload_n 3, 1) := by decide +kernel
theorem dL_law_832 : decode cL_law 832 = .ok (.iconst 2, 1) := by decide +kernel
theorem dL_law_833 : decode cL_law 833 = .ok (.iadd, 1) := by decide +kernel
theorem dL_law_834 : decode cL_law 834 = .ok (.iaload, 1) := by decide +kernel
theorem dL_law_835 : decode cL_law 835 = .ok (.aload_n 0, 1) := by decide +kernel
theorem dL_law_836 : decode cL_law 836 = .ok (.iload_n 3, 1) := by decide +kernel
theorem dL_law_837 : decode cL_law 837 = .ok (.iconst 3, 1) := by decide +kernel
theorem dL_law_838 : decode cL_law 838 = .ok (.iadd, 1) := by decide +kernel
theorem dL_law_839 : decode cL_law 839 = .ok (.iaload, 1) := by decide +kernel
theorem dL_law_840 : decode cL_law 840 = .ok (.invokevirtual 101, 3) := by decide +kernel
theorem dL_law_843 : decode cL_law 843 = .ok (.if_icmp .eq 276, 3) := by decide +kernel
theorem dL_law_846 : decode cL_law 846 = .ok (.iconst 0, 1) := by decide +kernel
theorem dL_law_847 : decode cL_law 847 = .ok (.ireturn, 1) := by decide +kernel
theorem dL_law_848 : decode cL_law 848 = .ok (.aload_n 1, 1) := by decide +kernel
theorem dL_law_849 : decode cL_law 849 = .ok (.aload_n 0, 1) := by decide +kernel
theorem dL_law_850 : decode cL_law 850 = .ok (.iload_n 3, 1) := by decide +kernel
theorem dL_law_851 : decode cL_law 851 = .ok (.iconst 1, 1) := by decide +kernel
theorem dL_law_852 : decode cL_law 852 = .ok (.iadd, 1) := by decide +kernel
theorem dL_law_853 : decode cL_law 853 = .ok (.iaload, 1) := by decide +kernel
theorem dL_law_854 : decode cL_law 854 = .ok (.invokevirtual 102, 3) := by decide +kernel
theorem dL_law_857 : decode cL_law 857 = .ok (.aload_n 2, 1) := by decide +kernel
theorem dL_law_858 : decode cL_law 858 = .ok (.aload_n 0, 1) := by decide +kernel
theorem dL_law_859 : decode cL_law 859 = .ok (.iload_n 3, 1) := by decide +kernel
theorem dL_law_860 : decode cL_law 860 = .ok (.iconst 1, 1) := by decide +kernel
theorem dL_law_861 : decode cL_law 861 = .ok (.iadd, 1) := by decide +kernel
theorem dL_law_862 : decode cL_law 862 = .ok (.iaload, 1) := by decide +kernel
theorem dL_law_863 : decode cL_law 863 = .ok (.invokevirtual 105, 3) := by decide +kernel
theorem dL_law_866 : decode cL_law 866 = .ok (.if_icmp .eq 253, 3) := by decide +kernel
theorem dL_law_869 : decode cL_law 869 = .ok (.iconst 0, 1) := by decide +kernel
theorem dL_law_870 : decode cL_law 870 = .ok (.ireturn, 1) := by decide +kernel
theorem dL_law_871 : decode cL_law 871 = .ok (.aload_n 1, 1) := by decide +kernel
theorem dL_law_872 : decode cL_law 872 = .ok (.aload_n 0, 1) := by decide +kernel
theorem dL_law_873 : decode cL_law 873 = .ok (.iload_n 3, 1) := by decide +kernel
theorem dL_law_874 : decode cL_law 874 = .ok (.iconst 1, 1) := by decide +kernel
theorem dL_law_875 : decode cL_law 875 = .ok (.iadd, 1) := by decide +kernel
theorem dL_law_876 : decode cL_law 876 = .ok (.iaload, 1) := by decide +kernel
theorem dL_law_877 : decode cL_law 877 = .ok (.aload_n 0, 1) := by decide +kernel
theorem dL_law_878 : decode cL_law 878 = .ok (.iload_n 3, 1) := by decide +kernel
theorem dL_law_879 : decode cL_law 879 = .ok (.iconst 2, 1) := by decide +kernel
theorem dL_law_880 : decode cL_law 880 = .ok (.iadd, 1) := by decide +kernel
theorem dL_law_881 : decode cL_law 881 = .ok (.iaload, 1) := by decide +kernel
theorem dL_law_882 : decode cL_law 882 = .ok (.aload_n 0, 1) := by decide +kernel
theorem dL_law_883 : decode cL_law 883 = .ok (.iload_n 3, 1) := by decide +kernel
theorem dL_law_884 : decode cL_law 884 = .ok (.iconst 3, 1) := by decide +kernel
theorem dL_law_885 : decode cL_law 885 = .ok (.iadd, 1) := by decide +kernel
theorem dL_law_886 : decode cL_law 886 = .ok (.iaload, 1) := by decide +kernel
theorem dL_law_887 : decode cL_law 887 = .ok (.invokevirtual 106, 3) := by decide +kernel
theorem dL_law_890 : decode cL_law 890 = .ok (.aload_n 2, 1) := by decide +kernel
theorem dL_law_891 : decode cL_law 891 = .ok (.aload_n 0, 1) := by decide +kernel
theorem dL_law_892 : decode cL_law 892 = .ok (.iload_n 3, 1) := by decide +kernel
theorem dL_law_893 : decode cL_law 893 = .ok (.iconst 1, 1) := by decide +kernel
theorem dL_law_894 : decode cL_law 894 = .ok (.iadd, 1) := by decide +kernel
theorem dL_law_895 : decode cL_law 895 = .ok (.iaload, 1) := by decide +kernel
theorem dL_law_896 : decode cL_law 896 = .ok (.aload_n 0, 1) := by decide +kernel
theorem dL_law_897 : decode cL_law 897 = .ok (.iload_n 3, 1) := by decide +kernel
theorem dL_law_898 : decode cL_law 898 = .ok (.iconst 2, 1) := by decide +kernel
theorem dL_law_899 : decode cL_law 899 = .ok (.iadd, 1) := by decide +kernel
theorem dL_law_900 : decode cL_law 900 = .ok (.iaload, 1) := by decide +kernel
theorem dL_law_901 : decode cL_law 901 = .ok (.aload_n 0, 1) := by decide +kernel
theorem dL_law_902 : decode cL_law 902 = .ok (.iload_n 3, 1) := by decide +kernel
theorem dL_law_903 : decode cL_law 903 = .ok (.iconst 3, 1) := by decide +kernel
theorem dL_law_904 : decode cL_law 904 = .ok (.iadd, 1) := by decide +kernel
theorem dL_law_905 : decode cL_law 905 = .ok (.iaload, 1) := by decide +kernel
theorem dL_law_906 : decode cL_law 906 = .ok (.invokevirtual 110, 3) := by decide +kernel
theorem dL_law_909 : decode cL_law 909 = .ok (.lcmp, 1) := by decide +kernel
theorem dL_law_910 : decode cL_law 910 = .ok (.ifCond .eq 209, 3) := by decide +kernel
theorem dL_law_913 : decode cL_law 913 = .ok (.iconst 0, 1) := by decide +kernel
theorem dL_law_914 : decode cL_law 914 = .ok (.ireturn, 1) := by decide +kernel
theorem dL_law_915 : decode cL_law 915 = .ok (.aload_n 1, 1) := by decide +kernel
theorem dL_law_916 : decode cL_law 916 = .ok (.aload_n 0, 1) := by decide +kernel
theorem dL_law_917 : decode cL_law 917 = .ok (.iload_n 3, 1) := by decide +kernel
theorem dL_law_918 : decode cL_law 918 = .ok (.iconst 1, 1) := by decide +kernel
theorem dL_law_919 : decode cL_law 919 = .ok (.iadd, 1) := by decide +kernel
theorem dL_law_920 : decode cL_law 920 = .ok (.iaload, 1) := by decide +kernel
theorem dL_law_921 : decode cL_law 921 = .ok (.aload_n 0, 1) := by decide +kernel
theorem dL_law_922 : decode cL_law 922 = .ok (.iload_n 3, 1) := by decide +kernel
theorem dL_law_923 : decode cL_law 923 = .ok (.iconst 2, 1) := by decide +kernel
theorem dL_law_924 : decode cL_law 924 = .ok (.iadd, 1) := by decide +kernel
theorem dL_law_925 : decode cL_law 925 = .ok (.iaload, 1) := by decide +kernel
theorem dL_law_926 : decode cL_law 926 = .ok (.invokevirtual 111, 3) := by decide +kernel
theorem dL_law_929 : decode cL_law 929 = .ok (.aload_n 2, 1) := by decide +kernel
theorem dL_law_930 : decode cL_law 930 = .ok (.aload_n 0, 1) := by decide +kernel
theorem dL_law_931 : decode cL_law 931 = .ok (.iload_n 3, 1) := by decide +kernel
theorem dL_law_932 : decode cL_law 932 = .ok (.iconst 1, 1) := by decide +kernel
theorem dL_law_933 : decode cL_law 933 = .ok (.iadd, 1) := by decide +kernel
theorem dL_law_934 : decode cL_law 934 = .ok (.iaload, 1) := by decide +kernel
theorem dL_law_935 : decode cL_law 935 = .ok (.aload_n 0, 1) := by decide +kernel
theorem dL_law_936 : decode cL_law 936 = .ok (.iload_n 3, 1) := by decide +kernel
theorem dL_law_937 : decode cL_law 937 = .ok (.iconst 2, 1) := by decide +kernel
theorem dL_law_938 : decode cL_law 938 = .ok (.iadd, 1) := by decide +kernel
theorem dL_law_939 : decode cL_law 939 = .ok (.iaload, 1) := by decide +kernel
theorem dL_law_940 : decode cL_law 940 = .ok (.invokevirtual 114, 3) := by decide +kernel
theorem dL_law_943 : decode cL_law 943 = .ok (.if_icmp .eq 176, 3) := by decide +kernel
theorem dL_law_946 : decode cL_law 946 = .ok (.iconst 0, 1) := by decide +kernel
theorem dL_law_947 : decode cL_law 947 = .ok (.ireturn, 1) := by decide +kernel
theorem dL_law_948 : decode cL_law 948 = .ok (.aload_n 1, 1) := by decide +kernel
theorem dL_law_949 : decode cL_law 949 = .ok (.aload_n 0, 1) := by decide +kernel
theorem dL_law_950 : decode cL_law 950 = .ok (.iload_n 3, 1) := by decide +kernel
theorem dL_law_951 : decode cL_law 951 = .ok (.iconst 1, 1) := by decide +kernel
theorem dL_law_952 : decode cL_law 952 = .ok (.iadd, 1) := by decide +kernel
theorem dL_law_953 : decode cL_law 953 = .ok (.iaload, 1) := by decide +kernel
theorem dL_law_954 : decode cL_law 954 = .ok (.aload_n 0, 1) := by decide +kernel
theorem dL_law_955 : decode cL_law 955 = .ok (.iload_n 3, 1) := by decide +kernel
theorem dL_law_956 : decode cL_law 956 = .ok (.iconst 2, 1) := by decide +kernel
theorem dL_law_957 : decode cL_law 957 = .ok (.iadd, 1) := by decide +kernel
theorem dL_law_958 : decode cL_law 958 = .ok (.iaload, 1) := by decide +kernel
theorem dL_law_959 : decode cL_law 959 = .ok (.invokevirtual 115, 3) := by decide +kernel
theorem dL_law_962 : decode cL_law 962 = .ok (.aload_n 2, 1) := by decide +kernel
theorem dL_law_963 : decode cL_law 963 = .ok (.aload_n 0, 1) := by decide +kernel
theorem dL_law_964 : decode cL_law 964 = .ok (.iload_n 3, 1) := by decide +kernel
theorem dL_law_965 : decode cL_law 965 = .ok (.iconst 1, 1) := by decide +kernel
theorem dL_law_966 : decode cL_law 966 = .ok (.iadd, 1) := by decide +kernel
theorem dL_law_967 : decode cL_law 967 = .ok (.iaload, 1) := by decide +kernel
theorem dL_law_968 : decode cL_law 968 = .ok (.aload_n 0, 1) := by decide +kernel
theorem dL_law_969 : decode cL_law 969 = .ok (.iload_n 3, 1) := by decide +kernel
theorem dL_law_970 : decode cL_law 970 = .ok (.iconst 2, 1) := by decide +kernel
theorem dL_law_971 : decode cL_law 971 = .ok (.iadd, 1) := by decide +kernel
theorem dL_law_972 : decode cL_law 972 = .ok (.iaload, 1) := by decide +kernel
theorem dL_law_973 : decode cL_law 973 = .ok (.invokevirtual 118, 3) := by decide +kernel
theorem dL_law_976 : decode cL_law 976 = .ok (.if_icmp .eq 143, 3) := by decide +kernel
theorem dL_law_979 : decode cL_law 979 = .ok (.iconst 0, 1) := by decide +kernel
theorem dL_law_980 : decode cL_law 980 = .ok (.ireturn, 1) := by decide +kernel
theorem dL_law_981 : decode cL_law 981 = .ok (.aload_n 1, 1) := by decide +kernel
theorem dL_law_982 : decode cL_law 982 = .ok (.aload_n 0, 1) := by decide +kernel
theorem dL_law_983 : decode cL_law 983 = .ok (.iload_n 3, 1) := by decide +kernel
theorem dL_law_984 : decode cL_law 984 = .ok (.iconst 1, 1) := by decide +kernel
theorem dL_law_985 : decode cL_law 985 = .ok (.iadd, 1) := by decide +kernel
theorem dL_law_986 : decode cL_law 986 = .ok (.iaload, 1) := by decide +kernel
theorem dL_law_987 : decode cL_law 987 = .ok (.invokevirtual 119, 3) := by decide +kernel
theorem dL_law_990 : decode cL_law 990 = .ok (.aload_n 2, 1) := by decide +kernel
theorem dL_law_991 : decode cL_law 991 = .ok (.aload_n 0, 1) := by decide +kernel
theorem dL_law_992 : decode cL_law 992 = .ok (.iload_n 3, 1) := by decide +kernel
theorem dL_law_993 : decode cL_law 993 = .ok (.iconst 1, 1) := by decide +kernel
theorem dL_law_994 : decode cL_law 994 = .ok (.iadd, 1) := by decide +kernel
theorem dL_law_995 : decode cL_law 995 = .ok (.iaload, 1) := by decide +kernel
theorem dL_law_996 : decode cL_law 996 = .ok (.invokevirtual 122, 3) := by decide +kernel
theorem dL_law_999 : decode cL_law 999 = .ok (.if_icmp .eq 120, 3) := by decide +kernel
theorem dL_law_1002 : decode cL_law 1002 = .ok (.iconst 0, 1) := by decide +kernel
theorem dL_law_1003 : decode cL_law 1003 = .ok (.ireturn, 1) := by decide +kernel
theorem dL_law_1004 : decode cL_law 1004 = .ok (.aload_n 1, 1) := by decide +kernel
theorem dL_law_1005 : decode cL_law 1005 = .ok (.aload_n 0, 1) := by decide +kernel
theorem dL_law_1006 : decode cL_law 1006 = .ok (.iload_n 3, 1) := by decide +kernel
theorem dL_law_1007 : decode cL_law 1007 = .ok (.iconst 1, 1) := by decide +kernel
theorem dL_law_1008 : decode cL_law 1008 = .ok (.iadd, 1) := by decide +kernel
theorem dL_law_1009 : decode cL_law 1009 = .ok (.iaload, 1) := by decide +kernel
theorem dL_law_1010 : decode cL_law 1010 = .ok (.invokevirtual 123, 3) := by decide +kernel
theorem dL_law_1013 : decode cL_law 1013 = .ok (.aload_n 2, 1) := by decide +kernel
theorem dL_law_1014 : decode cL_law 1014 = .ok (.aload_n 0, 1) := by decide +kernel
theorem dL_law_1015 : decode cL_law 1015 = .ok (.iload_n 3, 1) := by decide +kernel
theorem dL_law_1016 : decode cL_law 1016 = .ok (.iconst 1, 1) := by decide +kernel
theorem dL_law_1017 : decode cL_law 1017 = .ok (.iadd, 1) := by decide +kernel
theorem dL_law_1018 : decode cL_law 1018 = .ok (.iaload, 1) := by decide +kernel
theorem dL_law_1019 : decode cL_law 1019 = .ok (.invokevirtual 126, 3) := by decide +kernel
theorem dL_law_1022 : decode cL_law 1022 = .ok (.if_icmp .eq 97, 3) := by decide +kernel
theorem dL_law_1025 : decode cL_law 1025 = .ok (.iconst 0, 1) := by decide +kernel
theorem dL_law_1026 : decode cL_law 1026 = .ok (.ireturn, 1) := by decide +kernel
theorem dL_law_1027 : decode cL_law 1027 = .ok (.aload_n 1, 1) := by decide +kernel
theorem dL_law_1028 : decode cL_law 1028 = .ok (.invokevirtual 127, 3) := by decide +kernel
theorem dL_law_1031 : decode cL_law 1031 = .ok (.aload_n 2, 1) := by decide +kernel
theorem dL_law_1032 : decode cL_law 1032 = .ok (.invokevirtual 130, 3) := by decide +kernel
theorem dL_law_1035 : decode cL_law 1035 = .ok (.if_icmp .eq 84, 3) := by decide +kernel
theorem dL_law_1038 : decode cL_law 1038 = .ok (.iconst 0, 1) := by decide +kernel
theorem dL_law_1039 : decode cL_law 1039 = .ok (.ireturn, 1) := by decide +kernel
theorem dL_law_1040 : decode cL_law 1040 = .ok (.aload_n 1, 1) := by decide +kernel
theorem dL_law_1041 : decode cL_law 1041 = .ok (.invokevirtual 131, 3) := by decide +kernel
theorem dL_law_1044 : decode cL_law 1044 = .ok (.aload_n 2, 1) := by decide +kernel
theorem dL_law_1045 : decode cL_law 1045 = .ok (.invokevirtual 135, 3) := by decide +kernel
theorem dL_law_1048 : decode cL_law 1048 = .ok (.if_icmp .eq 71, 3) := by decide +kernel
theorem dL_law_1051 : decode cL_law 1051 = .ok (.iconst 0, 1) := by decide +kernel
theorem dL_law_1052 : decode cL_law 1052 = .ok (.ireturn, 1) := by decide +kernel
theorem dL_law_1053 : decode cL_law 1053 = .ok (.aload_n 1, 1) := by decide +kernel
theorem dL_law_1054 : decode cL_law 1054 = .ok (.aload_n 0, 1) := by decide +kernel
theorem dL_law_1055 : decode cL_law 1055 = .ok (.iload_n 3, 1) := by decide +kernel
theorem dL_law_1056 : decode cL_law 1056 = .ok (.iconst 1, 1) := by decide +kernel
theorem dL_law_1057 : decode cL_law 1057 = .ok (.iadd, 1) := by decide +kernel
theorem dL_law_1058 : decode cL_law 1058 = .ok (.iaload, 1) := by decide +kernel
theorem dL_law_1059 : decode cL_law 1059 = .ok (.aload_n 0, 1) := by decide +kernel
theorem dL_law_1060 : decode cL_law 1060 = .ok (.iload_n 3, 1) := by decide +kernel
theorem dL_law_1061 : decode cL_law 1061 = .ok (.iconst 2, 1) := by decide +kernel
theorem dL_law_1062 : decode cL_law 1062 = .ok (.iadd, 1) := by decide +kernel
theorem dL_law_1063 : decode cL_law 1063 = .ok (.iaload, 1) := by decide +kernel
theorem dL_law_1064 : decode cL_law 1064 = .ok (.aload_n 0, 1) := by decide +kernel
theorem dL_law_1065 : decode cL_law 1065 = .ok (.iload_n 3, 1) := by decide +kernel
theorem dL_law_1066 : decode cL_law 1066 = .ok (.iconst 3, 1) := by decide +kernel
theorem dL_law_1067 : decode cL_law 1067 = .ok (.iadd, 1) := by decide +kernel
theorem dL_law_1068 : decode cL_law 1068 = .ok (.iaload, 1) := by decide +kernel
theorem dL_law_1069 : decode cL_law 1069 = .ok (.invokevirtual 136, 3) := by decide +kernel
theorem dL_law_1072 : decode cL_law 1072 = .ok (.aload_n 2, 1) := by decide +kernel
theorem dL_law_1073 : decode cL_law 1073 = .ok (.aload_n 0, 1) := by decide +kernel
theorem dL_law_1074 : decode cL_law 1074 = .ok (.iload_n 3, 1) := by decide +kernel
theorem dL_law_1075 : decode cL_law 1075 = .ok (.iconst 1, 1) := by decide +kernel
theorem dL_law_1076 : decode cL_law 1076 = .ok (.iadd, 1) := by decide +kernel
theorem dL_law_1077 : decode cL_law 1077 = .ok (.iaload, 1) := by decide +kernel
theorem dL_law_1078 : decode cL_law 1078 = .ok (.aload_n 0, 1) := by decide +kernel
theorem dL_law_1079 : decode cL_law 1079 = .ok (.iload_n 3, 1) := by decide +kernel
theorem dL_law_1080 : decode cL_law 1080 = .ok (.iconst 2, 1) := by decide +kernel
theorem dL_law_1081 : decode cL_law 1081 = .ok (.iadd, 1) := by decide +kernel
theorem dL_law_1082 : decode cL_law 1082 = .ok (.iaload, 1) := by decide +kernel
theorem dL_law_1083 : decode cL_law 1083 = .ok (.aload_n 0, 1) := by decide +kernel
theorem dL_law_1084 : decode cL_law 1084 = .ok (.iload_n 3, 1) := by decide +kernel
theorem dL_law_1085 : decode cL_law 1085 = .ok (.iconst 3, 1) := by decide +kernel
theorem dL_law_1086 : decode cL_law 1086 = .ok (.iadd, 1) := by decide +kernel
theorem dL_law_1087 : decode cL_law 1087 = .ok (.iaload, 1) := by decide +kernel
theorem dL_law_1088 : decode cL_law 1088 = .ok (.invokevirtual 139, 3) := by decide +kernel
theorem dL_law_1091 : decode cL_law 1091 = .ok (.if_icmp .eq 28, 3) := by decide +kernel
theorem dL_law_1094 : decode cL_law 1094 = .ok (.iconst 0, 1) := by decide +kernel
theorem dL_law_1095 : decode cL_law 1095 = .ok (.ireturn, 1) := by decide +kernel
theorem dL_law_1096 : decode cL_law 1096 = .ok (.aload_n 1, 1) := by decide +kernel
theorem dL_law_1097 : decode cL_law 1097 = .ok (.aload_n 0, 1) := by decide +kernel
theorem dL_law_1098 : decode cL_law 1098 = .ok (.iload_n 3, 1) := by decide +kernel
theorem dL_law_1099 : decode cL_law 1099 = .ok (.iconst 1, 1) := by decide +kernel
theorem dL_law_1100 : decode cL_law 1100 = .ok (.iadd, 1) := by decide +kernel
theorem dL_law_1101 : decode cL_law 1101 = .ok (.iaload, 1) := by decide +kernel
theorem dL_law_1102 : decode cL_law 1102 = .ok (.invokevirtual 140, 3) := by decide +kernel
theorem dL_law_1105 : decode cL_law 1105 = .ok (.aload_n 2, 1) := by decide +kernel
theorem dL_law_1106 : decode cL_law 1106 = .ok (.aload_n 0, 1) := by decide +kernel
theorem dL_law_1107 : decode cL_law 1107 = .ok (.iload_n 3, 1) := by decide +kernel
theorem dL_law_1108 : decode cL_law 1108 = .ok (.iconst 1, 1) := by decide +kernel
theorem dL_law_1109 : decode cL_law 1109 = .ok (.iadd, 1) := by decide +kernel
theorem dL_law_1110 : decode cL_law 1110 = .ok (.iaload, 1) := by decide +kernel
theorem dL_law_1111 : decode cL_law 1111 = .ok (.invokevirtual 143, 3) := by decide +kernel
theorem dL_law_1114 : decode cL_law 1114 = .ok (.if_icmp .eq 5, 3) := by decide +kernel
theorem dL_law_1117 : decode cL_law 1117 = .ok (.iconst 0, 1) := by decide +kernel
theorem dL_law_1118 : decode cL_law 1118 = .ok (.ireturn, 1) := by decide +kernel
theorem dL_law_1119 : decode cL_law 1119 = .ok (.iinc 3 6, 3) := by decide +kernel
theorem dL_law_1122 : decode cL_law 1122 = .ok (.goto (-1104), 3) := by decide +kernel
theorem dL_law_1125 : decode cL_law 1125 = .ok (.iconst 1, 1) := by decide +kernel
theorem dL_law_1126 : decode cL_law 1126 = .ok (.ireturn, 1) := by decide +kernel
