theorem dX12_lands_60 : decode cX12_lands 60 = .ok (.aload_n 0, 1) := by decide +kernel
theorem dX12_lands_61 : decode cX12_lands 61 = .ok (.aload_n 0, 1) := by decide +kernel
theorem dX12_lands_62 : decode cX12_lands 62 = .ok (.getfield 244, 3) := by decide +kernel
theorem dX12_lands_65 : decode cX12_lands 65 = .ok (.iconst 1, 1) := by decide +kernel
theorem dX12_lands_66 : decode cX12_lands 66 = .ok (.isub, 1) := by decide +kernel
theorem dX12_lands_67 : decode cX12_lands 67 = .ok (.putfield 244, 3) := by decide +kernel
theorem dX12_lands_70 : decode cX12_lands 70 = .ok (.goto (-70), 3) := by decide +kernel
theorem dX12_lands_73 : decode cX12_lands 73 = .ok (.return_, 1) := by decide +kernel
theorem dX12_jumps_0 : decode cX12_jumps 0 = .ok (.aload_n 0, 1) := by decide +kernel
theorem dX12_jumps_1 : decode cX12_jumps 1 = .ok (.getfield 47, 3) := by decide +kernel
theorem dX12_jumps_4 : decode cX12_jumps 4 = .ok (.aload_n 0, 1) := by decide +kernel
theorem dX12_jumps_5 : decode cX12_jumps 5 = .ok (.getfield 244, 3) := by decide +kernel
theorem dX12_jumps_8 : decode cX12_jumps 8 = .ok (.ldc 240, 2) := by decide +kernel
theorem dX12_jumps_10 : decode cX12_jumps 10 = .ok (.iload_n 1, 1) := by decide +kernel
theorem dX12_jumps_11 : decode cX12_jumps 11 = .ok (.imul, 1) := by decide +kernel
theorem dX12_jumps_12 : decode cX12_jumps 12 = .ok (.aload_n 0, 1) := by decide +kernel
theorem dX12_jumps_13 : decode cX12_jumps 13 = .ok (.getfield 237, 3) := by decide +kernel
theorem dX12_jumps_16 : decode cX12_jumps 16 = .ok (.iadd, 1) := by decide +kernel
theorem dX12_jumps_17 : decode cX12_jumps 17 = .ok (.iastore, 1) := by decide +kernel
theorem dX12_jumps_18 : decode cX12_jumps 18 = .ok (.aload_n 0, 1) := by decide +kernel
theorem dX12_jumps_19 : decode cX12_jumps 19 = .ok (.aload_n 0, 1) := by decide +kernel
theorem dX12_jumps_20 : decode cX12_jumps 20 = .ok (.getfield 244, 3) := by decide +kernel
theorem dX12_jumps_23 : decode cX12_jumps 23 = .ok (.iconst 1, 1) := by decide +kernel
theorem dX12_jumps_24 : decode cX12_jumps 24 = .ok (.iadd, 1) := by decide +kernel
theorem dX12_jumps_25 : decode cX12_jumps 25 = .ok (.putfield 244, 3) := by decide +kernel
theorem dX12_jumps_28 : decode cX12_jumps 28 = .ok (.aload_n 0, 1) := by decide +kernel
theorem dX12_jumps_29 : decode cX12_jumps 29 = .ok (.iload_n 1, 1) := by decide +kernel
theorem dX12_jumps_30 : decode cX12_jumps 30 = .ok (.iconst 0, 1) := by decide +kernel
theorem dX12_jumps_31 : decode cX12_jumps 31 = .ok (.invokevirtual 250, 3) := by decide +kernel
theorem dX12_jumps_34 : decode cX12_jumps 34 = .ok (.aload_n 0, 1) := by decide +kernel
theorem dX12_jumps_35 : decode cX12_jumps 35 = .ok (.aload_n 0, 1) := by decide +kernel
theorem dX12_jumps_36 : decode cX12_jumps 36 = .ok (.getfield 151, 3) := by decide +kernel
theorem dX12_jumps_39 : decode cX12_jumps 39 = .ok (.iconst 1, 1) := by decide +kernel
theorem dX12_jumps_40 : decode cX12_jumps 40 = .ok (.iadd, 1) := by decide +kernel
theorem dX12_jumps_41 : decode cX12_jumps 41 = .ok (.putfield 151, 3) := by decide +kernel
theorem dX12_jumps_44 : decode cX12_jumps 44 = .ok (.return_, 1) := by decide +kernel
theorem dX12_readsCompared_0 : decode cX12_readsCompared 0 = .ok (.aload_n 0, 1) := by decide +kernel
theorem dX12_readsCompared_1 : decode cX12_readsCompared 1 = .ok (.invokevirtual 276, 3) := by decide +kernel
theorem dX12_readsCompared_4 : decode cX12_readsCompared 4 = .ok (.ifCond .ne 5, 3) := by decide +kernel
theorem dX12_readsCompared_7 : decode cX12_readsCompared 7 = .ok (.iconst 0, 1) := by decide +kernel
theorem dX12_readsCompared_8 : decode cX12_readsCompared 8 = .ok (.ireturn, 1) := by decide +kernel
theorem dX12_readsCompared_9 : decode cX12_readsCompared 9 = .ok (.aload_n 0, 1) := by decide +kernel
theorem dX12_readsCompared_10 : decode cX12_readsCompared 10 = .ok (.invokevirtual 165, 3) := by decide +kernel
theorem dX12_readsCompared_13 : decode cX12_readsCompared 13 = .ok (.bipush 60, 2) := by decide +kernel
theorem dX12_readsCompared_15 : decode cX12_readsCompared 15 = .ok (.if_icmp .ne 8, 3) := by decide +kernel
theorem dX12_readsCompared_18 : decode cX12_readsCompared 18 = .ok (.bipush 7, 2) := by decide +kernel
theorem dX12_readsCompared_20 : decode cX12_readsCompared 20 = .ok (.goto 32, 3) := by decide +kernel
theorem dX12_readsCompared_23 : decode cX12_readsCompared 23 = .ok (.aload_n 0, 1) := by decide +kernel
theorem dX12_readsCompared_24 : decode cX12_readsCompared 24 = .ok (.invokevirtual 165, 3) := by decide +kernel
theorem dX12_readsCompared_27 : decode cX12_readsCompared 27 = .ok (.bipush 62, 2) := by decide +kernel
theorem dX12_readsCompared_29 : decode cX12_readsCompared 29 = .ok (.if_icmp .ne 8, 3) := by decide +kernel
theorem dX12_readsCompared_32 : decode cX12_readsCompared 32 = .ok (.bipush 8, 2) := by decide +kernel
theorem dX12_readsCompared_34 : decode cX12_readsCompared 34 = .ok (.goto 18, 3) := by decide +kernel
theorem dX12_readsCompared_37 : decode cX12_readsCompared 37 = .ok (.aload_n 0, 1) := by decide +kernel
theorem dX12_readsCompared_38 : decode cX12_readsCompared 38 = .ok (.invokevirtual 165, 3) := by decide +kernel
theorem dX12_readsCompared_41 : decode cX12_readsCompared 41 = .ok (.bipush 61, 2) := by decide +kernel
theorem dX12_readsCompared_43 : decode cX12_readsCompared 43 = .ok (.if_icmp .ne 8, 3) := by decide +kernel
theorem dX12_readsCompared_46 : decode cX12_readsCompared 46 = .ok (.bipush 9, 2) := by decide +kernel
theorem dX12_readsCompared_48 : decode cX12_readsCompared 48 = .ok (.goto 4, 3) := by decide +kernel
theorem dX12_readsCompared_51 : decode cX12_readsCompared 51 = .ok (.iconst (-1), 1) := by decide +kernel
theorem dX12_readsCompared_52 : decode cX12_readsCompared 52 = .ok (.istore_n 1, 1) := by decide +kernel
theorem dX12_readsCompared_53 : decode cX12_readsCompared 53 = .ok (.iload_n 1, 1) := by decide +kernel
theorem dX12_readsCompared_54 : decode cX12_readsCompared 54 = .ok (.iconst (-1), 1) := by decide +kernel
theorem dX12_readsCompared_55 : decode cX12_readsCompared 55 = .ok (.if_icmp .ne 13, 3) := by decide +kernel
theorem dX12_readsCompared_58 : decode cX12_readsCompared 58 = .ok (.aload_n 0, 1) := by decide +kernel
theorem dX12_readsCompared_59 : decode cX12_readsCompared 59 = .ok (.iconst 1, 1) := by decide +kernel
theorem dX12_readsCompared_60 : decode cX12_readsCompared 60 = .ok (.aload_n 0, 1) := by decide +kernel
theorem dX12_readsCompared_61 : decode cX12_readsCompared 61 = .ok (.getfield 151, 3) := by decide +kernel
theorem dX12_readsCompared_64 : decode cX12_readsCompared 64 = .ok (.invokevirtual 161, 3) := by decide +kernel
theorem dX12_readsCompared_67 : decode cX12_readsCompared 67 = .ok (.ireturn, 1) := by decide +kernel
theorem dX12_readsCompared_68 : decode cX12_readsCompared 68 = .ok (.aload_n 0, 1) := by decide +kernel
theorem dX12_readsCompared_69 : decode cX12_readsCompared 69 = .ok (.aload_n 0, 1) := by decide +kernel
theorem dX12_readsCompared_70 : decode cX12_readsCompared 70 = .ok (.getfield 151, 3) := by decide +kernel
theorem dX12_readsCompared_73 : decode cX12_readsCompared 73 = .ok (.iconst 1, 1) := by decide +kernel
theorem dX12_readsCompared_74 : decode cX12_readsCompared 74 = .ok (.iadd, 1) := by decide +kernel
theorem dX12_readsCompared_75 : decode cX12_readsCompared 75 = .ok (.putfield 151, 3) := by decide +kernel
theorem dX12_readsCompared_78 : decode cX12_readsCompared 78 = .ok (.aload_n 0, 1) := by decide +kernel
theorem dX12_readsCompared_79 : decode cX12_readsCompared 79 = .ok (.invokevirtual 276, 3) := by decide +kernel
theorem dX12_readsCompared_82 : decode cX12_readsCompared 82 = .ok (.ifCond .ne 5, 3) := by decide +kernel
theorem dX12_readsCompared_85 : decode cX12_readsCompared 85 = .ok (.iconst 0, 1) := by decide +kernel
theorem dX12_readsCompared_86 : decode cX12_readsCompared 86 = .ok (.ireturn, 1) := by decide +kernel
theorem dX12_readsCompared_87 : decode cX12_readsCompared 87 = .ok (.aload_n 0, 1) := by decide +kernel
theorem dX12_readsCompared_88 : decode cX12_readsCompared 88 = .ok (.iload_n 1, 1) := by decide +kernel
theorem dX12_readsCompared_89 : decode cX12_readsCompared 89 = .ok (.iconst 0, 1) := by decide +kernel
theorem dX12_readsCompared_90 : decode cX12_readsCompared 90 = .ok (.invokevirtual 250, 3) := by decide +kernel
theorem dX12_readsCompared_93 : decode cX12_readsCompared 93 = .ok (.aload_n 0, 1) := by decide +kernel
theorem dX12_readsCompared_94 : decode cX12_readsCompared 94 = .ok (.invokevirtual 279, 3) := by decide +kernel
theorem dX12_readsCompared_97 : decode cX12_readsCompared 97 = .ok (.iconst 1, 1) := by decide +kernel
theorem dX12_readsCompared_98 : decode cX12_readsCompared 98 = .ok (.ireturn, 1) := by decide +kernel
theorem dX12_readsCondition_0 : decode cX12_readsCondition 0 = .ok (.aload_n 0, 1) := by decide +kernel
theorem dX12_readsCondition_1 : decode cX12_readsCondition 1 = .ok (.invokevirtual 165, 3) := by decide +kernel
theorem dX12_readsCondition_4 : decode cX12_readsCondition 4 = .ok (.bipush 40, 2) := by decide +kernel
theorem dX12_readsCondition_6 : decode cX12_readsCondition 6 = .ok (.if_icmp .eq 13, 3) := by decide +kernel
theorem dX12_readsCondition_9 : decode cX12_readsCondition 9 = .ok (.aload_n 0, 1) := by decide +kernel
theorem dX12_readsCondition_10 : decode cX12_readsCondition 10 = .ok (.iconst 1, 1) := by decide +kernel
theorem dX12_readsCondition_11 : decode cX12_readsCondition 11 = .ok (.aload_n 0, 1) := by decide +kernel
theorem dX12_readsCondition_12 : decode cX12_readsCondition 12 = .ok (.getfield 151, 3) := by decide +kernel
theorem dX12_readsCondition_15 : decode cX12_readsCondition 15 = .ok (.invokevirtual 161, 3) := by decide +kernel
theorem dX12_readsCondition_18 : decode cX12_readsCondition 18 = .ok (.ireturn, 1) := by decide +kernel
theorem dX12_readsCondition_19 : decode cX12_readsCondition 19 = .ok (.aload_n 0, 1) := by decide +kernel
theorem dX12_readsCondition_20 : decode cX12_readsCondition 20 = .ok (.iconst 0, 1) := by decide +kernel
theorem dX12_readsCondition_21 : decode cX12_readsCondition 21 = .ok (.putfield 241, 3) := by decide +kernel
theorem dX12_readsCondition_24 : decode cX12_readsCondition 24 = .ok (.aload_n 0, 1) := by decide +kernel
theorem dX12_readsCondition_25 : decode cX12_readsCondition 25 = .ok (.iconst 0, 1) := by decide +kernel
theorem dX12_readsCondition_26 : decode cX12_readsCondition 26 = .ok (.putfield 244, 3) := by decide +kernel
theorem dX12_readsCondition_29 : decode cX12_readsCondition 29 = .ok (.aload_n 0, 1) := by decide +kernel
theorem dX12_readsCondition_30 : decode cX12_readsCondition 30 = .ok (.bipush 13, 2) := by decide +kernel
theorem dX12_readsCondition_32 : decode cX12_readsCondition 32 = .ok (.invokevirtual 254, 3) := by decide +kernel
theorem dX12_readsCondition_35 : decode cX12_readsCondition 35 = .ok (.ifCond .ne 5, 3) := by decide +kernel
theorem dX12_readsCondition_38 : decode cX12_readsCondition 38 = .ok (.iconst 0, 1) := by decide +kernel
theorem dX12_readsCondition_39 : decode cX12_readsCondition 39 = .ok (.ireturn, 1) := by decide +kernel
theorem dX12_readsCondition_40 : decode cX12_readsCondition 40 = .ok (.aload_n 0, 1) := by decide +kernel
theorem dX12_readsCondition_41 : decode cX12_readsCondition 41 = .ok (.invokevirtual 165, 3) := by decide +kernel
theorem dX12_readsCondition_44 : decode cX12_readsCondition 44 = .ok (.bipush 33, 2) := by decide +kernel
theorem dX12_readsCondition_46 : decode cX12_readsCondition 46 = .ok (.if_icmp .eq 12, 3) := by decide +kernel
theorem dX12_readsCondition_49 : decode cX12_readsCondition 49 = .ok (.aload_n 0, 1) := by decide +kernel
theorem dX12_readsCondition_50 : decode cX12_readsCondition 50 = .ok (.invokevirtual 165, 3) := by decide +kernel
theorem dX12_readsCondition_53 : decode cX12_readsCondition 53 = .ok (.bipush 40, 2) := by decide +kernel
theorem dX12_readsCondition_55 : decode cX12_readsCondition 55 = .ok (.if_icmp .ne 28, 3) := by decide +kernel
theorem dX12_readsCondition_58 : decode cX12_readsCondition 58 = .ok (.aload_n 0, 1) := by decide +kernel
theorem dX12_readsCondition_59 : decode cX12_readsCondition 59 = .ok (.aload_n 0, 1) := by decide +kernel
theorem dX12_readsCondition_60 : decode cX12_readsCondition 60 = .ok (.invokevirtual 165, 3) := by decide +kernel
theorem dX12_readsCondition_63 : decode cX12_readsCondition 63 = .ok (.bipush 33, 2) := by decide +kernel
theorem dX12_readsCondition_65 : decode cX12_readsCondition 65 = .ok (.if_icmp .ne 8, 3) := by decide +kernel
theorem dX12_readsCondition_68 : decode cX12_readsCondition 68 = .ok (.bipush 10, 2) := by decide +kernel
theorem dX12_readsCondition_70 : decode cX12_readsCondition 70 = .ok (.goto 5, 3) := by decide +kernel
theorem dX12_readsCondition_73 : decode cX12_readsCondition 73 = .ok (.bipush 13, 2) := by decide +kernel
theorem dX12_readsCondition_75 : decode cX12_readsCondition 75 = .ok (.invokevirtual 254, 3) := by decide +kernel
theorem dX12_readsCondition_78 : decode cX12_readsCondition 78 = .ok (.ifCond .ne (-38), 3) := by decide +kernel
theorem dX12_readsCondition_81 : decode cX12_readsCondition 81 = .ok (.iconst 0, 1) := by decide +kernel
theorem dX12_readsCondition_82 : decode cX12_readsCondition 82 = .ok (.ireturn, 1) := by decide +kernel
theorem dX12_readsCondition_83 : decode cX12_readsCondition 83 = .ok (.aload_n 0, 1) := by decide +kernel
theorem dX12_readsCondition_84 : decode cX12_readsCondition 84 = .ok (.invokevirtual 282, 3) := by decide +kernel
theorem dX12_readsCondition_87 : decode cX12_readsCondition 87 = .ok (.ifCond .ne 5, 3) := by decide +kernel
theorem dX12_readsCondition_90 : decode cX12_readsCondition 90 = .ok (.iconst 0, 1) := by decide +kernel
theorem dX12_readsCondition_91 : decode cX12_readsCondition 91 = .ok (.ireturn, 1) := by decide +kernel
theorem dX12_readsCondition_92 : decode cX12_readsCondition 92 = .ok (.aload_n 0, 1) := by decide +kernel
theorem dX12_readsCondition_93 : decode cX12_readsCondition 93 = .ok (.invokevirtual 165, 3) := by decide +kernel
theorem dX12_readsCondition_96 : decode cX12_readsCondition 96 = .ok (.bipush 41, 2) := by decide +kernel
theorem dX12_readsCondition_98 : decode cX12_readsCondition 98 = .ok (.if_icmp .ne 54, 3) := by decide +kernel
theorem dX12_readsCondition_101 : decode cX12_readsCondition 101 = .ok (.aload_n 0, 1) := by decide +kernel
theorem dX12_readsCondition_102 : decode cX12_readsCondition 102 = .ok (.iconst 1, 1) := by decide +kernel
theorem dX12_readsCondition_103 : decode cX12_readsCondition 103 = .ok (.invokevirtual 285, 3) := by decide +kernel
theorem dX12_readsCondition_106 : decode cX12_readsCondition 106 = .ok (.aload_n 0, 1) := by decide +kernel
theorem dX12_readsCondition_107 : decode cX12_readsCondition 107 = .ok (.aload_n 0, 1) := by decide +kernel
theorem dX12_readsCondition_108 : decode cX12_readsCondition 108 = .ok (.getfield 244, 3) := by decide +kernel
theorem dX12_readsCondition_111 : decode cX12_readsCondition 111 = .ok (.iconst 1, 1) := by decide +kernel
theorem dX12_readsCondition_112 : decode cX12_readsCondition 112 = .ok (.isub, 1) := by decide +kernel
theorem dX12_readsCondition_113 : decode cX12_readsCondition 113 = .ok (.putfield 244, 3) := by decide +kernel
theorem dX12_readsCondition_116 : decode cX12_readsCondition 116 = .ok (.aload_n 0, 1) := by decide +kernel
theorem dX12_readsCondition_117 : decode cX12_readsCondition 117 = .ok (.aload_n 0, 1) := by decide +kernel
theorem dX12_readsCondition_118 : decode cX12_readsCondition 118 = .ok (.getfield 241, 3) := by decide +kernel
theorem dX12_readsCondition_121 : decode cX12_readsCondition 121 = .ok (.iconst 1, 1) := by decide +kernel
theorem dX12_readsCondition_122 : decode cX12_readsCondition 122 = .ok (.isub, 1) := by decide +kernel
theorem dX12_readsCondition_123 : decode cX12_readsCondition 123 = .ok (.putfield 241, 3) := by decide +kernel
theorem dX12_readsCondition_126 : decode cX12_readsCondition 126 = .ok (.aload_n 0, 1) := by decide +kernel
theorem dX12_readsCondition_127 : decode cX12_readsCondition 127 = .ok (.aload_n 0, 1) := by decide +kernel
theorem dX12_readsCondition_128 : decode cX12_readsCondition 128 = .ok (.getfield 151, 3) := by decide +kernel
theorem dX12_readsCondition_131 : decode cX12_readsCondition 131 = .ok (.iconst 1, 1) := by decide +kernel
theorem dX12_readsCondition_132 : decode cX12_readsCondition 132 = .ok (.iadd, 1) := by decide +kernel
theorem dX12_readsCondition_133 : decode cX12_readsCondition 133 = .ok (.putfield 151, 3) := by decide +kernel
theorem dX12_readsCondition_136 : decode cX12_readsCondition 136 = .ok (.aload_n 0, 1) := by decide +kernel
theorem dX12_readsCondition_137 : decode cX12_readsCondition 137 = .ok (.getfield 244, 3) := by decide +kernel
theorem dX12_readsCondition_140 : decode cX12_readsCondition 140 = .ok (.ifCond .ne 5, 3) := by decide +kernel
theorem dX12_readsCondition_143 : decode cX12_readsCondition 143 = .ok (.iconst 1, 1) := by decide +kernel
theorem dX12_readsCondition_144 : decode cX12_readsCondition 144 = .ok (.ireturn, 1) := by decide +kernel
theorem dX12_readsCondition_145 : decode cX12_readsCondition 145 = .ok (.aload_n 0, 1) := by decide +kernel
theorem dX12_readsCondition_146 : decode cX12_readsCondition 146 = .ok (.invokevirtual 279, 3) := by decide +kernel
theorem dX12_readsCondition_149 : decode cX12_readsCondition 149 = .ok (.goto (-57), 3) := by decide +kernel
theorem dX12_readsCondition_152 : decode cX12_readsCondition 152 = .ok (.aload_n 0, 1) := by decide +kernel
theorem dX12_readsCondition_153 : decode cX12_readsCondition 153 = .ok (.invokevirtual 165, 3) := by decide +kernel
theorem dX12_readsCondition_156 : decode cX12_readsCondition 156 = .ok (.bipush 38, 2) := by decide +kernel
theorem dX12_readsCondition_158 : decode cX12_readsCondition 158 = .ok (.if_icmp .eq 22, 3) := by decide +kernel
theorem dX12_readsCondition_161 : decode cX12_readsCondition 161 = .ok (.aload_n 0, 1) := by decide +kernel
theorem dX12_readsCondition_162 : decode cX12_readsCondition 162 = .ok (.invokevirtual 165, 3) := by decide +kernel
theorem dX12_readsCondition_165 : decode cX12_readsCondition 165 = .ok (.bipush 124, 2) := by decide +kernel
theorem dX12_readsCondition_167 : decode cX12_readsCondition 167 = .ok (.if_icmp .eq 13, 3) := by decide +kernel
theorem dX12_readsCondition_170 : decode cX12_readsCondition 170 = .ok (.aload_n 0, 1) := by decide +kernel
theorem dX12_readsCondition_171 : decode cX12_readsCondition 171 = .ok (.iconst 1, 1) := by decide +kernel
theorem dX12_readsCondition_172 : decode cX12_readsCondition 172 = .ok (.aload_n 0, 1) := by decide +kernel
theorem dX12_readsCondition_173 : decode cX12_readsCondition 173 = .ok (.getfield 151, 3) := by decide +kernel
theorem dX12_readsCondition_176 : decode cX12_readsCondition 176 = .ok (.invokevirtual 161, 3) := by decide +kernel
theorem dX12_readsCondition_179 : decode cX12_readsCondition 179 = .ok (.ireturn, 1) := by decide +kernel
theorem dX12_readsCondition_180 : decode cX12_readsCondition 180 = .ok (.aload_n 0, 1) := by decide +kernel
theorem dX12_readsCondition_181 : decode cX12_readsCondition 181 = .ok (.aload_n 0, 1) := by decide +kernel
theorem dX12_readsCondition_182 : decode cX12_readsCondition 182 = .ok (.invokevirtual 165, 3) := by decide +kernel
theorem dX12_readsCondition_185 : decode cX12_readsCondition 185 = .ok (.bipush 124, 2) := by decide +kernel
theorem dX12_readsCondition_187 : decode cX12_readsCondition 187 = .ok (.if_icmp .ne 7, 3) := by decide +kernel
theorem dX12_readsCondition_190 : decode cX12_readsCondition 190 = .ok (.iconst 1, 1) := by decide +kernel
theorem dX12_readsCondition_191 : decode cX12_readsCondition 191 = .ok (.goto 4, 3) := by decide +kernel
theorem dX12_readsCondition_194 : decode cX12_readsCondition 194 = .ok (.iconst 0, 1) := by decide +kernel
theorem dX12_readsCondition_195 : decode cX12_readsCondition 195 = .ok (.invokevirtual 285, 3) := by decide +kernel
theorem dX12_readsCondition_198 : decode cX12_readsCondition 198 = .ok (.aload_n 0, 1) := by decide +kernel
theorem dX12_readsCondition_199 : decode cX12_readsCondition 199 = .ok (.aload_n 0, 1) := by decide +kernel
theorem dX12_readsCondition_200 : decode cX12_readsCondition 200 = .ok (.invokevirtual 165, 3) := by decide +kernel
theorem dX12_readsCondition_203 : decode cX12_readsCondition 203 = .ok (.bipush 38, 2) := by decide +kernel
theorem dX12_readsCondition_205 : decode cX12_readsCondition 205 = .ok (.if_icmp .ne 8, 3) := by decide +kernel
theorem dX12_readsCondition_208 : decode cX12_readsCondition 208 = .ok (.bipush 11, 2) := by decide +kernel
theorem dX12_readsCondition_210 : decode cX12_readsCondition 210 = .ok (.goto 5, 3) := by decide +kernel
theorem dX12_readsCondition_213 : decode cX12_readsCondition 213 = .ok (.bipush 12, 2) := by decide +kernel
theorem dX12_readsCondition_215 : decode cX12_readsCondition 215 = .ok (.invokevirtual 288, 3) := by decide +kernel
theorem dX12_readsCondition_218 : decode cX12_readsCondition 218 = .ok (.goto (-178), 3) := by decide +kernel
theorem dX12_readsClause_0 : decode cX12_readsClause 0 = .ok (.aload_n 0, 1) := by decide +kernel
theorem dX12_readsClause_1 : decode cX12_readsClause 1 = .ok (.invokevirtual 165, 3) := by decide +kernel
theorem dX12_readsClause_4 : decode cX12_readsClause 4 = .ok (.istore_n 1, 1) := by decide +kernel
theorem dX12_readsClause_5 : decode cX12_readsClause 5 = .ok (.iload_n 1, 1) := by decide +kernel
theorem dX12_readsClause_6 : decode cX12_readsClause 6 = .ok (.bipush 112, 2) := by decide +kernel
theorem dX12_readsClause_8 : decode cX12_readsClause 8 = .ok (.if_icmp .eq 19, 3) := by decide +kernel
theorem dX12_readsClause_11 : decode cX12_readsClause 11 = .ok (.iload_n 1, 1) := by decide +kernel
theorem dX12_readsClause_12 : decode cX12_readsClause 12 = .ok (.bipush 109, 2) := by decide +kernel
theorem dX12_readsClause_14 : decode cX12_readsClause 14 = .ok (.if_icmp .eq 13, 3) := by decide +kernel
theorem dX12_readsClause_17 : decode cX12_readsClause 17 = .ok (.aload_n 0, 1) := by decide +kernel
theorem dX12_readsClause_18 : decode cX12_readsClause 18 = .ok (.iconst 1, 1) := by decide +kernel
theorem dX12_readsClause_19 : decode cX12_readsClause 19 = .ok (.aload_n 0, 1) := by decide +kernel
theorem dX12_readsClause_20 : decode cX12_readsClause 20 = .ok (.getfield 151, 3) := by decide +kernel
theorem dX12_readsClause_23 : decode cX12_readsClause 23 = .ok (.invokevirtual 161, 3) := by decide +kernel
theorem dX12_readsClause_26 : decode cX12_readsClause 26 = .ok (.ireturn, 1) := by decide +kernel
theorem dX12_readsClause_27 : decode cX12_readsClause 27 = .ok (.aload_n 0, 1) := by decide +kernel
theorem dX12_readsClause_28 : decode cX12_readsClause 28 = .ok (.getfield 291, 3) := by decide +kernel
theorem dX12_readsClause_31 : decode cX12_readsClause 31 = .ok (.bipush 12, 2) := by decide +kernel
theorem dX12_readsClause_33 : decode cX12_readsClause 33 = .ok (.if_icmp .ne 13, 3) := by decide +kernel
theorem dX12_readsClause_36 : decode cX12_readsClause 36 = .ok (.aload_n 0, 1) := by decide +kernel
theorem dX12_readsClause_37 : decode cX12_readsClause 37 = .ok (.iconst 4, 1) := by decide +kernel
theorem dX12_readsClause_38 : decode cX12_readsClause 38 = .ok (.aload_n 0, 1) := by decide +kernel
theorem dX12_readsClause_39 : decode cX12_readsClause 39 = .ok (.getfield 151, 3) := by decide +kernel
theorem dX12_readsClause_42 : decode cX12_readsClause 42 = .ok (.invokevirtual 161, 3) := by decide +kernel
theorem dX12_readsClause_45 : decode cX12_readsClause 45 = .ok (.ireturn, 1) := by decide +kernel
theorem dX12_readsClause_46 : decode cX12_readsClause 46 = .ok (.aload_n 0, 1) := by decide +kernel
theorem dX12_readsClause_47 : decode cX12_readsClause 47 = .ok (.getfield 50, 3) := by decide +kernel
theorem dX12_readsClause_50 : decode cX12_readsClause 50 = .ok (.aload_n 0, 1) := by decide +kernel
theorem dX12_readsClause_51 : decode cX12_readsClause 51 = .ok (.getfield 291, 3) := by decide +kernel
theorem dX12_readsClause_54 : decode cX12_readsClause 54 = .ok (.iload_n 1, 1) := by decide +kernel
theorem dX12_readsClause_55 : decode cX12_readsClause 55 = .ok (.iastore, 1) := by decide +kernel
theorem dX12_readsClause_56 : decode cX12_readsClause 56 = .ok (.aload_n 0, 1) := by decide +kernel
theorem dX12_readsClause_57 : decode cX12_readsClause 57 = .ok (.aload_n 0, 1) := by decide +kernel
theorem dX12_readsClause_58 : decode cX12_readsClause 58 = .ok (.getfield 151, 3) := by decide +kernel
theorem dX12_readsClause_61 : decode cX12_readsClause 61 = .ok (.iconst 1, 1) := by decide +kernel
theorem dX12_readsClause_62 : decode cX12_readsClause 62 = .ok (.iadd, 1) := by decide +kernel
theorem dX12_readsClause_63 : decode cX12_readsClause 63 = .ok (.putfield 151, 3) := by decide +kernel
theorem dX12_readsClause_66 : decode cX12_readsClause 66 = .ok (.aload_n 0, 1) := by decide +kernel
theorem dX12_readsClause_67 : decode cX12_readsClause 67 = .ok (.getfield 53, 3) := by decide +kernel
theorem dX12_readsClause_70 : decode cX12_readsClause 70 = .ok (.aload_n 0, 1) := by decide +kernel
theorem dX12_readsClause_71 : decode cX12_readsClause 71 = .ok (.getfield 291, 3) := by decide +kernel
theorem dX12_readsClause_74 : decode cX12_readsClause 74 = .ok (.aload_n 0, 1) := by decide +kernel
theorem dX12_readsClause_75 : decode cX12_readsClause 75 = .ok (.getfield 237, 3) := by decide +kernel
theorem dX12_readsClause_78 : decode cX12_readsClause 78 = .ok (.iastore, 1) := by decide +kernel
theorem dX12_readsClause_79 : decode cX12_readsClause 79 = .ok (.aload_n 0, 1) := by decide +kernel
theorem dX12_readsClause_80 : decode cX12_readsClause 80 = .ok (.iconst 0, 1) := by decide +kernel
theorem dX12_readsClause_81 : decode cX12_readsClause 81 = .ok (.putfield 241, 3) := by decide +kernel
theorem dX12_readsClause_84 : decode cX12_readsClause 84 = .ok (.aload_n 0, 1) := by decide +kernel
theorem dX12_readsClause_85 : decode cX12_readsClause 85 = .ok (.iconst 0, 1) := by decide +kernel
theorem dX12_readsClause_86 : decode cX12_readsClause 86 = .ok (.putfield 244, 3) := by decide +kernel
theorem dX12_readsClause_89 : decode cX12_readsClause 89 = .ok (.aload_n 0, 1) := by decide +kernel
theorem dX12_readsClause_90 : decode cX12_readsClause 90 = .ok (.invokevirtual 276, 3) := by decide +kernel
theorem dX12_readsClause_93 : decode cX12_readsClause 93 = .ok (.ifCond .ne 5, 3) := by decide +kernel
theorem dX12_readsClause_96 : decode cX12_readsClause 96 = .ok (.iconst 0, 1) := by decide +kernel
theorem dX12_readsClause_97 : decode cX12_readsClause 97 = .ok (.ireturn, 1) := by decide +kernel
theorem dX12_readsClause_98 : decode cX12_readsClause 98 = .ok (.aload_n 0, 1) := by decide +kernel
theorem dX12_readsClause_99 : decode cX12_readsClause 99 = .ok (.getfield 56, 3) := by decide +kernel
theorem dX12_readsClause_102 : decode cX12_readsClause 102 = .ok (.aload_n 0, 1) := by decide +kernel
theorem dX12_readsClause_103 : decode cX12_readsClause 103 = .ok (.getfield 291, 3) := by decide +kernel
theorem dX12_readsClause_106 : decode cX12_readsClause 106 = .ok (.aload_n 0, 1) := by decide +kernel
theorem dX12_readsClause_107 : decode cX12_readsClause 107 = .ok (.getfield 237, 3) := by decide +kernel
theorem dX12_readsClause_110 : decode cX12_readsClause 110 = .ok (.iastore, 1) := by decide +kernel
theorem dX12_readsClause_111 : decode cX12_readsClause 111 = .ok (.aload_n 0, 1) := by decide +kernel
theorem dX12_readsClause_112 : decode cX12_readsClause 112 = .ok (.invokevirtual 294, 3) := by decide +kernel
theorem dX12_readsClause_115 : decode cX12_readsClause 115 = .ok (.ifCond .ne 5, 3) := by decide +kernel
theorem dX12_readsClause_118 : decode cX12_readsClause 118 = .ok (.iconst 0, 1) := by decide +kernel
theorem dX12_readsClause_119 : decode cX12_readsClause 119 = .ok (.ireturn, 1) := by decide +kernel
theorem dX12_readsClause_120 : decode cX12_readsClause 120 = .ok (.aload_n 0, 1) := by decide +kernel
theorem dX12_readsClause_121 : decode cX12_readsClause 121 = .ok (.getfield 59, 3) := by decide +kernel
theorem dX12_readsClause_124 : decode cX12_readsClause 124 = .ok (.aload_n 0, 1) := by decide +kernel
theorem dX12_readsClause_125 : decode cX12_readsClause 125 = .ok (.getfield 291, 3) := by decide +kernel
theorem dX12_readsClause_128 : decode cX12_readsClause 128 = .ok (.aload_n 0, 1) := by decide +kernel
theorem dX12_readsClause_129 : decode cX12_readsClause 129 = .ok (.getfield 237, 3) := by decide +kernel
theorem dX12_readsClause_132 : decode cX12_readsClause 132 = .ok (.iastore, 1) := by decide +kernel
theorem dX12_readsClause_133 : decode cX12_readsClause 133 = .ok (.aload_n 0, 1) := by decide +kernel
theorem dX12_readsClause_134 : decode cX12_readsClause 134 = .ok (.aload_n 0, 1) := by decide +kernel
theorem dX12_readsClause_135 : decode cX12_readsClause 135 = .ok (.getfield 291, 3) := by decide +kernel
theorem dX12_readsClause_138 : decode cX12_readsClause 138 = .ok (.iconst 1, 1) := by decide +kernel
theorem dX12_readsClause_139 : decode cX12_readsClause 139 = .ok (.iadd, 1) := by decide +kernel
theorem dX12_readsClause_140 : decode cX12_readsClause 140 = .ok (.putfield 291, 3) := by decide +kernel
theorem dX12_readsClause_143 : decode cX12_readsClause 143 = .ok (.iconst 1, 1) := by decide +kernel
theorem dX12_readsClause_144 : decode cX12_readsClause 144 = .ok (.ireturn, 1) := by decide +kernel
theorem dX12_law_0 : decode cX12_law 0 = .ok (.iload_n 1, 1) := by decide +kernel
theorem dX12_law_1 : decode cX12_law 1 = .ok (.iconst 1, 1) := by decide +kernel
theorem dX12_law_2 : decode cX12_law 2 = .ok (.sipush 160, 3) := by decide +kernel
theorem dX12_law_5 : decode cX12_law 5 = .ok (.invokestatic 169, 3) := by decide +kernel
theorem dX12_law_8 : decode cX12_law 8 = .ok (.ifCond .eq 11, 3) := by decide +kernel
theorem dX12_law_11 : decode cX12_law 11 = .ok (.iload_n 1, 1) := by decide +kernel
theorem dX12_law_12 : decode cX12_law 12 = .ok (.aload_n 0, 1) := by decide +kernel
theorem dX12_law_13 : decode cX12_law 13 = .ok (.getfield 144, 3) := by decide +kernel
theorem dX12_law_16 : decode cX12_law 16 = .ok (.if_icmp .le 5, 3) := by decide +kernel
theorem dX12_law_19 : decode cX12_law 19 = .ok (.iconst (-1), 1) := by decide +kernel
theorem dX12_law_20 : decode cX12_law 20 = .ok (.ireturn, 1) := by decide +kernel
theorem dX12_law_21 : decode cX12_law 21 = .ok (.aload_n 0, 1) := by decide +kernel
theorem dX12_law_22 : decode cX12_law 22 = .ok (.iconst 0, 1) := by decide +kernel
theorem dX12_law_23 : decode cX12_law 23 = .ok (.putfield 151, 3) := by decide +kernel
theorem dX12_law_26 : decode cX12_law 26 = .ok (.aload_n 0, 1) := by decide +kernel
theorem dX12_law_27 : decode cX12_law 27 = .ok (.iload_n 1, 1) := by decide +kernel
theorem dX12_law_28 : decode cX12_law 28 = .ok (.putfield 187, 3) := by decide +kernel
theorem dX12_law_31 : decode cX12_law 31 = .ok (.aload_n 0, 1) := by decide +kernel
theorem dX12_law_32 : decode cX12_law 32 = .ok (.iconst 0, 1) := by decide +kernel
theorem dX12_law_33 : decode cX12_law 33 = .ok (.putfield 237, 3) := by decide +kernel
theorem dX12_law_36 : decode cX12_law 36 = .ok (.aload_n 0, 1) := by decide +kernel
theorem dX12_law_37 : decode cX12_law 37 = .ok (.iconst 0, 1) := by decide +kernel
theorem dX12_law_38 : decode cX12_law 38 = .ok (.putfield 291, 3) := by decide +kernel
theorem dX12_law_41 : decode cX12_law 41 = .ok (.aload_n 0, 1) := by decide +kernel
theorem dX12_law_42 : decode cX12_law 42 = .ok (.invokevirtual 297, 3) := by decide +kernel
theorem dX12_law_45 : decode cX12_law 45 = .ok (.istore_n 2, 1) := by decide +kernel
theorem dX12_law_46 : decode cX12_law 46 = .ok (.iload_n 2, 1) := by decide +kernel
theorem dX12_law_47 : decode cX12_law 47 = .ok (.ifCond .eq 39, 3) := by decide +kernel
theorem dX12_law_50 : decode cX12_law 50 = .ok (.aload_n 0, 1) := by decide +kernel
theorem dX12_law_51 : decode cX12_law 51 = .ok (.getfield 151, 3) := by decide +kernel
theorem dX12_law_54 : decode cX12_law 54 = .ok (.aload_n 0, 1) := by decide +kernel
theorem dX12_law_55 : decode cX12_law 55 = .ok (.getfield 187, 3) := by decide +kernel
theorem dX12_law_58 : decode cX12_law 58 = .ok (.if_icmp .ge 28, 3) := by decide +kernel
theorem dX12_law_61 : decode cX12_law 61 = .ok (.aload_n 0, 1) := by decide +kernel
theorem dX12_law_62 : decode cX12_law 62 = .ok (.bipush 59, 2) := by decide +kernel
theorem dX12_law_64 : decode cX12_law 64 = .ok (.invokevirtual 176, 3) := by decide +kernel
theorem dX12_law_67 : decode cX12_law 67 = .ok (.ifCond .eq 14, 3) := by decide +kernel
theorem dX12_law_70 : decode cX12_law 70 = .ok (.aload_n 0, 1) := by decide +kernel
theorem dX12_law_71 : decode cX12_law 71 = .ok (.invokevirtual 297, 3) := by decide +kernel
theorem dX12_law_74 : decode cX12_law 74 = .ok (.ifCond .eq 7, 3) := by decide +kernel
theorem dX12_law_77 : decode cX12_law 77 = .ok (.iconst 1, 1) := by decide +kernel
theorem dX12_law_78 : decode cX12_law 78 = .ok (.goto 4, 3) := by decide +kernel
theorem dX12_law_81 : decode cX12_law 81 = .ok (.iconst 0, 1) := by decide +kernel
theorem dX12_law_82 : decode cX12_law 82 = .ok (.istore_n 2, 1) := by decide +kernel
theorem dX12_law_83 : decode cX12_law 83 = .ok (.goto (-37), 3) := by decide +kernel
theorem dX12_law_86 : decode cX12_law 86 = .ok (.aload_n 0, 1) := by decide +kernel
theorem dX12_law_87 : decode cX12_law 87 = .ok (.iconst 0, 1) := by decide +kernel
theorem dX12_law_88 : decode cX12_law 88 = .ok (.putfield 144, 3) := by decide +kernel
theorem dX12_law_91 : decode cX12_law 91 = .ok (.iload_n 2, 1) := by decide +kernel
theorem dX12_law_92 : decode cX12_law 92 = .ok (.ifCond .ne 8, 3) := by decide +kernel
theorem dX12_law_95 : decode cX12_law 95 = .ok (.aload_n 0, 1) := by decide +kernel
theorem dX12_law_96 : decode cX12_law 96 = .ok (.getfield 193, 3) := by decide +kernel
theorem dX12_law_99 : decode cX12_law 99 = .ok (.ireturn, 1) := by decide +kernel
theorem dX12_law_100 : decode cX12_law 100 = .ok (.aload_n 0, 1) := by decide +kernel
theorem dX12_law_101 : decode cX12_law 101 = .ok (.aload_n 0, 1) := by decide +kernel
theorem dX12_law_102 : decode cX12_law 102 = .ok (.getfield 291, 3) := by decide +kernel
theorem dX12_law_105 : decode cX12_law 105 = .ok (.putfield 300, 3) := by decide +kernel
theorem dX12_law_108 : decode cX12_law 108 = .ok (.iconst 0, 1) := by decide +kernel
theorem dX12_law_109 : decode cX12_law 109 = .ok (.istore_n 3, 1) := by decide +kernel
theorem dX12_law_110 : decode cX12_law 110 = .ok (.iload_n 3, 1) := by decide +kernel
theorem dX12_law_111 : decode cX12_law 111 = .ok (.aload_n 0, 1) := by decide +kernel
theorem dX12_law_112 : decode cX12_law 112 = .ok (.getfield 237, 3) := by decide +kernel
theorem dX12_law_115 : decode cX12_law 115 = .ok (.if_icmp .ge 21, 3) := by decide +kernel
theorem dX12_law_118 : decode cX12_law 118 = .ok (.aload_n 0, 1) := by decide +kernel
theorem dX12_law_119 : decode cX12_law 119 = .ok (.getfield 62, 3) := by decide +kernel
theorem dX12_law_122 : decode cX12_law 122 = .ok (.iload_n 3, 1) := by decide +kernel
theorem dX12_law_123 : decode cX12_law 123 = .ok (.aload_n 0, 1) := by decide +kernel
theorem dX12_law_124 : decode cX12_law 124 = .ok (.getfield 44, 3) := by decide +kernel
theorem dX12_law_127 : decode cX12_law 127 = .ok (.iload_n 3, 1) := by decide +kernel
theorem dX12_law_128 : decode cX12_law 128 = .ok (.iaload, 1) := by decide +kernel
theorem dX12_law_129 : decode cX12_law 129 = .ok (.iastore, 1) := by decide +kernel
theorem dX12_law_130 : decode cX12_law 130 = .ok (.iinc 3 1, 3) := by decide +kernel
theorem dX12_law_133 : decode cX12_law 133 = .ok (.goto (-23), 3) := by decide +kernel
theorem dX12_law_136 : decode cX12_law 136 = .ok (.iconst 0, 1) := by decide +kernel
theorem dX12_law_137 : decode cX12_law 137 = .ok (.istore_n 3, 1) := by decide +kernel
theorem dX12_law_138 : decode cX12_law 138 = .ok (.iload_n 3, 1) := by decide +kernel
theorem dX12_law_139 : decode cX12_law 139 = .ok (.aload_n 0, 1) := by decide +kernel
theorem dX12_law_140 : decode cX12_law 140 = .ok (.getfield 291, 3) := by decide +kernel
theorem dX12_law_143 : decode cX12_law 143 = .ok (.if_icmp .ge 57, 3) := by decide +kernel
theorem dX12_law_146 : decode cX12_law 146 = .ok (.aload_n 0, 1) := by decide +kernel
theorem dX12_law_147 : decode cX12_law 147 = .ok (.getfield 65, 3) := by decide +kernel
theorem dX12_law_150 : decode cX12_law 150 = .ok (.iload_n 3, 1) := by decide +kernel
theorem dX12_law_151 : decode cX12_law 151 = .ok (.aload_n 0, 1) := by decide +kernel
theorem dX12_law_152 : decode cX12_law 152 = .ok (.getfield 50, 3) := by decide +kernel
theorem dX12_law_155 : decode cX12_law 155 = .ok (.iload_n 3, 1) := by decide +kernel
theorem dX12_law_156 : decode cX12_law 156 = .ok (.iaload, 1) := by decide +kernel
theorem dX12_law_157 : decode cX12_law 157 = .ok (.iastore, 1) := by decide +kernel
theorem dX12_law_158 : decode cX12_law 158 = .ok (.aload_n 0, 1) := by decide +kernel
theorem dX12_law_159 : decode cX12_law 159 = .ok (.getfield 68, 3) := by decide +kernel
theorem dX12_law_162 : decode cX12_law 162 = .ok (.iload_n 3, 1) := by decide +kernel
theorem dX12_law_163 : decode cX12_law 163 = .ok (.aload_n 0, 1) := by decide +kernel
theorem dX12_law_164 : decode cX12_law 164 = .ok (.getfield 53, 3) := by decide +kernel
theorem dX12_law_167 : decode cX12_law 167 = .ok (.iload_n 3, 1) := by decide +kernel
theorem dX12_law_168 : decode cX12_law 168 = .ok (.iaload, 1) := by decide +kernel
theorem dX12_law_169 : decode cX12_law 169 = .ok (.iastore, 1) := by decide +kernel
theorem dX12_law_170 : decode cX12_law 170 = .ok (.aload_n 0, 1) := by decide +kernel
theorem dX12_law_171 : decode cX12_law 171 = .ok (.getfield 71, 3) := by decide +kernel
theorem dX12_law_174 : decode cX12_law 174 = .ok (.iload_n 3, 1) := by decide +kernel
theorem dX12_law_175 : decode cX12_law 175 = .ok (.aload_n 0, 1) := by decide +kernel
theorem dX12_law_176 : decode cX12_law 176 = .ok (.getfield 56, 3) := by decide +kernel
theorem dX12_law_179 : decode cX12_law 179 = .ok (.iload_n 3, 1) := by decide +kernel
theorem dX12_law_180 : decode cX12_law 180 = .ok (.iaload, 1) := by decide +kernel
theorem dX12_law_181 : decode cX12_law 181 = .ok (.iastore, 1) := by decide +kernel
theorem dX12_law_182 : decode cX12_law 182 = .ok (.aload_n 0, 1) := by decide +kernel
theorem dX12_law_183 : decode cX12_law 183 = .ok (.getfield 74, 3) := by decide +kernel
theorem dX12_law_186 : decode cX12_law 186 = .ok (.iload_n 3, 1) := by decide +kernel
theorem dX12_law_187 : decode cX12_law 187 = .ok (.aload_n 0, 1) := by decide +kernel
theorem dX12_law_188 : decode cX12_law 188 = .ok (.getfield 59, 3) := by decide +kernel
theorem dX12_law_191 : decode cX12_law 191 = .ok (.iload_n 3, 1) := by decide +kernel
theorem dX12_law_192 : decode cX12_law 192 = .ok (.iaload, 1) := by decide +kernel
theorem dX12_law_193 : decode cX12_law 193 = .ok (.iastore, 1) := by decide +kernel
theorem dX12_law_194 : decode cX12_law 194 = .ok (.iinc 3 1, 3) := by decide +kernel
theorem dX12_law_197 : decode cX12_law 197 = .ok (.goto (-59), 3) := by decide +kernel
theorem dX12_law_200 : decode cX12_law 200 = .ok (.aload_n 0, 1) := by decide +kernel
theorem dX12_law_201 : decode cX12_law 201 = .ok (.getfield 291, 3) := by decide +kernel
theorem dX12_law_204 : decode cX12_law 204 = .ok (.ireturn, 1) := by decide +kernel
theorem dX12_reckon_0 : decode cX12_reckon 0 = .ok (.iload_n 0, 1) := by decide +kernel
theorem dX12_reckon_1 : decode cX12_reckon 1 = .ok (.tableswitch 85 2 8 #[43, 47, 51, 55, 59, 63, 74], 43) := by decide +kernel
theorem dX12_reckon_44 : decode cX12_reckon 44 = .ok (.iload_n 1, 1) := by decide +kernel
theorem dX12_reckon_45 : decode cX12_reckon 45 = .ok (.iload_n 2, 1) := by decide +kernel
theorem dX12_reckon_46 : decode cX12_reckon 46 = .ok (.iadd, 1) := by decide +kernel
theorem dX12_reckon_47 : decode cX12_reckon 47 = .ok (.ireturn, 1) := by decide +kernel
theorem dX12_reckon_48 : decode cX12_reckon 48 = .ok (.iload_n 1, 1) := by decide +kernel
theorem dX12_reckon_49 : decode cX12_reckon 49 = .ok (.iload_n 2, 1) := by decide +kernel
theorem dX12_reckon_50 : decode cX12_reckon 50 = .ok (.isub, 1) := by decide +kernel
theorem dX12_reckon_51 : decode cX12_reckon 51 = .ok (.ireturn, 1) := by decide +kernel
theorem dX12_reckon_52 : decode cX12_reckon 52 = .ok (.iload_n 1, 1) := by decide +kernel
theorem dX12_reckon_53 : decode cX12_reckon 53 = .ok (.iload_n 2, 1) := by decide +kernel
theorem dX12_reckon_54 : decode cX12_reckon 54 = .ok (.imul, 1) := by decide +kernel
theorem dX12_reckon_55 : decode cX12_reckon 55 = .ok (.ireturn, 1) := by decide +kernel
theorem dX12_reckon_56 : decode cX12_reckon 56 = .ok (.iload_n 1, 1) := by decide +kernel
theorem dX12_reckon_57 : decode cX12_reckon 57 = .ok (.iload_n 2, 1) := by decide +kernel
theorem dX12_reckon_58 : decode cX12_reckon 58 = .ok (.idiv, 1) := by decide +kernel
theorem dX12_reckon_59 : decode cX12_reckon 59 = .ok (.ireturn, 1) := by decide +kernel
theorem dX12_reckon_60 : decode cX12_reckon 60 = .ok (.iload_n 1, 1) := by decide +kernel
theorem dX12_reckon_61 : decode cX12_reckon 61 = .ok (.iload_n 2, 1) := by decide +kernel
theorem dX12_reckon_62 : decode cX12_reckon 62 = .ok (.irem, 1) := by decide +kernel
theorem dX12_reckon_63 : decode cX12_reckon 63 = .ok (.ireturn, 1) := by decide +kernel
theorem dX12_reckon_64 : decode cX12_reckon 64 = .ok (.iload_n 1, 1) := by decide +kernel
theorem dX12_reckon_65 : decode cX12_reckon 65 = .ok (.iload_n 2, 1) := by decide +kernel
theorem dX12_reckon_66 : decode cX12_reckon 66 = .ok (.if_icmp .ge 7, 3) := by decide +kernel
theorem dX12_reckon_69 : decode cX12_reckon 69 = .ok (.iconst 1, 1) := by decide +kernel
theorem dX12_reckon_70 : decode cX12_reckon 70 = .ok (.goto 4, 3) := by decide +kernel
theorem dX12_reckon_73 : decode cX12_reckon 73 = .ok (.iconst 0, 1) := by decide +kernel
theorem dX12_reckon_74 : decode cX12_reckon 74 = .ok (.ireturn, 1) := by decide +kernel
theorem dX12_reckon_75 : decode cX12_reckon 75 = .ok (.iload_n 1, 1) := by decide +kernel
theorem dX12_reckon_76 : decode cX12_reckon 76 = .ok (.iload_n 2, 1) := by decide +kernel
theorem dX12_reckon_77 : decode cX12_reckon 77 = .ok (.if_icmp .le 7, 3) := by decide +kernel
theorem dX12_reckon_80 : decode cX12_reckon 80 = .ok (.iconst 1, 1) := by decide +kernel
theorem dX12_reckon_81 : decode cX12_reckon 81 = .ok (.goto 4, 3) := by decide +kernel
theorem dX12_reckon_84 : decode cX12_reckon 84 = .ok (.iconst 0, 1) := by decide +kernel
theorem dX12_reckon_85 : decode cX12_reckon 85 = .ok (.ireturn, 1) := by decide +kernel
theorem dX12_reckon_86 : decode cX12_reckon 86 = .ok (.iload_n 1, 1) := by decide +kernel
theorem dX12_reckon_87 : decode cX12_reckon 87 = .ok (.iload_n 2, 1) := by decide +kernel
theorem dX12_reckon_88 : decode cX12_reckon 88 = .ok (.if_icmp .ne 7, 3) := by decide +kernel
theorem dX12_reckon_91 : decode cX12_reckon 91 = .ok (.iconst 1, 1) := by decide +kernel
theorem dX12_reckon_92 : decode cX12_reckon 92 = .ok (.goto 4, 3) := by decide +kernel
theorem dX12_reckon_95 : decode cX12_reckon 95 = .ok (.iconst 0, 1) := by decide +kernel
theorem dX12_reckon_96 : decode cX12_reckon 96 = .ok (.ireturn, 1) := by decide +kernel
theorem dX12_comesTo_0 : decode cX12_comesTo 0 = .ok (.iconst 0, 1) := by decide +kernel
theorem dX12_comesTo_1 : decode cX12_comesTo 1 = .ok (.istore_n 3, 1) := by decide +kernel
theorem dX12_comesTo_2 : decode cX12_comesTo 2 = .ok (.sipush 180, 3) := by decide +kernel
theorem dX12_comesTo_5 : decode cX12_comesTo 5 = .ok (.iload_n 1, 1) := by decide +kernel
theorem dX12_comesTo_6 : decode cX12_comesTo 6 = .ok (.sipush 180, 3) := by decide +kernel
theorem dX12_comesTo_9 : decode cX12_comesTo 9 = .ok (.idiv, 1) := by decide +kernel
theorem dX12_comesTo_10 : decode cX12_comesTo 10 = .ok (.imul, 1) := by decide +kernel
theorem dX12_comesTo_11 : decode cX12_comesTo 11 = .ok (.istore 4, 2) := by decide +kernel
theorem dX12_comesTo_13 : decode cX12_comesTo 13 = .ok (.iload_n 1, 1) := by decide +kernel
theorem dX12_comesTo_14 : decode cX12_comesTo 14 = .ok (.istore 5, 2) := by decide +kernel
theorem dX12_comesTo_16 : decode cX12_comesTo 16 = .ok (.iload 5, 2) := by decide +kernel
theorem dX12_comesTo_18 : decode cX12_comesTo 18 = .ok (.iload_n 2, 1) := by decide +kernel
theorem dX12_comesTo_19 : decode cX12_comesTo 19 = .ok (.if_icmp .ge 214, 3) := by decide +kernel
theorem dX12_comesTo_22 : decode cX12_comesTo 22 = .ok (.aload_n 0, 1) := by decide +kernel
theorem dX12_comesTo_23 : decode cX12_comesTo 23 = .ok (.getfield 62, 3) := by decide +kernel
theorem dX12_comesTo_26 : decode cX12_comesTo 26 = .ok (.iload 5, 2) := by decide +kernel
theorem dX12_comesTo_28 : decode cX12_comesTo 28 = .ok (.iaload, 1) := by decide +kernel
theorem dX12_comesTo_29 : decode cX12_comesTo 29 = .ok (.ldc 240, 2) := by decide +kernel
theorem dX12_comesTo_31 : decode cX12_comesTo 31 = .ok (.idiv, 1) := by decide +kernel
theorem dX12_comesTo_32 : decode cX12_comesTo 32 = .ok (.istore 6, 2) := by decide +kernel
theorem dX12_comesTo_34 : decode cX12_comesTo 34 = .ok (.aload_n 0, 1) := by decide +kernel
theorem dX12_comesTo_35 : decode cX12_comesTo 35 = .ok (.getfield 62, 3) := by decide +kernel
theorem dX12_comesTo_38 : decode cX12_comesTo 38 = .ok (.iload 5, 2) := by decide +kernel
theorem dX12_comesTo_40 : decode cX12_comesTo 40 = .ok (.iaload, 1) := by decide +kernel
theorem dX12_comesTo_41 : decode cX12_comesTo 41 = .ok (.ldc 240, 2) := by decide +kernel
theorem dX12_comesTo_43 : decode cX12_comesTo 43 = .ok (.irem, 1) := by decide +kernel
theorem dX12_comesTo_44 : decode cX12_comesTo 44 = .ok (.istore 7, 2) := by decide +kernel
theorem dX12_comesTo_46 : decode cX12_comesTo 46 = .ok (.iload 5, 2) := by decide +kernel
theorem dX12_comesTo_48 : decode cX12_comesTo 48 = .ok (.iconst 1, 1) := by decide +kernel
theorem dX12_comesTo_49 : decode cX12_comesTo 49 = .ok (.iadd, 1) := by decide +kernel
theorem dX12_comesTo_50 : decode cX12_comesTo 50 = .ok (.istore 5, 2) := by decide +kernel
theorem dX12_comesTo_52 : decode cX12_comesTo 52 = .ok (.iload 6, 2) := by decide +kernel
theorem dX12_comesTo_54 : decode cX12_comesTo 54 = .ok (.ifCond .eq 9, 3) := by decide +kernel
theorem dX12_comesTo_57 : decode cX12_comesTo 57 = .ok (.iload 6, 2) := by decide +kernel
theorem dX12_comesTo_59 : decode cX12_comesTo 59 = .ok (.iconst 1, 1) := by decide +kernel
theorem dX12_comesTo_60 : decode cX12_comesTo 60 = .ok (.if_icmp .ne 33, 3) := by decide +kernel
theorem dX12_comesTo_63 : decode cX12_comesTo 63 = .ok (.aload_n 0, 1) := by decide +kernel
theorem dX12_comesTo_64 : decode cX12_comesTo 64 = .ok (.getfield 77, 3) := by decide +kernel
theorem dX12_comesTo_67 : decode cX12_comesTo 67 = .ok (.iload_n 3, 1) := by decide +kernel
theorem dX12_comesTo_68 : decode cX12_comesTo 68 = .ok (.iload 6, 2) := by decide +kernel
theorem dX12_comesTo_70 : decode cX12_comesTo 70 = .ok (.ifCond .ne 8, 3) := by decide +kernel
theorem dX12_comesTo_73 : decode cX12_comesTo 73 = .ok (.iload 7, 2) := by decide +kernel
theorem dX12_comesTo_75 : decode cX12_comesTo 75 = .ok (.goto 10, 3) := by decide +kernel
theorem dX12_comesTo_78 : decode cX12_comesTo 78 = .ok (.aload_n 0, 1) := by decide +kernel
theorem dX12_comesTo_79 : decode cX12_comesTo 79 = .ok (.getfield 80, 3) := by decide +kernel
theorem dX12_comesTo_82 : decode cX12_comesTo 82 = .ok (.iload 7, 2) := by decide +kernel
theorem dX12_comesTo_84 : decode cX12_comesTo 84 = .ok (.iaload, 1) := by decide +kernel
theorem dX12_comesTo_85 : decode cX12_comesTo 85 = .ok (.iastore, 1) := by decide +kernel
theorem dX12_comesTo_86 : decode cX12_comesTo 86 = .ok (.iload_n 3, 1) := by decide +kernel
theorem dX12_comesTo_87 : decode cX12_comesTo 87 = .ok (.iconst 1, 1) := by decide +kernel
theorem dX12_comesTo_88 : decode cX12_comesTo 88 = .ok (.iadd, 1) := by decide +kernel
theorem dX12_comesTo_89 : decode cX12_comesTo 89 = .ok (.istore_n 3, 1) := by decide +kernel
theorem dX12_comesTo_90 : decode cX12_comesTo 90 = .ok (.goto 140, 3) := by decide +kernel
theorem dX12_comesTo_93 : decode cX12_comesTo 93 = .ok (.iload 6, 2) := by decide +kernel
theorem dX12_comesTo_95 : decode cX12_comesTo 95 = .ok (.bipush 10, 2) := by decide +kernel
theorem dX12_comesTo_97 : decode cX12_comesTo 97 = .ok (.if_icmp .ne 24, 3) := by decide +kernel
theorem dX12_comesTo_100 : decode cX12_comesTo 100 = .ok (.aload_n 0, 1) := by decide +kernel
theorem dX12_comesTo_101 : decode cX12_comesTo 101 = .ok (.getfield 77, 3) := by decide +kernel
theorem dX12_comesTo_104 : decode cX12_comesTo 104 = .ok (.iload_n 3, 1) := by decide +kernel
theorem dX12_comesTo_105 : decode cX12_comesTo 105 = .ok (.iconst 1, 1) := by decide +kernel
theorem dX12_comesTo_106 : decode cX12_comesTo 106 = .ok (.isub, 1) := by decide +kernel
theorem dX12_comesTo_107 : decode cX12_comesTo 107 = .ok (.iconst 1, 1) := by decide +kernel
theorem dX12_comesTo_108 : decode cX12_comesTo 108 = .ok (.aload_n 0, 1) := by decide +kernel
theorem dX12_comesTo_109 : decode cX12_comesTo 109 = .ok (.getfield 77, 3) := by decide +kernel
theorem dX12_comesTo_112 : decode cX12_comesTo 112 = .ok (.iload_n 3, 1) := by decide +kernel
theorem dX12_comesTo_113 : decode cX12_comesTo 113 = .ok (.iconst 1, 1) := by decide +kernel
theorem dX12_comesTo_114 : decode cX12_comesTo 114 = .ok (.isub, 1) := by decide +kernel
theorem dX12_comesTo_115 : decode cX12_comesTo 115 = .ok (.iaload, 1) := by decide +kernel
theorem dX12_comesTo_116 : decode cX12_comesTo 116 = .ok (.isub, 1) := by decide +kernel
theorem dX12_comesTo_117 : decode cX12_comesTo 117 = .ok (.iastore, 1) := by decide +kernel
theorem dX12_comesTo_118 : decode cX12_comesTo 118 = .ok (.goto 112, 3) := by decide +kernel
theorem dX12_comesTo_121 : decode cX12_comesTo 121 = .ok (.iload 6, 2) := by decide +kernel
theorem dX12_comesTo_123 : decode cX12_comesTo 123 = .ok (.bipush 11, 2) := by decide +kernel
theorem dX12_comesTo_125 : decode cX12_comesTo 125 = .ok (.if_icmp .eq 10, 3) := by decide +kernel
theorem dX12_comesTo_128 : decode cX12_comesTo 128 = .ok (.iload 6, 2) := by decide +kernel
theorem dX12_comesTo_130 : decode cX12_comesTo 130 = .ok (.bipush 12, 2) := by decide +kernel
theorem dX12_comesTo_132 : decode cX12_comesTo 132 = .ok (.if_icmp .ne 43, 3) := by decide +kernel
theorem dX12_comesTo_135 : decode cX12_comesTo 135 = .ok (.aload_n 0, 1) := by decide +kernel
theorem dX12_comesTo_136 : decode cX12_comesTo 136 = .ok (.getfield 77, 3) := by decide +kernel
theorem dX12_comesTo_139 : decode cX12_comesTo 139 = .ok (.iload_n 3, 1) := by decide +kernel
theorem dX12_comesTo_140 : decode cX12_comesTo 140 = .ok (.iconst 1, 1) := by decide +kernel
theorem dX12_comesTo_141 : decode cX12_comesTo 141 = .ok (.isub, 1) := by decide +kernel
theorem dX12_comesTo_142 : decode cX12_comesTo 142 = .ok (.iaload, 1) := by decide +kernel
theorem dX12_comesTo_143 : decode cX12_comesTo 143 = .ok (.iload 6, 2) := by decide +kernel
theorem dX12_comesTo_145 : decode cX12_comesTo 145 = .ok (.bipush 12, 2) := by decide +kernel
theorem dX12_comesTo_147 : decode cX12_comesTo 147 = .ok (.if_icmp .ne 7, 3) := by decide +kernel
theorem dX12_comesTo_150 : decode cX12_comesTo 150 = .ok (.iconst 1, 1) := by decide +kernel
theorem dX12_comesTo_151 : decode cX12_comesTo 151 = .ok (.goto 4, 3) := by decide +kernel
theorem dX12_comesTo_154 : decode cX12_comesTo 154 = .ok (.iconst 0, 1) := by decide +kernel
theorem dX12_comesTo_155 : decode cX12_comesTo 155 = .ok (.if_icmp .ne 13, 3) := by decide +kernel
theorem dX12_comesTo_158 : decode cX12_comesTo 158 = .ok (.iload 4, 2) := by decide +kernel
theorem dX12_comesTo_160 : decode cX12_comesTo 160 = .ok (.iload 7, 2) := by decide +kernel
theorem dX12_comesTo_162 : decode cX12_comesTo 162 = .ok (.iadd, 1) := by decide +kernel
theorem dX12_comesTo_163 : decode cX12_comesTo 163 = .ok (.istore 5, 2) := by decide +kernel
theorem dX12_comesTo_165 : decode cX12_comesTo 165 = .ok (.goto 65, 3) := by decide +kernel
theorem dX12_comesTo_168 : decode cX12_comesTo 168 = .ok (.iload_n 3, 1) := by decide +kernel
theorem dX12_comesTo_169 : decode cX12_comesTo 169 = .ok (.iconst 1, 1) := by decide +kernel
theorem dX12_comesTo_170 : decode cX12_comesTo 170 = .ok (.isub, 1) := by decide +kernel
theorem dX12_comesTo_171 : decode cX12_comesTo 171 = .ok (.istore_n 3, 1) := by decide +kernel
theorem dX12_comesTo_172 : decode cX12_comesTo 172 = .ok (.goto 58, 3) := by decide +kernel
theorem dX12_comesTo_175 : decode cX12_comesTo 175 = .ok (.iload_n 3, 1) := by decide +kernel
theorem dX12_comesTo_176 : decode cX12_comesTo 176 = .ok (.iconst 1, 1) := by decide +kernel
theorem dX12_comesTo_177 : decode cX12_comesTo 177 = .ok (.isub, 1) := by decide +kernel
theorem dX12_comesTo_178 : decode cX12_comesTo 178 = .ok (.istore_n 3, 1) := by decide +kernel
theorem dX12_comesTo_179 : decode cX12_comesTo 179 = .ok (.iload 6, 2) := by decide +kernel
theorem dX12_comesTo_181 : decode cX12_comesTo 181 = .ok (.iconst 5, 1) := by decide +kernel
theorem dX12_comesTo_182 : decode cX12_comesTo 182 = .ok (.if_icmp .eq 10, 3) := by decide +kernel
theorem dX12_comesTo_185 : decode cX12_comesTo 185 = .ok (.iload 6, 2) := by decide +kernel
theorem dX12_comesTo_187 : decode cX12_comesTo 187 = .ok (.bipush 6, 2) := by decide +kernel
theorem dX12_comesTo_189 : decode cX12_comesTo 189 = .ok (.if_icmp .ne 14, 3) := by decide +kernel
theorem dX12_comesTo_192 : decode cX12_comesTo 192 = .ok (.aload_n 0, 1) := by decide +kernel
theorem dX12_comesTo_193 : decode cX12_comesTo 193 = .ok (.getfield 77, 3) := by decide +kernel
theorem dX12_comesTo_196 : decode cX12_comesTo 196 = .ok (.iload_n 3, 1) := by decide +kernel
theorem dX12_comesTo_197 : decode cX12_comesTo 197 = .ok (.iaload, 1) := by decide +kernel
theorem dX12_comesTo_198 : decode cX12_comesTo 198 = .ok (.ifCond .ne 5, 3) := by decide +kernel
theorem dX12_comesTo_201 : decode cX12_comesTo 201 = .ok (.iconst 0, 1) := by decide +kernel
theorem dX12_comesTo_202 : decode cX12_comesTo 202 = .ok (.ireturn, 1) := by decide +kernel
theorem dX12_comesTo_203 : decode cX12_comesTo 203 = .ok (.aload_n 0, 1) := by decide +kernel
theorem dX12_comesTo_204 : decode cX12_comesTo 204 = .ok (.getfield 77, 3) := by decide +kernel
theorem dX12_comesTo_207 : decode cX12_comesTo 207 = .ok (.iload_n 3, 1) := by decide +kernel
theorem dX12_comesTo_208 : decode cX12_comesTo 208 = .ok (.iconst 1, 1) := by decide +kernel
theorem dX12_comesTo_209 : decode cX12_comesTo 209 = .ok (.isub, 1) := by decide +kernel
theorem dX12_comesTo_210 : decode cX12_comesTo 210 = .ok (.iload 6, 2) := by decide +kernel
theorem dX12_comesTo_212 : decode cX12_comesTo 212 = .ok (.aload_n 0, 1) := by decide +kernel
theorem dX12_comesTo_213 : decode cX12_comesTo 213 = .ok (.getfield 77, 3) := by decide +kernel
theorem dX12_comesTo_216 : decode cX12_comesTo 216 = .ok (.iload_n 3, 1) := by decide +kernel
theorem dX12_comesTo_217 : decode cX12_comesTo 217 = .ok (.iconst 1, 1) := by decide +kernel
theorem dX12_comesTo_218 : decode cX12_comesTo 218 = .ok (.isub, 1) := by decide +kernel
theorem dX12_comesTo_219 : decode cX12_comesTo 219 = .ok (.iaload, 1) := by decide +kernel
theorem dX12_comesTo_220 : decode cX12_comesTo 220 = .ok (.aload_n 0, 1) := by decide +kernel
theorem dX12_comesTo_221 : decode cX12_comesTo 221 = .ok (.getfield 77, 3) := by decide +kernel
theorem dX12_comesTo_224 : decode cX12_comesTo 224 = .ok (.iload_n 3, 1) := by decide +kernel
theorem dX12_comesTo_225 : decode cX12_comesTo 225 = .ok (.iaload, 1) := by decide +kernel
theorem dX12_comesTo_226 : decode cX12_comesTo 226 = .ok (.invokestatic 303, 3) := by decide +kernel
theorem dX12_comesTo_229 : decode cX12_comesTo 229 = .ok (.iastore, 1) := by decide +kernel
theorem dX12_comesTo_230 : decode cX12_comesTo 230 = .ok (.goto (-214), 3) := by decide +kernel
theorem dX12_comesTo_233 : decode cX12_comesTo 233 = .ok (.aload_n 0, 1) := by decide +kernel
theorem dX12_comesTo_234 : decode cX12_comesTo 234 = .ok (.getfield 77, 3) := by decide +kernel
theorem dX12_comesTo_237 : decode cX12_comesTo 237 = .ok (.iconst 0, 1) := by decide +kernel
theorem dX12_comesTo_238 : decode cX12_comesTo 238 = .ok (.iaload, 1) := by decide +kernel
theorem dX12_comesTo_239 : decode cX12_comesTo 239 = .ok (.ireturn, 1) := by decide +kernel
theorem dX12_byLaw_0 : decode cX12_byLaw 0 = .ok (.iconst 0, 1) := by decide +kernel
theorem dX12_byLaw_1 : decode cX12_byLaw 1 = .ok (.istore 4, 2) := by decide +kernel
theorem dX12_byLaw_3 : decode cX12_byLaw 3 = .ok (.iload 4, 2) := by decide +kernel
theorem dX12_byLaw_5 : decode cX12_byLaw 5 = .ok (.aload_n 0, 1) := by decide +kernel
theorem dX12_byLaw_6 : decode cX12_byLaw 6 = .ok (.getfield 300, 3) := by decide +kernel
theorem dX12_byLaw_9 : decode cX12_byLaw 9 = .ok (.if_icmp .ge 87, 3) := by decide +kernel
theorem dX12_byLaw_12 : decode cX12_byLaw 12 = .ok (.aload_n 0, 1) := by decide +kernel
theorem dX12_byLaw_13 : decode cX12_byLaw 13 = .ok (.getfield 65, 3) := by decide +kernel
theorem dX12_byLaw_16 : decode cX12_byLaw 16 = .ok (.iload 4, 2) := by decide +kernel
theorem dX12_byLaw_18 : decode cX12_byLaw 18 = .ok (.iaload, 1) := by decide +kernel
theorem dX12_byLaw_19 : decode cX12_byLaw 19 = .ok (.iload_n 1, 1) := by decide +kernel
theorem dX12_byLaw_20 : decode cX12_byLaw 20 = .ok (.if_icmp .ne 70, 3) := by decide +kernel
theorem dX12_byLaw_23 : decode cX12_byLaw 23 = .ok (.aload_n 0, 1) := by decide +kernel
theorem dX12_byLaw_24 : decode cX12_byLaw 24 = .ok (.aload_n 0, 1) := by decide +kernel
theorem dX12_byLaw_25 : decode cX12_byLaw 25 = .ok (.getfield 71, 3) := by decide +kernel
theorem dX12_byLaw_28 : decode cX12_byLaw 28 = .ok (.iload 4, 2) := by decide +kernel
theorem dX12_byLaw_30 : decode cX12_byLaw 30 = .ok (.iaload, 1) := by decide +kernel
theorem dX12_byLaw_31 : decode cX12_byLaw 31 = .ok (.aload_n 0, 1) := by decide +kernel
theorem dX12_byLaw_32 : decode cX12_byLaw 32 = .ok (.getfield 74, 3) := by decide +kernel
theorem dX12_byLaw_35 : decode cX12_byLaw 35 = .ok (.iload 4, 2) := by decide +kernel
theorem dX12_byLaw_37 : decode cX12_byLaw 37 = .ok (.iaload, 1) := by decide +kernel
theorem dX12_byLaw_38 : decode cX12_byLaw 38 = .ok (.invokevirtual 306, 3) := by decide +kernel
theorem dX12_byLaw_41 : decode cX12_byLaw 41 = .ok (.iconst 1, 1) := by decide +kernel
theorem dX12_byLaw_42 : decode cX12_byLaw 42 = .ok (.if_icmp .eq 6, 3) := by decide +kernel
theorem dX12_byLaw_45 : decode cX12_byLaw 45 = .ok (.goto 45, 3) := by decide +kernel
theorem dX12_byLaw_48 : decode cX12_byLaw 48 = .ok (.aload_n 0, 1) := by decide +kernel
theorem dX12_byLaw_49 : decode cX12_byLaw 49 = .ok (.aload_n 0, 1) := by decide +kernel
theorem dX12_byLaw_50 : decode cX12_byLaw 50 = .ok (.getfield 68, 3) := by decide +kernel
theorem dX12_byLaw_53 : decode cX12_byLaw 53 = .ok (.iload 4, 2) := by decide +kernel
theorem dX12_byLaw_55 : decode cX12_byLaw 55 = .ok (.iaload, 1) := by decide +kernel
theorem dX12_byLaw_56 : decode cX12_byLaw 56 = .ok (.aload_n 0, 1) := by decide +kernel
theorem dX12_byLaw_57 : decode cX12_byLaw 57 = .ok (.getfield 71, 3) := by decide +kernel
theorem dX12_byLaw_60 : decode cX12_byLaw 60 = .ok (.iload 4, 2) := by decide +kernel
theorem dX12_byLaw_62 : decode cX12_byLaw 62 = .ok (.iaload, 1) := by decide +kernel
theorem dX12_byLaw_63 : decode cX12_byLaw 63 = .ok (.invokevirtual 306, 3) := by decide +kernel
theorem dX12_byLaw_66 : decode cX12_byLaw 66 = .ok (.istore 5, 2) := by decide +kernel
theorem dX12_byLaw_68 : decode cX12_byLaw 68 = .ok (.iload 5, 2) := by decide +kernel
theorem dX12_byLaw_70 : decode cX12_byLaw 70 = .ok (.ifCond .ge 7, 3) := by decide +kernel
theorem dX12_byLaw_73 : decode cX12_byLaw 73 = .ok (.iconst 0, 1) := by decide +kernel
theorem dX12_byLaw_74 : decode cX12_byLaw 74 = .ok (.goto 15, 3) := by decide +kernel
theorem dX12_byLaw_77 : decode cX12_byLaw 77 = .ok (.iload 5, 2) := by decide +kernel
theorem dX12_byLaw_79 : decode cX12_byLaw 79 = .ok (.iload_n 2, 1) := by decide +kernel
theorem dX12_byLaw_80 : decode cX12_byLaw 80 = .ok (.if_icmp .le 7, 3) := by decide +kernel
theorem dX12_byLaw_83 : decode cX12_byLaw 83 = .ok (.iload_n 2, 1) := by decide +kernel
theorem dX12_byLaw_84 : decode cX12_byLaw 84 = .ok (.goto 5, 3) := by decide +kernel
theorem dX12_byLaw_87 : decode cX12_byLaw 87 = .ok (.iload 5, 2) := by decide +kernel
theorem dX12_byLaw_89 : decode cX12_byLaw 89 = .ok (.ireturn, 1) := by decide +kernel
theorem dX12_byLaw_90 : decode cX12_byLaw 90 = .ok (.iinc 4 1, 3) := by decide +kernel
theorem dX12_byLaw_93 : decode cX12_byLaw 93 = .ok (.goto (-90), 3) := by decide +kernel
theorem dX12_byLaw_96 : decode cX12_byLaw 96 = .ok (.iload_n 3, 1) := by decide +kernel
theorem dX12_byLaw_97 : decode cX12_byLaw 97 = .ok (.ireturn, 1) := by decide +kernel
theorem dX12_feels_0 : decode cX12_feels 0 = .ok (.aload_n 0, 1) := by decide +kernel
theorem dX12_feels_1 : decode cX12_feels 1 = .ok (.getfield 80, 3) := by decide +kernel
theorem dX12_feels_4 : decode cX12_feels 4 = .ok (.iconst 0, 1) := by decide +kernel
theorem dX12_feels_5 : decode cX12_feels 5 = .ok (.iload_n 1, 1) := by decide +kernel
theorem dX12_feels_6 : decode cX12_feels 6 = .ok (.iastore, 1) := by decide +kernel
theorem dX12_feels_7 : decode cX12_feels 7 = .ok (.aload_n 0, 1) := by decide +kernel
theorem dX12_feels_8 : decode cX12_feels 8 = .ok (.getfield 80, 3) := by decide +kernel
theorem dX12_feels_11 : decode cX12_feels 11 = .ok (.iconst 1, 1) := by decide +kernel
theorem dX12_feels_12 : decode cX12_feels 12 = .ok (.aload_n 0, 1) := by decide +kernel
theorem dX12_feels_13 : decode cX12_feels 13 = .ok (.getfield 32, 3) := by decide +kernel
theorem dX12_feels_16 : decode cX12_feels 16 = .ok (.iload_n 1, 1) := by decide +kernel
theorem dX12_feels_17 : decode cX12_feels 17 = .ok (.iaload, 1) := by decide +kernel
theorem dX12_feels_18 : decode cX12_feels 18 = .ok (.iastore, 1) := by decide +kernel
theorem dX12_feels_19 : decode cX12_feels 19 = .ok (.aload_n 0, 1) := by decide +kernel
theorem dX12_feels_20 : decode cX12_feels 20 = .ok (.getfield 80, 3) := by decide +kernel
theorem dX12_feels_23 : decode cX12_feels 23 = .ok (.iconst 2, 1) := by decide +kernel
theorem dX12_feels_24 : decode cX12_feels 24 = .ok (.aload_n 0, 1) := by decide +kernel
theorem dX12_feels_25 : decode cX12_feels 25 = .ok (.getfield 20, 3) := by decide +kernel
theorem dX12_feels_28 : decode cX12_feels 28 = .ok (.aload_n 0, 1) := by decide +kernel
theorem dX12_feels_29 : decode cX12_feels 29 = .ok (.getfield 32, 3) := by decide +kernel
theorem dX12_feels_32 : decode cX12_feels 32 = .ok (.iload_n 1, 1) := by decide +kernel
theorem dX12_feels_33 : decode cX12_feels 33 = .ok (.iaload, 1) := by decide +kernel
theorem dX12_feels_34 : decode cX12_feels 34 = .ok (.iaload, 1) := by decide +kernel
theorem dX12_feels_35 : decode cX12_feels 35 = .ok (.iastore, 1) := by decide +kernel
theorem dX12_feels_36 : decode cX12_feels 36 = .ok (.aload_n 0, 1) := by decide +kernel
theorem dX12_feels_37 : decode cX12_feels 37 = .ok (.getfield 80, 3) := by decide +kernel
theorem dX12_feels_40 : decode cX12_feels 40 = .ok (.iconst 3, 1) := by decide +kernel
theorem dX12_feels_41 : decode cX12_feels 41 = .ok (.aload_n 0, 1) := by decide +kernel
theorem dX12_feels_42 : decode cX12_feels 42 = .ok (.getfield 35, 3) := by decide +kernel
theorem dX12_feels_45 : decode cX12_feels 45 = .ok (.iload_n 1, 1) := by decide +kernel
theorem dX12_feels_46 : decode cX12_feels 46 = .ok (.iaload, 1) := by decide +kernel
theorem dX12_feels_47 : decode cX12_feels 47 = .ok (.iastore, 1) := by decide +kernel
theorem dX12_feels_48 : decode cX12_feels 48 = .ok (.aload_n 0, 1) := by decide +kernel
theorem dX12_feels_49 : decode cX12_feels 49 = .ok (.getfield 80, 3) := by decide +kernel
theorem dX12_feels_52 : decode cX12_feels 52 = .ok (.iconst 4, 1) := by decide +kernel
theorem dX12_feels_53 : decode cX12_feels 53 = .ok (.aload_n 0, 1) := by decide +kernel
theorem dX12_feels_54 : decode cX12_feels 54 = .ok (.getfield 38, 3) := by decide +kernel
theorem dX12_feels_57 : decode cX12_feels 57 = .ok (.iload_n 1, 1) := by decide +kernel
theorem dX12_feels_58 : decode cX12_feels 58 = .ok (.iaload, 1) := by decide +kernel
theorem dX12_feels_59 : decode cX12_feels 59 = .ok (.iastore, 1) := by decide +kernel
theorem dX12_feels_60 : decode cX12_feels 60 = .ok (.aload_n 0, 1) := by decide +kernel
theorem dX12_feels_61 : decode cX12_feels 61 = .ok (.getfield 80, 3) := by decide +kernel
theorem dX12_feels_64 : decode cX12_feels 64 = .ok (.iconst 5, 1) := by decide +kernel
theorem dX12_feels_65 : decode cX12_feels 65 = .ok (.iload_n 2, 1) := by decide +kernel
theorem dX12_feels_66 : decode cX12_feels 66 = .ok (.iastore, 1) := by decide +kernel
theorem dX12_feels_67 : decode cX12_feels 67 = .ok (.aload_n 0, 1) := by decide +kernel
theorem dX12_feels_68 : decode cX12_feels 68 = .ok (.getfield 80, 3) := by decide +kernel
theorem dX12_feels_71 : decode cX12_feels 71 = .ok (.bipush 6, 2) := by decide +kernel
theorem dX12_feels_73 : decode cX12_feels 73 = .ok (.iload_n 3, 1) := by decide +kernel
theorem dX12_feels_74 : decode cX12_feels 74 = .ok (.iastore, 1) := by decide +kernel
theorem dX12_feels_75 : decode cX12_feels 75 = .ok (.aload_n 0, 1) := by decide +kernel
theorem dX12_feels_76 : decode cX12_feels 76 = .ok (.getfield 80, 3) := by decide +kernel
theorem dX12_feels_79 : decode cX12_feels 79 = .ok (.bipush 7, 2) := by decide +kernel
theorem dX12_feels_81 : decode cX12_feels 81 = .ok (.iload 4, 2) := by decide +kernel
theorem dX12_feels_83 : decode cX12_feels 83 = .ok (.iastore, 1) := by decide +kernel
theorem dX12_feels_84 : decode cX12_feels 84 = .ok (.aload_n 0, 1) := by decide +kernel
theorem dX12_feels_85 : decode cX12_feels 85 = .ok (.getfield 80, 3) := by decide +kernel
theorem dX12_feels_88 : decode cX12_feels 88 = .ok (.bipush 8, 2) := by decide +kernel
theorem dX12_feels_90 : decode cX12_feels 90 = .ok (.iload 5, 2) := by decide +kernel
theorem dX12_feels_92 : decode cX12_feels 92 = .ok (.iastore, 1) := by decide +kernel
theorem dX12_feels_93 : decode cX12_feels 93 = .ok (.return_, 1) := by decide +kernel
theorem dX12_soonOf_0 : decode cX12_soonOf 0 = .ok (.aload_n 0, 1) := by decide +kernel
theorem dX12_soonOf_1 : decode cX12_soonOf 1 = .ok (.iload_n 1, 1) := by decide +kernel
theorem dX12_soonOf_2 : decode cX12_soonOf 2 = .ok (.iload_n 2, 1) := by decide +kernel
theorem dX12_soonOf_3 : decode cX12_soonOf 3 = .ok (.iconst 0, 1) := by decide +kernel
theorem dX12_soonOf_4 : decode cX12_soonOf 4 = .ok (.iconst 0, 1) := by decide +kernel
theorem dX12_soonOf_5 : decode cX12_soonOf 5 = .ok (.iconst 0, 1) := by decide +kernel
theorem dX12_soonOf_6 : decode cX12_soonOf 6 = .ok (.invokevirtual 309, 3) := by decide +kernel
theorem dX12_soonOf_9 : decode cX12_soonOf 9 = .ok (.aload_n 0, 1) := by decide +kernel
theorem dX12_soonOf_10 : decode cX12_soonOf 10 = .ok (.bipush 112, 2) := by decide +kernel
theorem dX12_soonOf_12 : decode cX12_soonOf 12 = .ok (.sipush 999, 3) := by decide +kernel
theorem dX12_soonOf_15 : decode cX12_soonOf 15 = .ok (.iconst 0, 1) := by decide +kernel
theorem dX12_soonOf_16 : decode cX12_soonOf 16 = .ok (.invokevirtual 313, 3) := by decide +kernel
theorem dX12_soonOf_19 : decode cX12_soonOf 19 = .ok (.ireturn, 1) := by decide +kernel
theorem dX12_laysOrder_0 : decode cX12_laysOrder 0 = .ok (.aload_n 0, 1) := by decide +kernel
theorem dX12_laysOrder_1 : decode cX12_laysOrder 1 = .ok (.iconst 0, 1) := by decide +kernel
theorem dX12_laysOrder_2 : decode cX12_laysOrder 2 = .ok (.putfield 316, 3) := by decide +kernel
theorem dX12_laysOrder_5 : decode cX12_laysOrder 5 = .ok (.iconst 0, 1) := by decide +kernel
theorem dX12_laysOrder_6 : decode cX12_laysOrder 6 = .ok (.istore_n 2, 1) := by decide +kernel
theorem dX12_laysOrder_7 : decode cX12_laysOrder 7 = .ok (.iload_n 2, 1) := by decide +kernel
theorem dX12_laysOrder_8 : decode cX12_laysOrder 8 = .ok (.bipush 10, 2) := by decide +kernel
theorem dX12_laysOrder_10 : decode cX12_laysOrder 10 = .ok (.if_icmp .ge 101, 3) := by decide +kernel
theorem dX12_laysOrder_13 : decode cX12_laysOrder 13 = .ok (.aload_n 0, 1) := by decide +kernel
theorem dX12_laysOrder_14 : decode cX12_laysOrder 14 = .ok (.iload_n 2, 1) := by decide +kernel
theorem dX12_laysOrder_15 : decode cX12_laysOrder 15 = .ok (.invokevirtual 220, 3) := by decide +kernel
theorem dX12_laysOrder_18 : decode cX12_laysOrder 18 = .ok (.ifCond .ne 6, 3) := by decide +kernel
theorem dX12_laysOrder_21 : decode cX12_laysOrder 21 = .ok (.goto 84, 3) := by decide +kernel
theorem dX12_laysOrder_24 : decode cX12_laysOrder 24 = .ok (.aload_n 0, 1) := by decide +kernel
theorem dX12_laysOrder_25 : decode cX12_laysOrder 25 = .ok (.getfield 86, 3) := by decide +kernel
theorem dX12_laysOrder_28 : decode cX12_laysOrder 28 = .ok (.iload_n 2, 1) := by decide +kernel
theorem dX12_laysOrder_29 : decode cX12_laysOrder 29 = .ok (.aload_n 0, 1) := by decide +kernel
theorem dX12_laysOrder_30 : decode cX12_laysOrder 30 = .ok (.iload_n 2, 1) := by decide +kernel
theorem dX12_laysOrder_31 : decode cX12_laysOrder 31 = .ok (.iload_n 1, 1) := by decide +kernel
theorem dX12_laysOrder_32 : decode cX12_laysOrder 32 = .ok (.invokevirtual 319, 3) := by decide +kernel
theorem dX12_laysOrder_35 : decode cX12_laysOrder 35 = .ok (.iastore, 1) := by decide +kernel
theorem dX12_laysOrder_36 : decode cX12_laysOrder 36 = .ok (.aload_n 0, 1) := by decide +kernel
theorem dX12_laysOrder_37 : decode cX12_laysOrder 37 = .ok (.getfield 316, 3) := by decide +kernel
theorem dX12_laysOrder_40 : decode cX12_laysOrder 40 = .ok (.istore_n 3, 1) := by decide +kernel
theorem dX12_laysOrder_41 : decode cX12_laysOrder 41 = .ok (.iload_n 3, 1) := by decide +kernel
theorem dX12_laysOrder_42 : decode cX12_laysOrder 42 = .ok (.ifCond .le 46, 3) := by decide +kernel
theorem dX12_laysOrder_45 : decode cX12_laysOrder 45 = .ok (.aload_n 0, 1) := by decide +kernel
theorem dX12_laysOrder_46 : decode cX12_laysOrder 46 = .ok (.getfield 86, 3) := by decide +kernel
theorem dX12_laysOrder_49 : decode cX12_laysOrder 49 = .ok (.aload_n 0, 1) := by decide +kernel
theorem dX12_laysOrder_50 : decode cX12_laysOrder 50 = .ok (.getfield 83, 3) := by decide +kernel
theorem dX12_laysOrder_53 : decode cX12_laysOrder 53 = .ok (.iload_n 3, 1) := by decide +kernel
theorem dX12_laysOrder_54 : decode cX12_laysOrder 54 = .ok (.iconst 1, 1) := by decide +kernel
theorem dX12_laysOrder_55 : decode cX12_laysOrder 55 = .ok (.isub, 1) := by decide +kernel
theorem dX12_laysOrder_56 : decode cX12_laysOrder 56 = .ok (.iaload, 1) := by decide +kernel
theorem dX12_laysOrder_57 : decode cX12_laysOrder 57 = .ok (.iaload, 1) := by decide +kernel
theorem dX12_laysOrder_58 : decode cX12_laysOrder 58 = .ok (.aload_n 0, 1) := by decide +kernel
theorem dX12_laysOrder_59 : decode cX12_laysOrder 59 = .ok (.getfield 86, 3) := by decide +kernel
theorem dX12_laysOrder_62 : decode cX12_laysOrder 62 = .ok (.iload_n 2, 1) := by decide +kernel
theorem dX12_laysOrder_63 : decode cX12_laysOrder 63 = .ok (.iaload, 1) := by decide +kernel
theorem dX12_laysOrder_64 : decode cX12_laysOrder 64 = .ok (.if_icmp .ge 24, 3) := by decide +kernel
theorem dX12_laysOrder_67 : decode cX12_laysOrder 67 = .ok (.aload_n 0, 1) := by decide +kernel
theorem dX12_laysOrder_68 : decode cX12_laysOrder 68 = .ok (.getfield 83, 3) := by decide +kernel
theorem dX12_laysOrder_71 : decode cX12_laysOrder 71 = .ok (.iload_n 3, 1) := by decide +kernel
theorem dX12_laysOrder_72 : decode cX12_laysOrder 72 = .ok (.aload_n 0, 1) := by decide +kernel
theorem dX12_laysOrder_73 : decode cX12_laysOrder 73 = .ok (.getfield 83, 3) := by decide +kernel
theorem dX12_laysOrder_76 : decode cX12_laysOrder 76 = .ok (.iload_n 3, 1) := by decide +kernel
theorem dX12_laysOrder_77 : decode cX12_laysOrder 77 = .ok (.iconst 1, 1) := by decide +kernel
theorem dX12_laysOrder_78 : decode cX12_laysOrder 78 = .ok (.isub, 1) := by decide +kernel
theorem dX12_laysOrder_79 : decode cX12_laysOrder 79 = .ok (.iaload, 1) := by decide +kernel
theorem dX12_laysOrder_80 : decode cX12_laysOrder 80 = .ok (.iastore, 1) := by decide +kernel
theorem dX12_laysOrder_81 : decode cX12_laysOrder 81 = .ok (.iload_n 3, 1) := by decide +kernel
theorem dX12_laysOrder_82 : decode cX12_laysOrder 82 = .ok (.iconst 1, 1) := by decide +kernel
theorem dX12_laysOrder_83 : decode cX12_laysOrder 83 = .ok (.isub, 1) := by decide +kernel
theorem dX12_laysOrder_84 : decode cX12_laysOrder 84 = .ok (.istore_n 3, 1) := by decide +kernel
theorem dX12_laysOrder_85 : decode cX12_laysOrder 85 = .ok (.goto (-44), 3) := by decide +kernel
theorem dX12_laysOrder_88 : decode cX12_laysOrder 88 = .ok (.aload_n 0, 1) := by decide +kernel
theorem dX12_laysOrder_89 : decode cX12_laysOrder 89 = .ok (.getfield 83, 3) := by decide +kernel
theorem dX12_laysOrder_92 : decode cX12_laysOrder 92 = .ok (.iload_n 3, 1) := by decide +kernel
theorem dX12_laysOrder_93 : decode cX12_laysOrder 93 = .ok (.iload_n 2, 1) := by decide +kernel
theorem dX12_laysOrder_94 : decode cX12_laysOrder 94 = .ok (.iastore, 1) := by decide +kernel
theorem dX12_laysOrder_95 : decode cX12_laysOrder 95 = .ok (.aload_n 0, 1) := by decide +kernel
theorem dX12_laysOrder_96 : decode cX12_laysOrder 96 = .ok (.aload_n 0, 1) := by decide +kernel
theorem dX12_laysOrder_97 : decode cX12_laysOrder 97 = .ok (.getfield 316, 3) := by decide +kernel
theorem dX12_laysOrder_100 : decode cX12_laysOrder 100 = .ok (.iconst 1, 1) := by decide +kernel
theorem dX12_laysOrder_101 : decode cX12_laysOrder 101 = .ok (.iadd, 1) := by decide +kernel
theorem dX12_laysOrder_102 : decode cX12_laysOrder 102 = .ok (.putfield 316, 3) := by decide +kernel
theorem dX12_laysOrder_105 : decode cX12_laysOrder 105 = .ok (.iinc 2 1, 3) := by decide +kernel
theorem dX12_laysOrder_108 : decode cX12_laysOrder 108 = .ok (.goto (-101), 3) := by decide +kernel
theorem dX12_laysOrder_111 : decode cX12_laysOrder 111 = .ok (.return_, 1) := by decide +kernel
theorem dX12_gives_0 : decode cX12_gives 0 = .ok (.aload_n 0, 1) := by decide +kernel
theorem dX12_gives_1 : decode cX12_gives 1 = .ok (.iload_n 1, 1) := by decide +kernel
theorem dX12_gives_2 : decode cX12_gives 2 = .ok (.iload_n 2, 1) := by decide +kernel
theorem dX12_gives_3 : decode cX12_gives 3 = .ok (.iload_n 3, 1) := by decide +kernel
theorem dX12_gives_4 : decode cX12_gives 4 = .ok (.invokevirtual 230, 3) := by decide +kernel
theorem dX12_gives_7 : decode cX12_gives 7 = .ok (.istore 4, 2) := by decide +kernel
theorem dX12_gives_9 : decode cX12_gives 9 = .ok (.iload 4, 2) := by decide +kernel
theorem dX12_gives_11 : decode cX12_gives 11 = .ok (.aload_n 0, 1) := by decide +kernel
theorem dX12_gives_12 : decode cX12_gives 12 = .ok (.getfield 89, 3) := by decide +kernel
theorem dX12_gives_15 : decode cX12_gives 15 = .ok (.iload_n 2, 1) := by decide +kernel
theorem dX12_gives_16 : decode cX12_gives 16 = .ok (.iaload, 1) := by decide +kernel
theorem dX12_gives_17 : decode cX12_gives 17 = .ok (.invokestatic 183, 3) := by decide +kernel
theorem dX12_gives_20 : decode cX12_gives 20 = .ok (.istore 5, 2) := by decide +kernel
theorem dX12_gives_22 : decode cX12_gives 22 = .ok (.aload_n 0, 1) := by decide +kernel
theorem dX12_gives_23 : decode cX12_gives 23 = .ok (.getfield 20, 3) := by decide +kernel
theorem dX12_gives_26 : decode cX12_gives 26 = .ok (.aload_n 0, 1) := by decide +kernel
theorem dX12_gives_27 : decode cX12_gives 27 = .ok (.getfield 32, 3) := by decide +kernel
theorem dX12_gives_30 : decode cX12_gives 30 = .ok (.iload_n 1, 1) := by decide +kernel
theorem dX12_gives_31 : decode cX12_gives 31 = .ok (.iaload, 1) := by decide +kernel
theorem dX12_gives_32 : decode cX12_gives 32 = .ok (.iaload, 1) := by decide +kernel
theorem dX12_gives_33 : decode cX12_gives 33 = .ok (.istore 6, 2) := by decide +kernel
theorem dX12_gives_35 : decode cX12_gives 35 = .ok (.iload_n 2, 1) := by decide +kernel
theorem dX12_gives_36 : decode cX12_gives 36 = .ok (.ifCond .ne 52, 3) := by decide +kernel
theorem dX12_gives_39 : decode cX12_gives 39 = .ok (.iload 5, 2) := by decide +kernel
theorem dX12_gives_41 : decode cX12_gives 41 = .ok (.aload_n 0, 1) := by decide +kernel
theorem dX12_gives_42 : decode cX12_gives 42 = .ok (.getfield 92, 3) := by decide +kernel
theorem dX12_gives_45 : decode cX12_gives 45 = .ok (.iload 6, 2) := by decide +kernel
theorem dX12_gives_47 : decode cX12_gives 47 = .ok (.iaload, 1) := by decide +kernel
theorem dX12_gives_48 : decode cX12_gives 48 = .ok (.aload_n 0, 1) := by decide +kernel
theorem dX12_gives_49 : decode cX12_gives 49 = .ok (.getfield 322, 3) := by decide +kernel
theorem dX12_gives_52 : decode cX12_gives 52 = .ok (.invokestatic 183, 3) := by decide +kernel
theorem dX12_gives_55 : decode cX12_gives 55 = .ok (.invokestatic 183, 3) := by decide +kernel
theorem dX12_gives_58 : decode cX12_gives 58 = .ok (.istore 5, 2) := by decide +kernel
theorem dX12_gives_60 : decode cX12_gives 60 = .ok (.aload_n 0, 1) := by decide +kernel
theorem dX12_gives_61 : decode cX12_gives 61 = .ok (.getfield 92, 3) := by decide +kernel
theorem dX12_gives_64 : decode cX12_gives 64 = .ok (.iload 6, 2) := by decide +kernel
theorem dX12_gives_66 : decode cX12_gives 66 = .ok (.aload_n 0, 1) := by decide +kernel
theorem dX12_gives_67 : decode cX12_gives 67 = .ok (.getfield 92, 3) := by decide +kernel
theorem dX12_gives_70 : decode cX12_gives 70 = .ok (.iload 6, 2) := by decide +kernel
theorem dX12_gives_72 : decode cX12_gives 72 = .ok (.iaload, 1) := by decide +kernel
theorem dX12_gives_73 : decode cX12_gives 73 = .ok (.iload 5, 2) := by decide +kernel
theorem dX12_gives_75 : decode cX12_gives 75 = .ok (.isub, 1) := by decide +kernel
theorem dX12_gives_76 : decode cX12_gives 76 = .ok (.iastore, 1) := by decide +kernel
theorem dX12_gives_77 : decode cX12_gives 77 = .ok (.aload_n 0, 1) := by decide +kernel
theorem dX12_gives_78 : decode cX12_gives 78 = .ok (.aload_n 0, 1) := by decide +kernel
theorem dX12_gives_79 : decode cX12_gives 79 = .ok (.getfield 322, 3) := by decide +kernel
theorem dX12_gives_82 : decode cX12_gives 82 = .ok (.iload 5, 2) := by decide +kernel
theorem dX12_gives_84 : decode cX12_gives 84 = .ok (.isub, 1) := by decide +kernel
theorem dX12_gives_85 : decode cX12_gives 85 = .ok (.putfield 322, 3) := by decide +kernel
theorem dX12_gives_88 : decode cX12_gives 88 = .ok (.aload_n 0, 1) := by decide +kernel
theorem dX12_gives_89 : decode cX12_gives 89 = .ok (.getfield 89, 3) := by decide +kernel
theorem dX12_gives_92 : decode cX12_gives 92 = .ok (.iload_n 2, 1) := by decide +kernel
theorem dX12_gives_93 : decode cX12_gives 93 = .ok (.aload_n 0, 1) := by decide +kernel
theorem dX12_gives_94 : decode cX12_gives 94 = .ok (.getfield 89, 3) := by decide +kernel
theorem dX12_gives_97 : decode cX12_gives 97 = .ok (.iload_n 2, 1) := by decide +kernel
theorem dX12_gives_98 : decode cX12_gives 98 = .ok (.iaload, 1) := by decide +kernel
theorem dX12_gives_99 : decode cX12_gives 99 = .ok (.iload 5, 2) := by decide +kernel
theorem dX12_gives_101 : decode cX12_gives 101 = .ok (.isub, 1) := by decide +kernel
theorem dX12_gives_102 : decode cX12_gives 102 = .ok (.iastore, 1) := by decide +kernel
theorem dX12_gives_103 : decode cX12_gives 103 = .ok (.aload_n 0, 1) := by decide +kernel
theorem dX12_gives_104 : decode cX12_gives 104 = .ok (.getfield 95, 3) := by decide +kernel
theorem dX12_gives_107 : decode cX12_gives 107 = .ok (.bipush 72, 2) := by decide +kernel
theorem dX12_gives_109 : decode cX12_gives 109 = .ok (.iload_n 1, 1) := by decide +kernel
theorem dX12_gives_110 : decode cX12_gives 110 = .ok (.imul, 1) := by decide +kernel
theorem dX12_gives_111 : decode cX12_gives 111 = .ok (.bipush 24, 2) := by decide +kernel
theorem dX12_gives_113 : decode cX12_gives 113 = .ok (.iload_n 2, 1) := by decide +kernel
theorem dX12_gives_114 : decode cX12_gives 114 = .ok (.imul, 1) := by decide +kernel
theorem dX12_gives_115 : decode cX12_gives 115 = .ok (.iadd, 1) := by decide +kernel
theorem dX12_gives_116 : decode cX12_gives 116 = .ok (.iload_n 3, 1) := by decide +kernel
theorem dX12_gives_117 : decode cX12_gives 117 = .ok (.iadd, 1) := by decide +kernel
theorem dX12_gives_118 : decode cX12_gives 118 = .ok (.iload 5, 2) := by decide +kernel
theorem dX12_gives_120 : decode cX12_gives 120 = .ok (.iastore, 1) := by decide +kernel
theorem dX12_gives_121 : decode cX12_gives 121 = .ok (.iload 5, 2) := by decide +kernel
theorem dX12_gives_123 : decode cX12_gives 123 = .ok (.iload 4, 2) := by decide +kernel
theorem dX12_gives_125 : decode cX12_gives 125 = .ok (.if_icmp .ne 4, 3) := by decide +kernel
theorem dX12_gives_128 : decode cX12_gives 128 = .ok (.return_, 1) := by decide +kernel
theorem dX12_gives_129 : decode cX12_gives 129 = .ok (.aload_n 0, 1) := by decide +kernel
theorem dX12_gives_130 : decode cX12_gives 130 = .ok (.getfield 98, 3) := by decide +kernel
theorem dX12_gives_133 : decode cX12_gives 133 = .ok (.iload_n 1, 1) := by decide +kernel
theorem dX12_gives_134 : decode cX12_gives 134 = .ok (.aload_n 0, 1) := by decide +kernel
theorem dX12_gives_135 : decode cX12_gives 135 = .ok (.getfield 98, 3) := by decide +kernel
theorem dX12_gives_138 : decode cX12_gives 138 = .ok (.iload_n 1, 1) := by decide +kernel
theorem dX12_gives_139 : decode cX12_gives 139 = .ok (.iaload, 1) := by decide +kernel
theorem dX12_gives_140 : decode cX12_gives 140 = .ok (.iload 4, 2) := by decide +kernel
theorem dX12_gives_142 : decode cX12_gives 142 = .ok (.iadd, 1) := by decide +kernel
theorem dX12_gives_143 : decode cX12_gives 143 = .ok (.iload 5, 2) := by decide +kernel
theorem dX12_gives_145 : decode cX12_gives 145 = .ok (.isub, 1) := by decide +kernel
theorem dX12_gives_146 : decode cX12_gives 146 = .ok (.iastore, 1) := by decide +kernel
theorem dX12_gives_147 : decode cX12_gives 147 = .ok (.aload_n 0, 1) := by decide +kernel
theorem dX12_gives_148 : decode cX12_gives 148 = .ok (.aload_n 0, 1) := by decide +kernel
theorem dX12_gives_149 : decode cX12_gives 149 = .ok (.getfield 325, 3) := by decide +kernel
theorem dX12_gives_152 : decode cX12_gives 152 = .ok (.iload 4, 2) := by decide +kernel
theorem dX12_gives_154 : decode cX12_gives 154 = .ok (.iadd, 1) := by decide +kernel
theorem dX12_gives_155 : decode cX12_gives 155 = .ok (.iload 5, 2) := by decide +kernel
theorem dX12_gives_157 : decode cX12_gives 157 = .ok (.isub, 1) := by decide +kernel
theorem dX12_gives_158 : decode cX12_gives 158 = .ok (.putfield 325, 3) := by decide +kernel
theorem dX12_gives_161 : decode cX12_gives 161 = .ok (.aload_n 0, 1) := by decide +kernel
theorem dX12_gives_162 : decode cX12_gives 162 = .ok (.iload_n 1, 1) := by decide +kernel
theorem dX12_gives_163 : decode cX12_gives 163 = .ok (.iload_n 3, 1) := by decide +kernel
theorem dX12_gives_164 : decode cX12_gives 164 = .ok (.iload_n 2, 1) := by decide +kernel
theorem dX12_gives_165 : decode cX12_gives 165 = .ok (.iload 4, 2) := by decide +kernel
theorem dX12_gives_167 : decode cX12_gives 167 = .ok (.iload 4, 2) := by decide +kernel
theorem dX12_gives_169 : decode cX12_gives 169 = .ok (.iload 5, 2) := by decide +kernel
theorem dX12_gives_171 : decode cX12_gives 171 = .ok (.isub, 1) := by decide +kernel
theorem dX12_gives_172 : decode cX12_gives 172 = .ok (.invokevirtual 309, 3) := by decide +kernel
theorem dX12_gives_175 : decode cX12_gives 175 = .ok (.aload_n 0, 1) := by decide +kernel
theorem dX12_gives_176 : decode cX12_gives 176 = .ok (.aload_n 0, 1) := by decide +kernel
theorem dX12_gives_177 : decode cX12_gives 177 = .ok (.getfield 328, 3) := by decide +kernel
theorem dX12_gives_180 : decode cX12_gives 180 = .ok (.aload_n 0, 1) := by decide +kernel
theorem dX12_gives_181 : decode cX12_gives 181 = .ok (.bipush 109, 2) := by decide +kernel
theorem dX12_gives_183 : decode cX12_gives 183 = .ok (.bipush 99, 2) := by decide +kernel
theorem dX12_gives_185 : decode cX12_gives 185 = .ok (.iconst 1, 1) := by decide +kernel
theorem dX12_gives_186 : decode cX12_gives 186 = .ok (.invokevirtual 313, 3) := by decide +kernel
theorem dX12_gives_189 : decode cX12_gives 189 = .ok (.iload 4, 2) := by decide +kernel
theorem dX12_gives_191 : decode cX12_gives 191 = .ok (.iload 5, 2) := by decide +kernel
theorem dX12_gives_193 : decode cX12_gives 193 = .ok (.isub, 1) := by decide +kernel
theorem dX12_gives_194 : decode cX12_gives 194 = .ok (.imul, 1) := by decide +kernel
theorem dX12_gives_195 : decode cX12_gives 195 = .ok (.iadd, 1) := by decide +kernel
theorem dX12_gives_196 : decode cX12_gives 196 = .ok (.putfield 328, 3) := by decide +kernel
theorem dX12_gives_199 : decode cX12_gives 199 = .ok (.return_, 1) := by decide +kernel
theorem dX12_startsDay_0 : decode cX12_startsDay 0 = .ok (.aload_n 0, 1) := by decide +kernel
theorem dX12_startsDay_1 : decode cX12_startsDay 1 = .ok (.iconst 0, 1) := by decide +kernel
theorem dX12_startsDay_2 : decode cX12_startsDay 2 = .ok (.putfield 328, 3) := by decide +kernel
theorem dX12_startsDay_5 : decode cX12_startsDay 5 = .ok (.aload_n 0, 1) := by decide +kernel
theorem dX12_startsDay_6 : decode cX12_startsDay 6 = .ok (.iconst 0, 1) := by decide +kernel
theorem dX12_startsDay_7 : decode cX12_startsDay 7 = .ok (.putfield 325, 3) := by decide +kernel
theorem dX12_startsDay_10 : decode cX12_startsDay 10 = .ok (.aload_n 0, 1) := by decide +kernel
theorem dX12_startsDay_11 : decode cX12_startsDay 11 = .ok (.aload_n 0, 1) := by decide +kernel
theorem dX12_startsDay_12 : decode cX12_startsDay 12 = .ok (.getfield 141, 3) := by decide +kernel
theorem dX12_startsDay_15 : decode cX12_startsDay 15 = .ok (.putfield 322, 3) := by decide +kernel
theorem dX12_startsDay_18 : decode cX12_startsDay 18 = .ok (.iconst 0, 1) := by decide +kernel
theorem dX12_startsDay_19 : decode cX12_startsDay 19 = .ok (.istore_n 1, 1) := by decide +kernel
theorem dX12_startsDay_20 : decode cX12_startsDay 20 = .ok (.iload_n 1, 1) := by decide +kernel
theorem dX12_startsDay_21 : decode cX12_startsDay 21 = .ok (.bipush 10, 2) := by decide +kernel
theorem dX12_startsDay_23 : decode cX12_startsDay 23 = .ok (.if_icmp .ge 16, 3) := by decide +kernel
theorem dX12_startsDay_26 : decode cX12_startsDay 26 = .ok (.aload_n 0, 1) := by decide +kernel
theorem dX12_startsDay_27 : decode cX12_startsDay 27 = .ok (.getfield 98, 3) := by decide +kernel
theorem dX12_startsDay_30 : decode cX12_startsDay 30 = .ok (.iload_n 1, 1) := by decide +kernel
theorem dX12_startsDay_31 : decode cX12_startsDay 31 = .ok (.iconst 0, 1) := by decide +kernel
theorem dX12_startsDay_32 : decode cX12_startsDay 32 = .ok (.iastore, 1) := by decide +kernel
theorem dX12_startsDay_33 : decode cX12_startsDay 33 = .ok (.iinc 1 1, 3) := by decide +kernel
theorem dX12_startsDay_36 : decode cX12_startsDay 36 = .ok (.goto (-16), 3) := by decide +kernel
theorem dX12_startsDay_39 : decode cX12_startsDay 39 = .ok (.return_, 1) := by decide +kernel
theorem dX12_servesHour_0 : decode cX12_servesHour 0 = .ok (.aload_n 0, 1) := by decide +kernel
theorem dX12_servesHour_1 : decode cX12_servesHour 1 = .ok (.sipush 9999, 3) := by decide +kernel
theorem dX12_servesHour_4 : decode cX12_servesHour 4 = .ok (.aload_n 0, 1) := by decide +kernel
theorem dX12_servesHour_5 : decode cX12_servesHour 5 = .ok (.getfield 322, 3) := by decide +kernel
theorem dX12_servesHour_8 : decode cX12_servesHour 8 = .ok (.aload_n 0, 1) := by decide +kernel
theorem dX12_servesHour_9 : decode cX12_servesHour 9 = .ok (.getfield 214, 3) := by decide +kernel
theorem dX12_servesHour_12 : decode cX12_servesHour 12 = .ok (.iadd, 1) := by decide +kernel
theorem dX12_servesHour_13 : decode cX12_servesHour 13 = .ok (.invokestatic 183, 3) := by decide +kernel
theorem dX12_servesHour_16 : decode cX12_servesHour 16 = .ok (.putfield 322, 3) := by decide +kernel
theorem dX12_servesHour_19 : decode cX12_servesHour 19 = .ok (.iconst 0, 1) := by decide +kernel
theorem dX12_servesHour_20 : decode cX12_servesHour 20 = .ok (.istore_n 2, 1) := by decide +kernel
theorem dX12_servesHour_21 : decode cX12_servesHour 21 = .ok (.iload_n 2, 1) := by decide +kernel
theorem dX12_servesHour_22 : decode cX12_servesHour 22 = .ok (.iconst 3, 1) := by decide +kernel
theorem dX12_servesHour_23 : decode cX12_servesHour 23 = .ok (.if_icmp .ge 21, 3) := by decide +kernel
theorem dX12_servesHour_26 : decode cX12_servesHour 26 = .ok (.aload_n 0, 1) := by decide +kernel
theorem dX12_servesHour_27 : decode cX12_servesHour 27 = .ok (.getfield 89, 3) := by decide +kernel
theorem dX12_servesHour_30 : decode cX12_servesHour 30 = .ok (.iload_n 2, 1) := by decide +kernel
theorem dX12_servesHour_31 : decode cX12_servesHour 31 = .ok (.aload_n 0, 1) := by decide +kernel
theorem dX12_servesHour_32 : decode cX12_servesHour 32 = .ok (.getfield 23, 3) := by decide +kernel
theorem dX12_servesHour_35 : decode cX12_servesHour 35 = .ok (.iload_n 2, 1) := by decide +kernel
theorem dX12_servesHour_36 : decode cX12_servesHour 36 = .ok (.iaload, 1) := by decide +kernel
theorem dX12_servesHour_37 : decode cX12_servesHour 37 = .ok (.iastore, 1) := by decide +kernel
theorem dX12_servesHour_38 : decode cX12_servesHour 38 = .ok (.iinc 2 1, 3) := by decide +kernel
theorem dX12_servesHour_41 : decode cX12_servesHour 41 = .ok (.goto (-20), 3) := by decide +kernel
theorem dX12_servesHour_44 : decode cX12_servesHour 44 = .ok (.iconst 0, 1) := by decide +kernel
theorem dX12_servesHour_45 : decode cX12_servesHour 45 = .ok (.istore_n 2, 1) := by decide +kernel
theorem dX12_servesHour_46 : decode cX12_servesHour 46 = .ok (.iload_n 2, 1) := by decide +kernel
theorem dX12_servesHour_47 : decode cX12_servesHour 47 = .ok (.iconst 4, 1) := by decide +kernel
theorem dX12_servesHour_48 : decode cX12_servesHour 48 = .ok (.if_icmp .ge 21, 3) := by decide +kernel
theorem dX12_servesHour_51 : decode cX12_servesHour 51 = .ok (.aload_n 0, 1) := by decide +kernel
theorem dX12_servesHour_52 : decode cX12_servesHour 52 = .ok (.getfield 92, 3) := by decide +kernel
theorem dX12_servesHour_55 : decode cX12_servesHour 55 = .ok (.iload_n 2, 1) := by decide +kernel
theorem dX12_servesHour_56 : decode cX12_servesHour 56 = .ok (.aload_n 0, 1) := by decide +kernel
theorem dX12_servesHour_57 : decode cX12_servesHour 57 = .ok (.getfield 29, 3) := by decide +kernel
theorem dX12_servesHour_60 : decode cX12_servesHour 60 = .ok (.iload_n 2, 1) := by decide +kernel
theorem dX12_servesHour_61 : decode cX12_servesHour 61 = .ok (.iaload, 1) := by decide +kernel
theorem dX12_servesHour_62 : decode cX12_servesHour 62 = .ok (.iastore, 1) := by decide +kernel
theorem dX12_servesHour_63 : decode cX12_servesHour 63 = .ok (.iinc 2 1, 3) := by decide +kernel
theorem dX12_servesHour_66 : decode cX12_servesHour 66 = .ok (.goto (-20), 3) := by decide +kernel
theorem dX12_servesHour_69 : decode cX12_servesHour 69 = .ok (.iconst 0, 1) := by decide +kernel
theorem dX12_servesHour_70 : decode cX12_servesHour 70 = .ok (.istore_n 2, 1) := by decide +kernel
theorem dX12_servesHour_71 : decode cX12_servesHour 71 = .ok (.iload_n 2, 1) := by decide +kernel
theorem dX12_servesHour_72 : decode cX12_servesHour 72 = .ok (.aload_n 0, 1) := by decide +kernel
theorem dX12_servesHour_73 : decode cX12_servesHour 73 = .ok (.getfield 316, 3) := by decide +kernel
theorem dX12_servesHour_76 : decode cX12_servesHour 76 = .ok (.if_icmp .ge 34, 3) := by decide +kernel
theorem dX12_servesHour_79 : decode cX12_servesHour 79 = .ok (.iconst 0, 1) := by decide +kernel
theorem dX12_servesHour_80 : decode cX12_servesHour 80 = .ok (.istore_n 3, 1) := by decide +kernel
theorem dX12_servesHour_81 : decode cX12_servesHour 81 = .ok (.iload_n 3, 1) := by decide +kernel
theorem dX12_servesHour_82 : decode cX12_servesHour 82 = .ok (.iconst 3, 1) := by decide +kernel
theorem dX12_servesHour_83 : decode cX12_servesHour 83 = .ok (.if_icmp .ge 21, 3) := by decide +kernel
theorem dX12_servesHour_86 : decode cX12_servesHour 86 = .ok (.aload_n 0, 1) := by decide +kernel
theorem dX12_servesHour_87 : decode cX12_servesHour 87 = .ok (.aload_n 0, 1) := by decide +kernel
theorem dX12_servesHour_88 : decode cX12_servesHour 88 = .ok (.getfield 83, 3) := by decide +kernel
theorem dX12_servesHour_91 : decode cX12_servesHour 91 = .ok (.iload_n 2, 1) := by decide +kernel
theorem dX12_servesHour_92 : decode cX12_servesHour 92 = .ok (.iaload, 1) := by decide +kernel
theorem dX12_servesHour_93 : decode cX12_servesHour 93 = .ok (.iload_n 3, 1) := by decide +kernel
theorem dX12_servesHour_94 : decode cX12_servesHour 94 = .ok (.iload_n 1, 1) := by decide +kernel
theorem dX12_servesHour_95 : decode cX12_servesHour 95 = .ok (.invokevirtual 331, 3) := by decide +kernel
theorem dX12_servesHour_98 : decode cX12_servesHour 98 = .ok (.iinc 3 1, 3) := by decide +kernel
theorem dX12_servesHour_101 : decode cX12_servesHour 101 = .ok (.goto (-20), 3) := by decide +kernel
theorem dX12_servesHour_104 : decode cX12_servesHour 104 = .ok (.iinc 2 1, 3) := by decide +kernel
theorem dX12_servesHour_107 : decode cX12_servesHour 107 = .ok (.goto (-36), 3) := by decide +kernel
theorem dX12_servesHour_110 : decode cX12_servesHour 110 = .ok (.return_, 1) := by decide +kernel
theorem dX12_serves_0 : decode cX12_serves 0 = .ok (.aload_n 0, 1) := by decide +kernel
theorem dX12_serves_1 : decode cX12_serves 1 = .ok (.invokevirtual 335, 3) := by decide +kernel
theorem dX12_serves_4 : decode cX12_serves 4 = .ok (.iconst 0, 1) := by decide +kernel
theorem dX12_serves_5 : decode cX12_serves 5 = .ok (.istore_n 1, 1) := by decide +kernel
theorem dX12_serves_6 : decode cX12_serves 6 = .ok (.iload_n 1, 1) := by decide +kernel
theorem dX12_serves_7 : decode cX12_serves 7 = .ok (.bipush 24, 2) := by decide +kernel
theorem dX12_serves_9 : decode cX12_serves 9 = .ok (.if_icmp .ge 19, 3) := by decide +kernel
theorem dX12_serves_12 : decode cX12_serves 12 = .ok (.aload_n 0, 1) := by decide +kernel
theorem dX12_serves_13 : decode cX12_serves 13 = .ok (.iload_n 1, 1) := by decide +kernel
theorem dX12_serves_14 : decode cX12_serves 14 = .ok (.invokevirtual 338, 3) := by decide +kernel
theorem dX12_serves_17 : decode cX12_serves 17 = .ok (.aload_n 0, 1) := by decide +kernel
theorem dX12_serves_18 : decode cX12_serves 18 = .ok (.iload_n 1, 1) := by decide +kernel
theorem dX12_serves_19 : decode cX12_serves 19 = .ok (.invokevirtual 341, 3) := by decide +kernel
theorem dX12_serves_22 : decode cX12_serves 22 = .ok (.iinc 1 1, 3) := by decide +kernel
theorem dX12_serves_25 : decode cX12_serves 25 = .ok (.goto (-19), 3) := by decide +kernel
theorem dX12_serves_28 : decode cX12_serves 28 = .ok (.return_, 1) := by decide +kernel
theorem dX12_gets_0 : decode cX12_gets 0 = .ok (.aload_n 0, 1) := by decide +kernel
theorem dX12_gets_1 : decode cX12_gets 1 = .ok (.iload_n 1, 1) := by decide +kernel
theorem dX12_gets_2 : decode cX12_gets 2 = .ok (.invokevirtual 220, 3) := by decide +kernel
theorem dX12_gets_5 : decode cX12_gets 5 = .ok (.ifCond .eq 17, 3) := by decide +kernel
theorem dX12_gets_8 : decode cX12_gets 8 = .ok (.iload_n 2, 1) := by decide +kernel
theorem dX12_gets_9 : decode cX12_gets 9 = .ok (.invokestatic 205, 3) := by decide +kernel
theorem dX12_gets_12 : decode cX12_gets 12 = .ok (.ifCond .eq 10, 3) := by decide +kernel
theorem dX12_gets_15 : decode cX12_gets 15 = .ok (.iload_n 3, 1) := by decide +kernel
theorem dX12_gets_16 : decode cX12_gets 16 = .ok (.invokestatic 208, 3) := by decide +kernel
theorem dX12_gets_19 : decode cX12_gets 19 = .ok (.ifCond .ne 5, 3) := by decide +kernel
theorem dX12_gets_22 : decode cX12_gets 22 = .ok (.iconst (-1), 1) := by decide +kernel
theorem dX12_gets_23 : decode cX12_gets 23 = .ok (.ireturn, 1) := by decide +kernel
theorem dX12_gets_24 : decode cX12_gets 24 = .ok (.aload_n 0, 1) := by decide +kernel
theorem dX12_gets_25 : decode cX12_gets 25 = .ok (.invokevirtual 344, 3) := by decide +kernel
theorem dX12_gets_28 : decode cX12_gets 28 = .ok (.aload_n 0, 1) := by decide +kernel
theorem dX12_gets_29 : decode cX12_gets 29 = .ok (.getfield 95, 3) := by decide +kernel
theorem dX12_gets_32 : decode cX12_gets 32 = .ok (.bipush 72, 2) := by decide +kernel
theorem dX12_gets_34 : decode cX12_gets 34 = .ok (.iload_n 1, 1) := by decide +kernel
theorem dX12_gets_35 : decode cX12_gets 35 = .ok (.imul, 1) := by decide +kernel
theorem dX12_gets_36 : decode cX12_gets 36 = .ok (.bipush 24, 2) := by decide +kernel
theorem dX12_gets_38 : decode cX12_gets 38 = .ok (.iload_n 2, 1) := by decide +kernel
theorem dX12_gets_39 : decode cX12_gets 39 = .ok (.imul, 1) := by decide +kernel
theorem dX12_gets_40 : decode cX12_gets 40 = .ok (.iadd, 1) := by decide +kernel
theorem dX12_gets_41 : decode cX12_gets 41 = .ok (.iload_n 3, 1) := by decide +kernel
theorem dX12_gets_42 : decode cX12_gets 42 = .ok (.iadd, 1) := by decide +kernel
theorem dX12_gets_43 : decode cX12_gets 43 = .ok (.iaload, 1) := by decide +kernel
theorem dX12_gets_44 : decode cX12_gets 44 = .ok (.ireturn, 1) := by decide +kernel
theorem dX12_served_0 : decode cX12_served 0 = .ok (.iload_n 1, 1) := by decide +kernel
theorem dX12_served_1 : decode cX12_served 1 = .ok (.iconst 0, 1) := by decide +kernel
theorem dX12_served_2 : decode cX12_served 2 = .ok (.iconst 2, 1) := by decide +kernel
theorem dX12_served_3 : decode cX12_served 3 = .ok (.invokestatic 169, 3) := by decide +kernel
theorem dX12_served_6 : decode cX12_served 6 = .ok (.ifCond .ne 16, 3) := by decide +kernel
theorem dX12_served_9 : decode cX12_served 9 = .ok (.aload_n 0, 1) := by decide +kernel
theorem dX12_served_10 : decode cX12_served 10 = .ok (.iload_n 1, 1) := by decide +kernel
theorem dX12_served_11 : decode cX12_served 11 = .ok (.bipush 10, 2) := by decide +kernel
theorem dX12_served_13 : decode cX12_served 13 = .ok (.isub, 1) := by decide +kernel
theorem dX12_served_14 : decode cX12_served 14 = .ok (.invokevirtual 220, 3) := by decide +kernel
theorem dX12_served_17 : decode cX12_served 17 = .ok (.ifCond .ne 5, 3) := by decide +kernel
theorem dX12_served_20 : decode cX12_served 20 = .ok (.iconst (-1), 1) := by decide +kernel
theorem dX12_served_21 : decode cX12_served 21 = .ok (.ireturn, 1) := by decide +kernel
theorem dX12_served_22 : decode cX12_served 22 = .ok (.aload_n 0, 1) := by decide +kernel
theorem dX12_served_23 : decode cX12_served 23 = .ok (.invokevirtual 344, 3) := by decide +kernel
theorem dX12_served_26 : decode cX12_served 26 = .ok (.iload_n 1, 1) := by decide +kernel
theorem dX12_served_27 : decode cX12_served 27 = .ok (.ifCond .ne 10, 3) := by decide +kernel
theorem dX12_served_30 : decode cX12_served 30 = .ok (.aload_n 0, 1) := by decide +kernel
theorem dX12_served_31 : decode cX12_served 31 = .ok (.getfield 328, 3) := by decide +kernel
theorem dX12_served_34 : decode cX12_served 34 = .ok (.goto 36, 3) := by decide +kernel
theorem dX12_served_37 : decode cX12_served 37 = .ok (.iload_n 1, 1) := by decide +kernel
theorem dX12_served_38 : decode cX12_served 38 = .ok (.iconst 1, 1) := by decide +kernel
theorem dX12_served_39 : decode cX12_served 39 = .ok (.if_icmp .ne 10, 3) := by decide +kernel
theorem dX12_served_42 : decode cX12_served 42 = .ok (.aload_n 0, 1) := by decide +kernel
theorem dX12_served_43 : decode cX12_served 43 = .ok (.getfield 322, 3) := by decide +kernel
theorem dX12_served_46 : decode cX12_served 46 = .ok (.goto 24, 3) := by decide +kernel
theorem dX12_served_49 : decode cX12_served 49 = .ok (.iload_n 1, 1) := by decide +kernel
theorem dX12_served_50 : decode cX12_served 50 = .ok (.iconst 2, 1) := by decide +kernel
theorem dX12_served_51 : decode cX12_served 51 = .ok (.if_icmp .ne 10, 3) := by decide +kernel
theorem dX12_served_54 : decode cX12_served 54 = .ok (.aload_n 0, 1) := by decide +kernel
theorem dX12_served_55 : decode cX12_served 55 = .ok (.getfield 325, 3) := by decide +kernel
theorem dX12_served_58 : decode cX12_served 58 = .ok (.goto 12, 3) := by decide +kernel
theorem dX12_served_61 : decode cX12_served 61 = .ok (.aload_n 0, 1) := by decide +kernel
theorem dX12_served_62 : decode cX12_served 62 = .ok (.getfield 98, 3) := by decide +kernel
theorem dX12_served_65 : decode cX12_served 65 = .ok (.iload_n 1, 1) := by decide +kernel
theorem dX12_served_66 : decode cX12_served 66 = .ok (.bipush 10, 2) := by decide +kernel
theorem dX12_served_68 : decode cX12_served 68 = .ok (.isub, 1) := by decide +kernel
theorem dX12_served_69 : decode cX12_served 69 = .ok (.iaload, 1) := by decide +kernel
theorem dX12_served_70 : decode cX12_served 70 = .ok (.ireturn, 1) := by decide +kernel
theorem dX12_rainOf_0 : decode cX12_rainOf 0 = .ok (.iconst 0, 1) := by decide +kernel
theorem dX12_rainOf_1 : decode cX12_rainOf 1 = .ok (.istore 4, 2) := by decide +kernel
theorem dX12_rainOf_3 : decode cX12_rainOf 3 = .ok (.iconst 0, 1) := by decide +kernel
theorem dX12_rainOf_4 : decode cX12_rainOf 4 = .ok (.istore 5, 2) := by decide +kernel
theorem dX12_rainOf_6 : decode cX12_rainOf 6 = .ok (.iload 5, 2) := by decide +kernel
theorem dX12_rainOf_8 : decode cX12_rainOf 8 = .ok (.bipush 10, 2) := by decide +kernel
theorem dX12_rainOf_10 : decode cX12_rainOf 10 = .ok (.if_icmp .ge 51, 3) := by decide +kernel
theorem dX12_rainOf_13 : decode cX12_rainOf 13 = .ok (.iload 4, 2) := by decide +kernel
theorem dX12_rainOf_15 : decode cX12_rainOf 15 = .ok (.iload_n 1, 1) := by decide +kernel
theorem dX12_rainOf_16 : decode cX12_rainOf 16 = .ok (.iload 5, 2) := by decide +kernel
theorem dX12_rainOf_18 : decode cX12_rainOf 18 = .ok (.invokestatic 199, 3) := by decide +kernel
theorem dX12_rainOf_21 : decode cX12_rainOf 21 = .ok (.ifCond .eq 30, 3) := by decide +kernel
theorem dX12_rainOf_24 : decode cX12_rainOf 24 = .ok (.aload_n 0, 1) := by decide +kernel
theorem dX12_rainOf_25 : decode cX12_rainOf 25 = .ok (.getfield 20, 3) := by decide +kernel
theorem dX12_rainOf_28 : decode cX12_rainOf 28 = .ok (.aload_n 0, 1) := by decide +kernel
theorem dX12_rainOf_29 : decode cX12_rainOf 29 = .ok (.getfield 32, 3) := by decide +kernel
theorem dX12_rainOf_32 : decode cX12_rainOf 32 = .ok (.iload 5, 2) := by decide +kernel
theorem dX12_rainOf_34 : decode cX12_rainOf 34 = .ok (.iaload, 1) := by decide +kernel
theorem dX12_rainOf_35 : decode cX12_rainOf 35 = .ok (.iaload, 1) := by decide +kernel
theorem dX12_rainOf_36 : decode cX12_rainOf 36 = .ok (.iload_n 2, 1) := by decide +kernel
theorem dX12_rainOf_37 : decode cX12_rainOf 37 = .ok (.if_icmp .ne 14, 3) := by decide +kernel
theorem dX12_rainOf_40 : decode cX12_rainOf 40 = .ok (.aload_n 0, 1) := by decide +kernel
theorem dX12_rainOf_41 : decode cX12_rainOf 41 = .ok (.iload 5, 2) := by decide +kernel
theorem dX12_rainOf_43 : decode cX12_rainOf 43 = .ok (.iconst 0, 1) := by decide +kernel
theorem dX12_rainOf_44 : decode cX12_rainOf 44 = .ok (.iload_n 3, 1) := by decide +kernel
theorem dX12_rainOf_45 : decode cX12_rainOf 45 = .ok (.invokevirtual 230, 3) := by decide +kernel
theorem dX12_rainOf_48 : decode cX12_rainOf 48 = .ok (.goto 4, 3) := by decide +kernel
theorem dX12_rainOf_51 : decode cX12_rainOf 51 = .ok (.iconst 0, 1) := by decide +kernel
theorem dX12_rainOf_52 : decode cX12_rainOf 52 = .ok (.iadd, 1) := by decide +kernel
theorem dX12_rainOf_53 : decode cX12_rainOf 53 = .ok (.istore 4, 2) := by decide +kernel
theorem dX12_rainOf_55 : decode cX12_rainOf 55 = .ok (.iinc 5 1, 3) := by decide +kernel
theorem dX12_rainOf_58 : decode cX12_rainOf 58 = .ok (.goto (-52), 3) := by decide +kernel
theorem dX12_rainOf_61 : decode cX12_rainOf 61 = .ok (.iload 4, 2) := by decide +kernel
theorem dX12_rainOf_63 : decode cX12_rainOf 63 = .ok (.ireturn, 1) := by decide +kernel
theorem dX12_whyNot_0 : decode cX12_whyNot 0 = .ok (.iload_n 3, 1) := by decide +kernel
theorem dX12_whyNot_1 : decode cX12_whyNot 1 = .ok (.aload_n 0, 1) := by decide +kernel
theorem dX12_whyNot_2 : decode cX12_whyNot 2 = .ok (.getfield 23, 3) := by decide +kernel
theorem dX12_whyNot_5 : decode cX12_whyNot 5 = .ok (.iconst 0, 1) := by decide +kernel
theorem dX12_whyNot_6 : decode cX12_whyNot 6 = .ok (.iaload, 1) := by decide +kernel
theorem dX12_whyNot_7 : decode cX12_whyNot 7 = .ok (.if_icmp .le 10, 3) := by decide +kernel
theorem dX12_whyNot_10 : decode cX12_whyNot 10 = .ok (.iload 4, 2) := by decide +kernel
theorem dX12_whyNot_12 : decode cX12_whyNot 12 = .ok (.ifCond .eq 5, 3) := by decide +kernel
theorem dX12_whyNot_15 : decode cX12_whyNot 15 = .ok (.iconst 0, 1) := by decide +kernel
theorem dX12_whyNot_16 : decode cX12_whyNot 16 = .ok (.ireturn, 1) := by decide +kernel
theorem dX12_whyNot_17 : decode cX12_whyNot 17 = .ok (.iconst 1, 1) := by decide +kernel
theorem dX12_whyNot_18 : decode cX12_whyNot 18 = .ok (.istore 5, 2) := by decide +kernel
theorem dX12_whyNot_20 : decode cX12_whyNot 20 = .ok (.iload 5, 2) := by decide +kernel
theorem dX12_whyNot_22 : decode cX12_whyNot 22 = .ok (.iconst 3, 1) := by decide +kernel
theorem dX12_whyNot_23 : decode cX12_whyNot 23 = .ok (.if_icmp .ge 35, 3) := by decide +kernel
theorem dX12_whyNot_26 : decode cX12_whyNot 26 = .ok (.iload 4, 2) := by decide +kernel
theorem dX12_whyNot_28 : decode cX12_whyNot 28 = .ok (.ifCond .eq 24, 3) := by decide +kernel
theorem dX12_whyNot_31 : decode cX12_whyNot 31 = .ok (.aload_n 0, 1) := by decide +kernel
theorem dX12_whyNot_32 : decode cX12_whyNot 32 = .ok (.iload_n 1, 1) := by decide +kernel
theorem dX12_whyNot_33 : decode cX12_whyNot 33 = .ok (.iload 5, 2) := by decide +kernel
theorem dX12_whyNot_35 : decode cX12_whyNot 35 = .ok (.iload_n 2, 1) := by decide +kernel
theorem dX12_whyNot_36 : decode cX12_whyNot 36 = .ok (.invokevirtual 234, 3) := by decide +kernel
theorem dX12_whyNot_39 : decode cX12_whyNot 39 = .ok (.aload_n 0, 1) := by decide +kernel
theorem dX12_whyNot_40 : decode cX12_whyNot 40 = .ok (.getfield 23, 3) := by decide +kernel
theorem dX12_whyNot_43 : decode cX12_whyNot 43 = .ok (.iload 5, 2) := by decide +kernel
theorem dX12_whyNot_45 : decode cX12_whyNot 45 = .ok (.iaload, 1) := by decide +kernel
theorem dX12_whyNot_46 : decode cX12_whyNot 46 = .ok (.if_icmp .le 6, 3) := by decide +kernel
theorem dX12_whyNot_49 : decode cX12_whyNot 49 = .ok (.iload 5, 2) := by decide +kernel
theorem dX12_whyNot_51 : decode cX12_whyNot 51 = .ok (.ireturn, 1) := by decide +kernel
theorem dX12_whyNot_52 : decode cX12_whyNot 52 = .ok (.iinc 5 1, 3) := by decide +kernel
theorem dX12_whyNot_55 : decode cX12_whyNot 55 = .ok (.goto (-35), 3) := by decide +kernel
theorem dX12_whyNot_58 : decode cX12_whyNot 58 = .ok (.iconst 0, 1) := by decide +kernel
theorem dX12_whyNot_59 : decode cX12_whyNot 59 = .ok (.istore 5, 2) := by decide +kernel
theorem dX12_whyNot_61 : decode cX12_whyNot 61 = .ok (.iload 5, 2) := by decide +kernel
theorem dX12_whyNot_63 : decode cX12_whyNot 63 = .ok (.iconst 4, 1) := by decide +kernel
theorem dX12_whyNot_64 : decode cX12_whyNot 64 = .ok (.if_icmp .ge 32, 3) := by decide +kernel
theorem dX12_whyNot_67 : decode cX12_whyNot 67 = .ok (.aload_n 0, 1) := by decide +kernel
theorem dX12_whyNot_68 : decode cX12_whyNot 68 = .ok (.iload_n 1, 1) := by decide +kernel
theorem dX12_whyNot_69 : decode cX12_whyNot 69 = .ok (.iload 5, 2) := by decide +kernel
theorem dX12_whyNot_71 : decode cX12_whyNot 71 = .ok (.iload_n 2, 1) := by decide +kernel
theorem dX12_whyNot_72 : decode cX12_whyNot 72 = .ok (.invokevirtual 347, 3) := by decide +kernel
theorem dX12_whyNot_75 : decode cX12_whyNot 75 = .ok (.aload_n 0, 1) := by decide +kernel
theorem dX12_whyNot_76 : decode cX12_whyNot 76 = .ok (.getfield 29, 3) := by decide +kernel
theorem dX12_whyNot_79 : decode cX12_whyNot 79 = .ok (.iload 5, 2) := by decide +kernel
theorem dX12_whyNot_81 : decode cX12_whyNot 81 = .ok (.iaload, 1) := by decide +kernel
theorem dX12_whyNot_82 : decode cX12_whyNot 82 = .ok (.if_icmp .le 8, 3) := by decide +kernel
theorem dX12_whyNot_85 : decode cX12_whyNot 85 = .ok (.iconst 3, 1) := by decide +kernel
theorem dX12_whyNot_86 : decode cX12_whyNot 86 = .ok (.iload 5, 2) := by decide +kernel
theorem dX12_whyNot_88 : decode cX12_whyNot 88 = .ok (.iadd, 1) := by decide +kernel
theorem dX12_whyNot_89 : decode cX12_whyNot 89 = .ok (.ireturn, 1) := by decide +kernel
theorem dX12_whyNot_90 : decode cX12_whyNot 90 = .ok (.iinc 5 1, 3) := by decide +kernel
theorem dX12_whyNot_93 : decode cX12_whyNot 93 = .ok (.goto (-32), 3) := by decide +kernel
theorem dX12_whyNot_96 : decode cX12_whyNot 96 = .ok (.iload_n 3, 1) := by decide +kernel
theorem dX12_whyNot_97 : decode cX12_whyNot 97 = .ok (.aload_n 0, 1) := by decide +kernel
theorem dX12_whyNot_98 : decode cX12_whyNot 98 = .ok (.getfield 322, 3) := by decide +kernel
theorem dX12_whyNot_101 : decode cX12_whyNot 101 = .ok (.if_icmp .le 8, 3) := by decide +kernel
theorem dX12_whyNot_104 : decode cX12_whyNot 104 = .ok (.bipush 7, 2) := by decide +kernel
theorem dX12_whyNot_106 : decode cX12_whyNot 106 = .ok (.goto 4, 3) := by decide +kernel
theorem dX12_whyNot_109 : decode cX12_whyNot 109 = .ok (.iconst (-1), 1) := by decide +kernel
theorem dX12_whyNot_110 : decode cX12_whyNot 110 = .ok (.ireturn, 1) := by decide +kernel
theorem dX12_canBe_0 : decode cX12_canBe 0 = .ok (.aload_n 0, 1) := by decide +kernel
theorem dX12_canBe_1 : decode cX12_canBe 1 = .ok (.aload_n 0, 1) := by decide +kernel
theorem dX12_canBe_2 : decode cX12_canBe 2 = .ok (.getfield 141, 3) := by decide +kernel
theorem dX12_canBe_5 : decode cX12_canBe 5 = .ok (.putfield 322, 3) := by decide +kernel
theorem dX12_canBe_8 : decode cX12_canBe 8 = .ok (.iconst 0, 1) := by decide +kernel
theorem dX12_canBe_9 : decode cX12_canBe 9 = .ok (.istore_n 3, 1) := by decide +kernel
theorem dX12_canBe_10 : decode cX12_canBe 10 = .ok (.iload_n 3, 1) := by decide +kernel
theorem dX12_canBe_11 : decode cX12_canBe 11 = .ok (.bipush 24, 2) := by decide +kernel
theorem dX12_canBe_13 : decode cX12_canBe 13 = .ok (.if_icmp .ge 76, 3) := by decide +kernel
theorem dX12_canBe_16 : decode cX12_canBe 16 = .ok (.aload_n 0, 1) := by decide +kernel
theorem dX12_canBe_17 : decode cX12_canBe 17 = .ok (.sipush 9999, 3) := by decide +kernel
theorem dX12_canBe_20 : decode cX12_canBe 20 = .ok (.aload_n 0, 1) := by decide +kernel
theorem dX12_canBe_21 : decode cX12_canBe 21 = .ok (.getfield 322, 3) := by decide +kernel
theorem dX12_canBe_24 : decode cX12_canBe 24 = .ok (.aload_n 0, 1) := by decide +kernel
theorem dX12_canBe_25 : decode cX12_canBe 25 = .ok (.getfield 214, 3) := by decide +kernel
theorem dX12_canBe_28 : decode cX12_canBe 28 = .ok (.iadd, 1) := by decide +kernel
theorem dX12_canBe_29 : decode cX12_canBe 29 = .ok (.invokestatic 183, 3) := by decide +kernel
theorem dX12_canBe_32 : decode cX12_canBe 32 = .ok (.putfield 322, 3) := by decide +kernel
theorem dX12_canBe_35 : decode cX12_canBe 35 = .ok (.aload_n 0, 1) := by decide +kernel
theorem dX12_canBe_36 : decode cX12_canBe 36 = .ok (.iload_n 1, 1) := by decide +kernel
theorem dX12_canBe_37 : decode cX12_canBe 37 = .ok (.iconst 0, 1) := by decide +kernel
theorem dX12_canBe_38 : decode cX12_canBe 38 = .ok (.iload_n 3, 1) := by decide +kernel
theorem dX12_canBe_39 : decode cX12_canBe 39 = .ok (.invokevirtual 234, 3) := by decide +kernel
theorem dX12_canBe_42 : decode cX12_canBe 42 = .ok (.istore 4, 2) := by decide +kernel
theorem dX12_canBe_44 : decode cX12_canBe 44 = .ok (.aload_n 0, 1) := by decide +kernel
theorem dX12_canBe_45 : decode cX12_canBe 45 = .ok (.iload_n 3, 1) := by decide +kernel
theorem dX12_canBe_46 : decode cX12_canBe 46 = .ok (.putfield 350, 3) := by decide +kernel
theorem dX12_canBe_49 : decode cX12_canBe 49 = .ok (.aload_n 0, 1) := by decide +kernel
theorem dX12_canBe_50 : decode cX12_canBe 50 = .ok (.aload_n 0, 1) := by decide +kernel
theorem dX12_canBe_51 : decode cX12_canBe 51 = .ok (.iload_n 1, 1) := by decide +kernel
theorem dX12_canBe_52 : decode cX12_canBe 52 = .ok (.iload_n 3, 1) := by decide +kernel
theorem dX12_canBe_53 : decode cX12_canBe 53 = .ok (.iload 4, 2) := by decide +kernel
theorem dX12_canBe_55 : decode cX12_canBe 55 = .ok (.iload_n 2, 1) := by decide +kernel
theorem dX12_canBe_56 : decode cX12_canBe 56 = .ok (.invokevirtual 353, 3) := by decide +kernel
theorem dX12_canBe_59 : decode cX12_canBe 59 = .ok (.putfield 357, 3) := by decide +kernel
theorem dX12_canBe_62 : decode cX12_canBe 62 = .ok (.aload_n 0, 1) := by decide +kernel
theorem dX12_canBe_63 : decode cX12_canBe 63 = .ok (.getfield 357, 3) := by decide +kernel
theorem dX12_canBe_66 : decode cX12_canBe 66 = .ok (.iconst (-1), 1) := by decide +kernel
theorem dX12_canBe_67 : decode cX12_canBe 67 = .ok (.if_icmp .eq 5, 3) := by decide +kernel
theorem dX12_canBe_70 : decode cX12_canBe 70 = .ok (.iconst 0, 1) := by decide +kernel
theorem dX12_canBe_71 : decode cX12_canBe 71 = .ok (.ireturn, 1) := by decide +kernel
theorem dX12_canBe_72 : decode cX12_canBe 72 = .ok (.aload_n 0, 1) := by decide +kernel
theorem dX12_canBe_73 : decode cX12_canBe 73 = .ok (.aload_n 0, 1) := by decide +kernel
theorem dX12_canBe_74 : decode cX12_canBe 74 = .ok (.getfield 322, 3) := by decide +kernel
theorem dX12_canBe_77 : decode cX12_canBe 77 = .ok (.iload 4, 2) := by decide +kernel
theorem dX12_canBe_79 : decode cX12_canBe 79 = .ok (.isub, 1) := by decide +kernel
theorem dX12_canBe_80 : decode cX12_canBe 80 = .ok (.putfield 322, 3) := by decide +kernel
theorem dX12_canBe_83 : decode cX12_canBe 83 = .ok (.iinc 3 1, 3) := by decide +kernel
theorem dX12_canBe_86 : decode cX12_canBe 86 = .ok (.goto (-76), 3) := by decide +kernel
theorem dX12_canBe_89 : decode cX12_canBe 89 = .ok (.iconst 1, 1) := by decide +kernel
theorem dX12_canBe_90 : decode cX12_canBe 90 = .ok (.ireturn, 1) := by decide +kernel
theorem dX12_areStays_0 : decode cX12_areStays 0 = .ok (.iload_n 1, 1) := by decide +kernel
theorem dX12_areStays_1 : decode cX12_areStays 1 = .ok (.ifCond .le 18, 3) := by decide +kernel
theorem dX12_areStays_4 : decode cX12_areStays 4 = .ok (.iload_n 1, 1) := by decide +kernel
theorem dX12_areStays_5 : decode cX12_areStays 5 = .ok (.aload_n 0, 1) := by decide +kernel
theorem dX12_areStays_6 : decode cX12_areStays 6 = .ok (.getfield 217, 3) := by decide +kernel
theorem dX12_areStays_9 : decode cX12_areStays 9 = .ok (.iconst (-1), 1) := by decide +kernel
theorem dX12_areStays_10 : decode cX12_areStays 10 = .ok (.ixor, 1) := by decide +kernel
theorem dX12_areStays_11 : decode cX12_areStays 11 = .ok (.iand, 1) := by decide +kernel
theorem dX12_areStays_12 : decode cX12_areStays 12 = .ok (.ifCond .ne 7, 3) := by decide +kernel
theorem dX12_areStays_15 : decode cX12_areStays 15 = .ok (.iconst 1, 1) := by decide +kernel
theorem dX12_areStays_16 : decode cX12_areStays 16 = .ok (.goto 4, 3) := by decide +kernel
theorem dX12_areStays_19 : decode cX12_areStays 19 = .ok (.iconst 0, 1) := by decide +kernel
theorem dX12_areStays_20 : decode cX12_areStays 20 = .ok (.ireturn, 1) := by decide +kernel
theorem dX12_can_0 : decode cX12_can 0 = .ok (.aload_n 0, 1) := by decide +kernel
theorem dX12_can_1 : decode cX12_can 1 = .ok (.iload_n 1, 1) := by decide +kernel
theorem dX12_can_2 : decode cX12_can 2 = .ok (.invokevirtual 360, 3) := by decide +kernel
theorem dX12_can_5 : decode cX12_can 5 = .ok (.ifCond .eq 12, 3) := by decide +kernel
theorem dX12_can_8 : decode cX12_can 8 = .ok (.iload_n 2, 1) := by decide +kernel
theorem dX12_can_9 : decode cX12_can 9 = .ok (.iconst 0, 1) := by decide +kernel
theorem dX12_can_10 : decode cX12_can 10 = .ok (.iconst 2, 1) := by decide +kernel
theorem dX12_can_11 : decode cX12_can 11 = .ok (.invokestatic 169, 3) := by decide +kernel
theorem dX12_can_14 : decode cX12_can 14 = .ok (.ifCond .ne 6, 3) := by decide +kernel
theorem dX12_can_17 : decode cX12_can 17 = .ok (.bipush (-3), 2) := by decide +kernel
theorem dX12_can_19 : decode cX12_can 19 = .ok (.ireturn, 1) := by decide +kernel
theorem dX12_can_20 : decode cX12_can 20 = .ok (.aload_n 0, 1) := by decide +kernel
theorem dX12_can_21 : decode cX12_can 21 = .ok (.iload_n 1, 1) := by decide +kernel
theorem dX12_can_22 : decode cX12_can 22 = .ok (.iconst 1, 1) := by decide +kernel
theorem dX12_can_23 : decode cX12_can 23 = .ok (.invokevirtual 363, 3) := by decide +kernel
theorem dX12_can_26 : decode cX12_can 26 = .ok (.istore_n 3, 1) := by decide +kernel
theorem dX12_can_27 : decode cX12_can 27 = .ok (.iload_n 2, 1) := by decide +kernel
theorem dX12_can_28 : decode cX12_can 28 = .ok (.ifCond .ne 15, 3) := by decide +kernel
theorem dX12_can_31 : decode cX12_can 31 = .ok (.iload_n 3, 1) := by decide +kernel
theorem dX12_can_32 : decode cX12_can 32 = .ok (.ifCond .eq 7, 3) := by decide +kernel
theorem dX12_can_35 : decode cX12_can 35 = .ok (.iconst 1, 1) := by decide +kernel
theorem dX12_can_36 : decode cX12_can 36 = .ok (.goto 32, 3) := by decide +kernel
theorem dX12_can_39 : decode cX12_can 39 = .ok (.iconst 0, 1) := by decide +kernel
theorem dX12_can_40 : decode cX12_can 40 = .ok (.goto 28, 3) := by decide +kernel
theorem dX12_can_43 : decode cX12_can 43 = .ok (.iload_n 3, 1) := by decide +kernel
theorem dX12_can_44 : decode cX12_can 44 = .ok (.ifCond .eq 8, 3) := by decide +kernel
theorem dX12_can_47 : decode cX12_can 47 = .ok (.bipush (-2), 2) := by decide +kernel
theorem dX12_can_49 : decode cX12_can 49 = .ok (.goto 19, 3) := by decide +kernel
theorem dX12_can_52 : decode cX12_can 52 = .ok (.iload_n 2, 1) := by decide +kernel
theorem dX12_can_53 : decode cX12_can 53 = .ok (.iconst 1, 1) := by decide +kernel
theorem dX12_can_54 : decode cX12_can 54 = .ok (.if_icmp .ne 10, 3) := by decide +kernel
theorem dX12_can_57 : decode cX12_can 57 = .ok (.aload_n 0, 1) := by decide +kernel
theorem dX12_can_58 : decode cX12_can 58 = .ok (.getfield 350, 3) := by decide +kernel
theorem dX12_can_61 : decode cX12_can 61 = .ok (.goto 7, 3) := by decide +kernel
theorem dX12_can_64 : decode cX12_can 64 = .ok (.aload_n 0, 1) := by decide +kernel
theorem dX12_can_65 : decode cX12_can 65 = .ok (.getfield 357, 3) := by decide +kernel
theorem dX12_can_68 : decode cX12_can 68 = .ok (.ireturn, 1) := by decide +kernel
theorem dX12_pricesOf_0 : decode cX12_pricesOf 0 = .ok (.iconst 0, 1) := by decide +kernel
theorem dX12_pricesOf_1 : decode cX12_pricesOf 1 = .ok (.istore_n 2, 1) := by decide +kernel
theorem dX12_pricesOf_2 : decode cX12_pricesOf 2 = .ok (.iconst 0, 1) := by decide +kernel
theorem dX12_pricesOf_3 : decode cX12_pricesOf 3 = .ok (.istore_n 3, 1) := by decide +kernel
theorem dX12_pricesOf_4 : decode cX12_pricesOf 4 = .ok (.iload_n 3, 1) := by decide +kernel
theorem dX12_pricesOf_5 : decode cX12_pricesOf 5 = .ok (.bipush 10, 2) := by decide +kernel
theorem dX12_pricesOf_7 : decode cX12_pricesOf 7 = .ok (.if_icmp .ge 30, 3) := by decide +kernel
theorem dX12_pricesOf_10 : decode cX12_pricesOf 10 = .ok (.iload_n 2, 1) := by decide +kernel
theorem dX12_pricesOf_11 : decode cX12_pricesOf 11 = .ok (.iload_n 1, 1) := by decide +kernel
theorem dX12_pricesOf_12 : decode cX12_pricesOf 12 = .ok (.iload_n 3, 1) := by decide +kernel
theorem dX12_pricesOf_13 : decode cX12_pricesOf 13 = .ok (.invokestatic 199, 3) := by decide +kernel
theorem dX12_pricesOf_16 : decode cX12_pricesOf 16 = .ok (.ifCond .eq 12, 3) := by decide +kernel
theorem dX12_pricesOf_19 : decode cX12_pricesOf 19 = .ok (.aload_n 0, 1) := by decide +kernel
theorem dX12_pricesOf_20 : decode cX12_pricesOf 20 = .ok (.getfield 38, 3) := by decide +kernel
theorem dX12_pricesOf_23 : decode cX12_pricesOf 23 = .ok (.iload_n 3, 1) := by decide +kernel
theorem dX12_pricesOf_24 : decode cX12_pricesOf 24 = .ok (.iaload, 1) := by decide +kernel
theorem dX12_pricesOf_25 : decode cX12_pricesOf 25 = .ok (.goto 4, 3) := by decide +kernel
theorem dX12_pricesOf_28 : decode cX12_pricesOf 28 = .ok (.iconst 0, 1) := by decide +kernel
theorem dX12_pricesOf_29 : decode cX12_pricesOf 29 = .ok (.iadd, 1) := by decide +kernel
theorem dX12_pricesOf_30 : decode cX12_pricesOf 30 = .ok (.istore_n 2, 1) := by decide +kernel
theorem dX12_pricesOf_31 : decode cX12_pricesOf 31 = .ok (.iinc 3 1, 3) := by decide +kernel
theorem dX12_pricesOf_34 : decode cX12_pricesOf 34 = .ok (.goto (-30), 3) := by decide +kernel
theorem dX12_pricesOf_37 : decode cX12_pricesOf 37 = .ok (.iload_n 2, 1) := by decide +kernel
theorem dX12_pricesOf_38 : decode cX12_pricesOf 38 = .ok (.ireturn, 1) := by decide +kernel
theorem dX12_isBetter_0 : decode cX12_isBetter 0 = .ok (.iload_n 1, 1) := by decide +kernel
theorem dX12_isBetter_1 : decode cX12_isBetter 1 = .ok (.iload_n 3, 1) := by decide +kernel
theorem dX12_isBetter_2 : decode cX12_isBetter 2 = .ok (.if_icmp .gt 19, 3) := by decide +kernel
theorem dX12_isBetter_5 : decode cX12_isBetter 5 = .ok (.iload_n 1, 1) := by decide +kernel
theorem dX12_isBetter_6 : decode cX12_isBetter 6 = .ok (.iload_n 3, 1) := by decide +kernel
theorem dX12_isBetter_7 : decode cX12_isBetter 7 = .ok (.if_icmp .ne 18, 3) := by decide +kernel
theorem dX12_isBetter_10 : decode cX12_isBetter 10 = .ok (.iload_n 0, 1) := by decide +kernel
theorem dX12_isBetter_11 : decode cX12_isBetter 11 = .ok (.invokestatic 367, 3) := by decide +kernel
theorem dX12_isBetter_14 : decode cX12_isBetter 14 = .ok (.iload_n 2, 1) := by decide +kernel
theorem dX12_isBetter_15 : decode cX12_isBetter 15 = .ok (.invokestatic 367, 3) := by decide +kernel
theorem dX12_isBetter_18 : decode cX12_isBetter 18 = .ok (.if_icmp .ge 7, 3) := by decide +kernel
theorem dX12_isBetter_21 : decode cX12_isBetter 21 = .ok (.iconst 1, 1) := by decide +kernel
theorem dX12_isBetter_22 : decode cX12_isBetter 22 = .ok (.goto 4, 3) := by decide +kernel
theorem dX12_isBetter_25 : decode cX12_isBetter 25 = .ok (.iconst 0, 1) := by decide +kernel
theorem dX12_isBetter_26 : decode cX12_isBetter 26 = .ok (.ireturn, 1) := by decide +kernel
theorem dX12_bestOf_0 : decode cX12_bestOf 0 = .ok (.iconst 0, 1) := by decide +kernel
theorem dX12_bestOf_1 : decode cX12_bestOf 1 = .ok (.istore_n 2, 1) := by decide +kernel
theorem dX12_bestOf_2 : decode cX12_bestOf 2 = .ok (.iconst 1, 1) := by decide +kernel
theorem dX12_bestOf_3 : decode cX12_bestOf 3 = .ok (.istore_n 3, 1) := by decide +kernel
theorem dX12_bestOf_4 : decode cX12_bestOf 4 = .ok (.iload_n 3, 1) := by decide +kernel
theorem dX12_bestOf_5 : decode cX12_bestOf 5 = .ok (.sipush 1024, 3) := by decide +kernel
theorem dX12_bestOf_8 : decode cX12_bestOf 8 = .ok (.if_icmp .ge 46, 3) := by decide +kernel
theorem dX12_bestOf_11 : decode cX12_bestOf 11 = .ok (.iload_n 3, 1) := by decide +kernel
theorem dX12_bestOf_12 : decode cX12_bestOf 12 = .ok (.iload_n 1, 1) := by decide +kernel
theorem dX12_bestOf_13 : decode cX12_bestOf 13 = .ok (.iconst (-1), 1) := by decide +kernel
theorem dX12_bestOf_14 : decode cX12_bestOf 14 = .ok (.ixor, 1) := by decide +kernel
theorem dX12_bestOf_15 : decode cX12_bestOf 15 = .ok (.iand, 1) := by decide +kernel
theorem dX12_bestOf_16 : decode cX12_bestOf 16 = .ok (.ifCond .ne 32, 3) := by decide +kernel
theorem dX12_bestOf_19 : decode cX12_bestOf 19 = .ok (.iload_n 3, 1) := by decide +kernel
theorem dX12_bestOf_20 : decode cX12_bestOf 20 = .ok (.aload_n 0, 1) := by decide +kernel
theorem dX12_bestOf_21 : decode cX12_bestOf 21 = .ok (.iload_n 3, 1) := by decide +kernel
theorem dX12_bestOf_22 : decode cX12_bestOf 22 = .ok (.invokevirtual 370, 3) := by decide +kernel
theorem dX12_bestOf_25 : decode cX12_bestOf 25 = .ok (.iload_n 2, 1) := by decide +kernel
theorem dX12_bestOf_26 : decode cX12_bestOf 26 = .ok (.aload_n 0, 1) := by decide +kernel
theorem dX12_bestOf_27 : decode cX12_bestOf 27 = .ok (.iload_n 2, 1) := by decide +kernel
theorem dX12_bestOf_28 : decode cX12_bestOf 28 = .ok (.invokevirtual 370, 3) := by decide +kernel
theorem dX12_bestOf_31 : decode cX12_bestOf 31 = .ok (.invokestatic 373, 3) := by decide +kernel
theorem dX12_bestOf_34 : decode cX12_bestOf 34 = .ok (.ifCond .eq 14, 3) := by decide +kernel
theorem dX12_bestOf_37 : decode cX12_bestOf 37 = .ok (.aload_n 0, 1) := by decide +kernel
theorem dX12_bestOf_38 : decode cX12_bestOf 38 = .ok (.iload_n 3, 1) := by decide +kernel
theorem dX12_bestOf_39 : decode cX12_bestOf 39 = .ok (.iconst 1, 1) := by decide +kernel
theorem dX12_bestOf_40 : decode cX12_bestOf 40 = .ok (.invokevirtual 363, 3) := by decide +kernel
theorem dX12_bestOf_43 : decode cX12_bestOf 43 = .ok (.ifCond .eq 5, 3) := by decide +kernel
theorem dX12_bestOf_46 : decode cX12_bestOf 46 = .ok (.iload_n 3, 1) := by decide +kernel
theorem dX12_bestOf_47 : decode cX12_bestOf 47 = .ok (.istore_n 2, 1) := by decide +kernel
theorem dX12_bestOf_48 : decode cX12_bestOf 48 = .ok (.iinc 3 1, 3) := by decide +kernel
theorem dX12_bestOf_51 : decode cX12_bestOf 51 = .ok (.goto (-47), 3) := by decide +kernel
theorem dX12_bestOf_54 : decode cX12_bestOf 54 = .ok (.iload_n 2, 1) := by decide +kernel
theorem dX12_bestOf_55 : decode cX12_bestOf 55 = .ok (.ireturn, 1) := by decide +kernel
theorem dX12_best_0 : decode cX12_best 0 = .ok (.iload_n 1, 1) := by decide +kernel
theorem dX12_best_1 : decode cX12_best 1 = .ok (.iconst 0, 1) := by decide +kernel
theorem dX12_best_2 : decode cX12_best 2 = .ok (.iconst 1, 1) := by decide +kernel
theorem dX12_best_3 : decode cX12_best 3 = .ok (.invokestatic 169, 3) := by decide +kernel
theorem dX12_best_6 : decode cX12_best 6 = .ok (.ifCond .ne 5, 3) := by decide +kernel
theorem dX12_best_9 : decode cX12_best 9 = .ok (.iconst (-1), 1) := by decide +kernel
theorem dX12_best_10 : decode cX12_best 10 = .ok (.ireturn, 1) := by decide +kernel
theorem dX12_best_11 : decode cX12_best 11 = .ok (.aload_n 0, 1) := by decide +kernel
theorem dX12_best_12 : decode cX12_best 12 = .ok (.aload_n 0, 1) := by decide +kernel
theorem dX12_best_13 : decode cX12_best 13 = .ok (.getfield 217, 3) := by decide +kernel
theorem dX12_best_16 : decode cX12_best 16 = .ok (.invokevirtual 377, 3) := by decide +kernel
theorem dX12_best_19 : decode cX12_best 19 = .ok (.istore_n 2, 1) := by decide +kernel
theorem dX12_best_20 : decode cX12_best 20 = .ok (.iload_n 1, 1) := by decide +kernel
theorem dX12_best_21 : decode cX12_best 21 = .ok (.ifCond .ne 11, 3) := by decide +kernel
theorem dX12_best_24 : decode cX12_best 24 = .ok (.aload_n 0, 1) := by decide +kernel
theorem dX12_best_25 : decode cX12_best 25 = .ok (.iload_n 2, 1) := by decide +kernel
theorem dX12_best_26 : decode cX12_best 26 = .ok (.invokevirtual 370, 3) := by decide +kernel
theorem dX12_best_29 : decode cX12_best 29 = .ok (.goto 4, 3) := by decide +kernel
theorem dX12_best_32 : decode cX12_best 32 = .ok (.iload_n 2, 1) := by decide +kernel
theorem dX12_best_33 : decode cX12_best 33 = .ok (.ireturn, 1) := by decide +kernel
theorem dX12_smallest_0 : decode cX12_smallest 0 = .ok (.iconst 0, 1) := by decide +kernel
theorem dX12_smallest_1 : decode cX12_smallest 1 = .ok (.istore_n 1, 1) := by decide +kernel
theorem dX12_smallest_2 : decode cX12_smallest 2 = .ok (.iconst 1, 1) := by decide +kernel
theorem dX12_smallest_3 : decode cX12_smallest 3 = .ok (.istore_n 2, 1) := by decide +kernel
theorem dX12_smallest_4 : decode cX12_smallest 4 = .ok (.iload_n 2, 1) := by decide +kernel
theorem dX12_smallest_5 : decode cX12_smallest 5 = .ok (.sipush 1024, 3) := by decide +kernel
theorem dX12_smallest_8 : decode cX12_smallest 8 = .ok (.if_icmp .ge 46, 3) := by decide +kernel
theorem dX12_smallest_11 : decode cX12_smallest 11 = .ok (.iload_n 2, 1) := by decide +kernel
theorem dX12_smallest_12 : decode cX12_smallest 12 = .ok (.aload_n 0, 1) := by decide +kernel
theorem dX12_smallest_13 : decode cX12_smallest 13 = .ok (.getfield 217, 3) := by decide +kernel
theorem dX12_smallest_16 : decode cX12_smallest 16 = .ok (.iconst (-1), 1) := by decide +kernel
theorem dX12_smallest_17 : decode cX12_smallest 17 = .ok (.ixor, 1) := by decide +kernel
theorem dX12_smallest_18 : decode cX12_smallest 18 = .ok (.iand, 1) := by decide +kernel
theorem dX12_smallest_19 : decode cX12_smallest 19 = .ok (.ifCond .ne 29, 3) := by decide +kernel
theorem dX12_smallest_22 : decode cX12_smallest 22 = .ok (.iload_n 1, 1) := by decide +kernel
theorem dX12_smallest_23 : decode cX12_smallest 23 = .ok (.ifCond .eq 14, 3) := by decide +kernel
theorem dX12_smallest_26 : decode cX12_smallest 26 = .ok (.iload_n 2, 1) := by decide +kernel
theorem dX12_smallest_27 : decode cX12_smallest 27 = .ok (.invokestatic 367, 3) := by decide +kernel
theorem dX12_smallest_30 : decode cX12_smallest 30 = .ok (.iload_n 1, 1) := by decide +kernel
theorem dX12_smallest_31 : decode cX12_smallest 31 = .ok (.invokestatic 367, 3) := by decide +kernel
theorem dX12_smallest_34 : decode cX12_smallest 34 = .ok (.if_icmp .ge 14, 3) := by decide +kernel
theorem dX12_smallest_37 : decode cX12_smallest 37 = .ok (.aload_n 0, 1) := by decide +kernel
theorem dX12_smallest_38 : decode cX12_smallest 38 = .ok (.iload_n 2, 1) := by decide +kernel
theorem dX12_smallest_39 : decode cX12_smallest 39 = .ok (.iconst 1, 1) := by decide +kernel
theorem dX12_smallest_40 : decode cX12_smallest 40 = .ok (.invokevirtual 363, 3) := by decide +kernel
theorem dX12_smallest_43 : decode cX12_smallest 43 = .ok (.ifCond .ne 5, 3) := by decide +kernel
theorem dX12_smallest_46 : decode cX12_smallest 46 = .ok (.iload_n 2, 1) := by decide +kernel
theorem dX12_smallest_47 : decode cX12_smallest 47 = .ok (.istore_n 1, 1) := by decide +kernel
theorem dX12_smallest_48 : decode cX12_smallest 48 = .ok (.iinc 2 1, 3) := by decide +kernel
theorem dX12_smallest_51 : decode cX12_smallest 51 = .ok (.goto (-47), 3) := by decide +kernel
theorem dX12_smallest_54 : decode cX12_smallest 54 = .ok (.iload_n 1, 1) := by decide +kernel
theorem dX12_smallest_55 : decode cX12_smallest 55 = .ok (.ireturn, 1) := by decide +kernel
theorem dX12_costs_0 : decode cX12_costs 0 = .ok (.aload_n 0, 1) := by decide +kernel
theorem dX12_costs_1 : decode cX12_costs 1 = .ok (.iload_n 1, 1) := by decide +kernel
theorem dX12_costs_2 : decode cX12_costs 2 = .ok (.invokevirtual 220, 3) := by decide +kernel
theorem dX12_costs_5 : decode cX12_costs 5 = .ok (.ifCond .ne 7, 3) := by decide +kernel
theorem dX12_costs_8 : decode cX12_costs 8 = .ok (.ldc_w 380, 3) := by decide +kernel
theorem dX12_costs_11 : decode cX12_costs 11 = .ok (.ireturn, 1) := by decide +kernel
theorem dX12_costs_12 : decode cX12_costs 12 = .ok (.aload_n 0, 1) := by decide +kernel
theorem dX12_costs_13 : decode cX12_costs 13 = .ok (.aload_n 0, 1) := by decide +kernel
theorem dX12_costs_14 : decode cX12_costs 14 = .ok (.getfield 217, 3) := by decide +kernel
theorem dX12_costs_17 : decode cX12_costs 17 = .ok (.invokevirtual 377, 3) := by decide +kernel
theorem dX12_costs_20 : decode cX12_costs 20 = .ok (.istore_n 2, 1) := by decide +kernel
theorem dX12_costs_21 : decode cX12_costs 21 = .ok (.aload_n 0, 1) := by decide +kernel
theorem dX12_costs_22 : decode cX12_costs 22 = .ok (.aload_n 0, 1) := by decide +kernel
theorem dX12_costs_23 : decode cX12_costs 23 = .ok (.getfield 217, 3) := by decide +kernel
theorem dX12_costs_26 : decode cX12_costs 26 = .ok (.iconst 1, 1) := by decide +kernel
theorem dX12_costs_27 : decode cX12_costs 27 = .ok (.iload_n 1, 1) := by decide +kernel
theorem dX12_costs_28 : decode cX12_costs 28 = .ok (.ishl, 1) := by decide +kernel
theorem dX12_costs_29 : decode cX12_costs 29 = .ok (.iconst (-1), 1) := by decide +kernel
theorem dX12_costs_30 : decode cX12_costs 30 = .ok (.ixor, 1) := by decide +kernel
theorem dX12_costs_31 : decode cX12_costs 31 = .ok (.iand, 1) := by decide +kernel
theorem dX12_costs_32 : decode cX12_costs 32 = .ok (.invokevirtual 377, 3) := by decide +kernel
theorem dX12_costs_35 : decode cX12_costs 35 = .ok (.istore_n 3, 1) := by decide +kernel
theorem dX12_costs_36 : decode cX12_costs 36 = .ok (.aload_n 0, 1) := by decide +kernel
theorem dX12_costs_37 : decode cX12_costs 37 = .ok (.iload_n 3, 1) := by decide +kernel
theorem dX12_costs_38 : decode cX12_costs 38 = .ok (.invokevirtual 370, 3) := by decide +kernel
theorem dX12_costs_41 : decode cX12_costs 41 = .ok (.aload_n 0, 1) := by decide +kernel
theorem dX12_costs_42 : decode cX12_costs 42 = .ok (.iload_n 2, 1) := by decide +kernel
theorem dX12_costs_43 : decode cX12_costs 43 = .ok (.invokevirtual 370, 3) := by decide +kernel
theorem dX12_costs_46 : decode cX12_costs 46 = .ok (.iload_n 2, 1) := by decide +kernel
theorem dX12_costs_47 : decode cX12_costs 47 = .ok (.iload_n 1, 1) := by decide +kernel
theorem dX12_costs_48 : decode cX12_costs 48 = .ok (.invokestatic 199, 3) := by decide +kernel
theorem dX12_costs_51 : decode cX12_costs 51 = .ok (.ifCond .eq 12, 3) := by decide +kernel
theorem dX12_costs_54 : decode cX12_costs 54 = .ok (.aload_n 0, 1) := by decide +kernel
theorem dX12_costs_55 : decode cX12_costs 55 = .ok (.getfield 38, 3) := by decide +kernel
theorem dX12_costs_58 : decode cX12_costs 58 = .ok (.iload_n 1, 1) := by decide +kernel
theorem dX12_costs_59 : decode cX12_costs 59 = .ok (.iaload, 1) := by decide +kernel
theorem dX12_costs_60 : decode cX12_costs 60 = .ok (.goto 4, 3) := by decide +kernel
theorem dX12_costs_63 : decode cX12_costs 63 = .ok (.iconst 0, 1) := by decide +kernel
theorem dX12_costs_64 : decode cX12_costs 64 = .ok (.isub, 1) := by decide +kernel
theorem dX12_costs_65 : decode cX12_costs 65 = .ok (.isub, 1) := by decide +kernel
theorem dX12_costs_66 : decode cX12_costs 66 = .ok (.ireturn, 1) := by decide +kernel
theorem dX12_laysWho_0 : decode cX12_laysWho 0 = .ok (.aload_n 0, 1) := by decide +kernel
theorem dX12_laysWho_1 : decode cX12_laysWho 1 = .ok (.iconst 0, 1) := by decide +kernel
theorem dX12_laysWho_2 : decode cX12_laysWho 2 = .ok (.putfield 381, 3) := by decide +kernel
theorem dX12_laysWho_5 : decode cX12_laysWho 5 = .ok (.iconst 0, 1) := by decide +kernel
theorem dX12_laysWho_6 : decode cX12_laysWho 6 = .ok (.istore_n 2, 1) := by decide +kernel
theorem dX12_laysWho_7 : decode cX12_laysWho 7 = .ok (.iload_n 2, 1) := by decide +kernel
theorem dX12_laysWho_8 : decode cX12_laysWho 8 = .ok (.bipush 10, 2) := by decide +kernel
theorem dX12_laysWho_10 : decode cX12_laysWho 10 = .ok (.if_icmp .ge 40, 3) := by decide +kernel
theorem dX12_laysWho_13 : decode cX12_laysWho 13 = .ok (.iload_n 1, 1) := by decide +kernel
theorem dX12_laysWho_14 : decode cX12_laysWho 14 = .ok (.iload_n 2, 1) := by decide +kernel
theorem dX12_laysWho_15 : decode cX12_laysWho 15 = .ok (.invokestatic 199, 3) := by decide +kernel
theorem dX12_laysWho_18 : decode cX12_laysWho 18 = .ok (.ifCond .ne 6, 3) := by decide +kernel
theorem dX12_laysWho_21 : decode cX12_laysWho 21 = .ok (.goto 23, 3) := by decide +kernel
theorem dX12_laysWho_24 : decode cX12_laysWho 24 = .ok (.aload_n 0, 1) := by decide +kernel
theorem dX12_laysWho_25 : decode cX12_laysWho 25 = .ok (.getfield 101, 3) := by decide +kernel
theorem dX12_laysWho_28 : decode cX12_laysWho 28 = .ok (.aload_n 0, 1) := by decide +kernel
theorem dX12_laysWho_29 : decode cX12_laysWho 29 = .ok (.getfield 381, 3) := by decide +kernel
theorem dX12_laysWho_32 : decode cX12_laysWho 32 = .ok (.iload_n 2, 1) := by decide +kernel
theorem dX12_laysWho_33 : decode cX12_laysWho 33 = .ok (.iastore, 1) := by decide +kernel
theorem dX12_laysWho_34 : decode cX12_laysWho 34 = .ok (.aload_n 0, 1) := by decide +kernel
theorem dX12_laysWho_35 : decode cX12_laysWho 35 = .ok (.aload_n 0, 1) := by decide +kernel
theorem dX12_laysWho_36 : decode cX12_laysWho 36 = .ok (.getfield 381, 3) := by decide +kernel
theorem dX12_laysWho_39 : decode cX12_laysWho 39 = .ok (.iconst 1, 1) := by decide +kernel
theorem dX12_laysWho_40 : decode cX12_laysWho 40 = .ok (.iadd, 1) := by decide +kernel
theorem dX12_laysWho_41 : decode cX12_laysWho 41 = .ok (.putfield 381, 3) := by decide +kernel
theorem dX12_laysWho_44 : decode cX12_laysWho 44 = .ok (.iinc 2 1, 3) := by decide +kernel
theorem dX12_laysWho_47 : decode cX12_laysWho 47 = .ok (.goto (-40), 3) := by decide +kernel
theorem dX12_laysWho_50 : decode cX12_laysWho 50 = .ok (.return_, 1) := by decide +kernel
theorem dX12_takesRooms_0 : decode cX12_takesRooms 0 = .ok (.iconst 0, 1) := by decide +kernel
theorem dX12_takesRooms_1 : decode cX12_takesRooms 1 = .ok (.istore_n 3, 1) := by decide +kernel
theorem dX12_takesRooms_2 : decode cX12_takesRooms 2 = .ok (.iload_n 3, 1) := by decide +kernel
theorem dX12_takesRooms_3 : decode cX12_takesRooms 3 = .ok (.iload_n 2, 1) := by decide +kernel
theorem dX12_takesRooms_4 : decode cX12_takesRooms 4 = .ok (.if_icmp .ge 125, 3) := by decide +kernel
theorem dX12_takesRooms_7 : decode cX12_takesRooms 7 = .ok (.aload_n 0, 1) := by decide +kernel
theorem dX12_takesRooms_8 : decode cX12_takesRooms 8 = .ok (.getfield 7, 3) := by decide +kernel
theorem dX12_takesRooms_11 : decode cX12_takesRooms 11 = .ok (.iload_n 3, 1) := by decide +kernel
theorem dX12_takesRooms_12 : decode cX12_takesRooms 12 = .ok (.baload, 1) := by decide +kernel
theorem dX12_takesRooms_13 : decode cX12_takesRooms 13 = .ok (.istore 4, 2) := by decide +kernel
theorem dX12_takesRooms_15 : decode cX12_takesRooms 15 = .ok (.aload_n 0, 1) := by decide +kernel
theorem dX12_takesRooms_16 : decode cX12_takesRooms 16 = .ok (.iload 4, 2) := by decide +kernel
theorem dX12_takesRooms_18 : decode cX12_takesRooms 18 = .ok (.invokevirtual 223, 3) := by decide +kernel
theorem dX12_takesRooms_21 : decode cX12_takesRooms 21 = .ok (.ifCond .ne 5, 3) := by decide +kernel
theorem dX12_takesRooms_24 : decode cX12_takesRooms 24 = .ok (.iconst 0, 1) := by decide +kernel
theorem dX12_takesRooms_25 : decode cX12_takesRooms 25 = .ok (.ireturn, 1) := by decide +kernel
theorem dX12_takesRooms_26 : decode cX12_takesRooms 26 = .ok (.aload_n 0, 1) := by decide +kernel
theorem dX12_takesRooms_27 : decode cX12_takesRooms 27 = .ok (.iload 4, 2) := by decide +kernel
theorem dX12_takesRooms_29 : decode cX12_takesRooms 29 = .ok (.invokevirtual 226, 3) := by decide +kernel
theorem dX12_takesRooms_32 : decode cX12_takesRooms 32 = .ok (.istore 5, 2) := by decide +kernel
theorem dX12_takesRooms_34 : decode cX12_takesRooms 34 = .ok (.iload 5, 2) := by decide +kernel
theorem dX12_takesRooms_36 : decode cX12_takesRooms 36 = .ok (.iconst (-1), 1) := by decide +kernel
theorem dX12_takesRooms_37 : decode cX12_takesRooms 37 = .ok (.if_icmp .eq 14, 3) := by decide +kernel
theorem dX12_takesRooms_40 : decode cX12_takesRooms 40 = .ok (.iload_n 1, 1) := by decide +kernel
theorem dX12_takesRooms_41 : decode cX12_takesRooms 41 = .ok (.iload 5, 2) := by decide +kernel
theorem dX12_takesRooms_43 : decode cX12_takesRooms 43 = .ok (.invokestatic 199, 3) := by decide +kernel
theorem dX12_takesRooms_46 : decode cX12_takesRooms 46 = .ok (.ifCond .ne 5, 3) := by decide +kernel
theorem dX12_takesRooms_49 : decode cX12_takesRooms 49 = .ok (.iconst 0, 1) := by decide +kernel
theorem dX12_takesRooms_50 : decode cX12_takesRooms 50 = .ok (.ireturn, 1) := by decide +kernel
theorem dX12_takesRooms_51 : decode cX12_takesRooms 51 = .ok (.iload_n 3, 1) := by decide +kernel
theorem dX12_takesRooms_52 : decode cX12_takesRooms 52 = .ok (.istore 6, 2) := by decide +kernel
theorem dX12_takesRooms_54 : decode cX12_takesRooms 54 = .ok (.iload 6, 2) := by decide +kernel
theorem dX12_takesRooms_56 : decode cX12_takesRooms 56 = .ok (.ifCond .le 58, 3) := by decide +kernel
theorem dX12_takesRooms_59 : decode cX12_takesRooms 59 = .ok (.aload_n 0, 1) := by decide +kernel
theorem dX12_takesRooms_60 : decode cX12_takesRooms 60 = .ok (.getfield 104, 3) := by decide +kernel
theorem dX12_takesRooms_63 : decode cX12_takesRooms 63 = .ok (.iload 6, 2) := by decide +kernel
theorem dX12_takesRooms_65 : decode cX12_takesRooms 65 = .ok (.iconst 1, 1) := by decide +kernel
theorem dX12_takesRooms_66 : decode cX12_takesRooms 66 = .ok (.isub, 1) := by decide +kernel
theorem dX12_takesRooms_67 : decode cX12_takesRooms 67 = .ok (.iaload, 1) := by decide +kernel
theorem dX12_takesRooms_68 : decode cX12_takesRooms 68 = .ok (.iload 4, 2) := by decide +kernel
theorem dX12_takesRooms_70 : decode cX12_takesRooms 70 = .ok (.if_icmp .lt 44, 3) := by decide +kernel
theorem dX12_takesRooms_73 : decode cX12_takesRooms 73 = .ok (.aload_n 0, 1) := by decide +kernel
theorem dX12_takesRooms_74 : decode cX12_takesRooms 74 = .ok (.getfield 104, 3) := by decide +kernel
theorem dX12_takesRooms_77 : decode cX12_takesRooms 77 = .ok (.iload 6, 2) := by decide +kernel
theorem dX12_takesRooms_79 : decode cX12_takesRooms 79 = .ok (.iconst 1, 1) := by decide +kernel
theorem dX12_takesRooms_80 : decode cX12_takesRooms 80 = .ok (.isub, 1) := by decide +kernel
theorem dX12_takesRooms_81 : decode cX12_takesRooms 81 = .ok (.iaload, 1) := by decide +kernel
theorem dX12_takesRooms_82 : decode cX12_takesRooms 82 = .ok (.iload 4, 2) := by decide +kernel
theorem dX12_takesRooms_84 : decode cX12_takesRooms 84 = .ok (.if_icmp .ne 5, 3) := by decide +kernel
theorem dX12_takesRooms_87 : decode cX12_takesRooms 87 = .ok (.iconst 0, 1) := by decide +kernel
theorem dX12_takesRooms_88 : decode cX12_takesRooms 88 = .ok (.ireturn, 1) := by decide +kernel
theorem dX12_takesRooms_89 : decode cX12_takesRooms 89 = .ok (.aload_n 0, 1) := by decide +kernel
theorem dX12_takesRooms_90 : decode cX12_takesRooms 90 = .ok (.getfield 104, 3) := by decide +kernel
theorem dX12_takesRooms_93 : decode cX12_takesRooms 93 = .ok (.iload 6, 2) := by decide +kernel
theorem dX12_takesRooms_95 : decode cX12_takesRooms 95 = .ok (.aload_n 0, 1) := by decide +kernel
theorem dX12_takesRooms_96 : decode cX12_takesRooms 96 = .ok (.getfield 104, 3) := by decide +kernel
theorem dX12_takesRooms_99 : decode cX12_takesRooms 99 = .ok (.iload 6, 2) := by decide +kernel
theorem dX12_takesRooms_101 : decode cX12_takesRooms 101 = .ok (.iconst 1, 1) := by decide +kernel
theorem dX12_takesRooms_102 : decode cX12_takesRooms 102 = .ok (.isub, 1) := by decide +kernel
theorem dX12_takesRooms_103 : decode cX12_takesRooms 103 = .ok (.iaload, 1) := by decide +kernel
theorem dX12_takesRooms_104 : decode cX12_takesRooms 104 = .ok (.iastore, 1) := by decide +kernel
theorem dX12_takesRooms_105 : decode cX12_takesRooms 105 = .ok (.iload 6, 2) := by decide +kernel
theorem dX12_takesRooms_107 : decode cX12_takesRooms 107 = .ok (.iconst 1, 1) := by decide +kernel
theorem dX12_takesRooms_108 : decode cX12_takesRooms 108 = .ok (.isub, 1) := by decide +kernel
theorem dX12_takesRooms_109 : decode cX12_takesRooms 109 = .ok (.istore 6, 2) := by decide +kernel
theorem dX12_takesRooms_111 : decode cX12_takesRooms 111 = .ok (.goto (-57), 3) := by decide +kernel
theorem dX12_takesRooms_114 : decode cX12_takesRooms 114 = .ok (.aload_n 0, 1) := by decide +kernel
theorem dX12_takesRooms_115 : decode cX12_takesRooms 115 = .ok (.getfield 104, 3) := by decide +kernel
theorem dX12_takesRooms_118 : decode cX12_takesRooms 118 = .ok (.iload 6, 2) := by decide +kernel
theorem dX12_takesRooms_120 : decode cX12_takesRooms 120 = .ok (.iload 4, 2) := by decide +kernel
theorem dX12_takesRooms_122 : decode cX12_takesRooms 122 = .ok (.iastore, 1) := by decide +kernel
theorem dX12_takesRooms_123 : decode cX12_takesRooms 123 = .ok (.iinc 3 1, 3) := by decide +kernel
theorem dX12_takesRooms_126 : decode cX12_takesRooms 126 = .ok (.goto (-124), 3) := by decide +kernel
theorem dX12_takesRooms_129 : decode cX12_takesRooms 129 = .ok (.iconst 1, 1) := by decide +kernel
theorem dX12_takesRooms_130 : decode cX12_takesRooms 130 = .ok (.ireturn, 1) := by decide +kernel
theorem dX12_ordersBy_0 : decode cX12_ordersBy 0 = .ok (.iload_n 2, 1) := by decide +kernel
theorem dX12_ordersBy_1 : decode cX12_ordersBy 1 = .ok (.istore 4, 2) := by decide +kernel
theorem dX12_ordersBy_3 : decode cX12_ordersBy 3 = .ok (.iload_n 3, 1) := by decide +kernel
theorem dX12_ordersBy_4 : decode cX12_ordersBy 4 = .ok (.istore 5, 2) := by decide +kernel
theorem dX12_ordersBy_6 : decode cX12_ordersBy 6 = .ok (.iconst 0, 1) := by decide +kernel
theorem dX12_ordersBy_7 : decode cX12_ordersBy 7 = .ok (.istore 6, 2) := by decide +kernel
theorem dX12_ordersBy_9 : decode cX12_ordersBy 9 = .ok (.iconst 0, 1) := by decide +kernel
theorem dX12_ordersBy_10 : decode cX12_ordersBy 10 = .ok (.istore 7, 2) := by decide +kernel
theorem dX12_ordersBy_12 : decode cX12_ordersBy 12 = .ok (.iload 7, 2) := by decide +kernel
theorem dX12_ordersBy_14 : decode cX12_ordersBy 14 = .ok (.iload_n 1, 1) := by decide +kernel
theorem dX12_ordersBy_15 : decode cX12_ordersBy 15 = .ok (.if_icmp .ge 98, 3) := by decide +kernel
theorem dX12_ordersBy_18 : decode cX12_ordersBy 18 = .ok (.iload 5, 2) := by decide +kernel
theorem dX12_ordersBy_20 : decode cX12_ordersBy 20 = .ok (.iload_n 1, 1) := by decide +kernel
theorem dX12_ordersBy_21 : decode cX12_ordersBy 21 = .ok (.iload 7, 2) := by decide +kernel
theorem dX12_ordersBy_23 : decode cX12_ordersBy 23 = .ok (.isub, 1) := by decide +kernel
theorem dX12_ordersBy_24 : decode cX12_ordersBy 24 = .ok (.idiv, 1) := by decide +kernel
theorem dX12_ordersBy_25 : decode cX12_ordersBy 25 = .ok (.istore 5, 2) := by decide +kernel
theorem dX12_ordersBy_27 : decode cX12_ordersBy 27 = .ok (.iload 4, 2) := by decide +kernel
theorem dX12_ordersBy_29 : decode cX12_ordersBy 29 = .ok (.iload 5, 2) := by decide +kernel
theorem dX12_ordersBy_31 : decode cX12_ordersBy 31 = .ok (.idiv, 1) := by decide +kernel
theorem dX12_ordersBy_32 : decode cX12_ordersBy 32 = .ok (.istore 8, 2) := by decide +kernel
theorem dX12_ordersBy_34 : decode cX12_ordersBy 34 = .ok (.iload 4, 2) := by decide +kernel
theorem dX12_ordersBy_36 : decode cX12_ordersBy 36 = .ok (.iload 5, 2) := by decide +kernel
theorem dX12_ordersBy_38 : decode cX12_ordersBy 38 = .ok (.irem, 1) := by decide +kernel
theorem dX12_ordersBy_39 : decode cX12_ordersBy 39 = .ok (.istore 4, 2) := by decide +kernel
theorem dX12_ordersBy_41 : decode cX12_ordersBy 41 = .ok (.iconst 0, 1) := by decide +kernel
theorem dX12_ordersBy_42 : decode cX12_ordersBy 42 = .ok (.istore 9, 2) := by decide +kernel
theorem dX12_ordersBy_44 : decode cX12_ordersBy 44 = .ok (.iload 6, 2) := by decide +kernel
theorem dX12_ordersBy_46 : decode cX12_ordersBy 46 = .ok (.iload 9, 2) := by decide +kernel
theorem dX12_ordersBy_48 : decode cX12_ordersBy 48 = .ok (.invokestatic 199, 3) := by decide +kernel
theorem dX12_ordersBy_51 : decode cX12_ordersBy 51 = .ok (.ifCond .ne 8, 3) := by decide +kernel
theorem dX12_ordersBy_54 : decode cX12_ordersBy 54 = .ok (.iload 8, 2) := by decide +kernel
theorem dX12_ordersBy_56 : decode cX12_ordersBy 56 = .ok (.ifCond .le 33, 3) := by decide +kernel
theorem dX12_ordersBy_59 : decode cX12_ordersBy 59 = .ok (.iload 6, 2) := by decide +kernel
theorem dX12_ordersBy_61 : decode cX12_ordersBy 61 = .ok (.iload 9, 2) := by decide +kernel
theorem dX12_ordersBy_63 : decode cX12_ordersBy 63 = .ok (.invokestatic 199, 3) := by decide +kernel
theorem dX12_ordersBy_66 : decode cX12_ordersBy 66 = .ok (.ifCond .eq 8, 3) := by decide +kernel
theorem dX12_ordersBy_69 : decode cX12_ordersBy 69 = .ok (.iload 8, 2) := by decide +kernel
theorem dX12_ordersBy_71 : decode cX12_ordersBy 71 = .ok (.goto 7, 3) := by decide +kernel
theorem dX12_ordersBy_74 : decode cX12_ordersBy 74 = .ok (.iload 8, 2) := by decide +kernel
theorem dX12_ordersBy_76 : decode cX12_ordersBy 76 = .ok (.iconst 1, 1) := by decide +kernel
theorem dX12_ordersBy_77 : decode cX12_ordersBy 77 = .ok (.isub, 1) := by decide +kernel
theorem dX12_ordersBy_78 : decode cX12_ordersBy 78 = .ok (.istore 8, 2) := by decide +kernel
theorem dX12_ordersBy_80 : decode cX12_ordersBy 80 = .ok (.iload 9, 2) := by decide +kernel
theorem dX12_ordersBy_82 : decode cX12_ordersBy 82 = .ok (.iconst 1, 1) := by decide +kernel
theorem dX12_ordersBy_83 : decode cX12_ordersBy 83 = .ok (.iadd, 1) := by decide +kernel
theorem dX12_ordersBy_84 : decode cX12_ordersBy 84 = .ok (.istore 9, 2) := by decide +kernel
theorem dX12_ordersBy_86 : decode cX12_ordersBy 86 = .ok (.goto (-42), 3) := by decide +kernel
theorem dX12_ordersBy_89 : decode cX12_ordersBy 89 = .ok (.iload 6, 2) := by decide +kernel
theorem dX12_ordersBy_91 : decode cX12_ordersBy 91 = .ok (.iconst 1, 1) := by decide +kernel
theorem dX12_ordersBy_92 : decode cX12_ordersBy 92 = .ok (.iload 9, 2) := by decide +kernel
theorem dX12_ordersBy_94 : decode cX12_ordersBy 94 = .ok (.ishl, 1) := by decide +kernel
theorem dX12_ordersBy_95 : decode cX12_ordersBy 95 = .ok (.ior, 1) := by decide +kernel
theorem dX12_ordersBy_96 : decode cX12_ordersBy 96 = .ok (.istore 6, 2) := by decide +kernel
theorem dX12_ordersBy_98 : decode cX12_ordersBy 98 = .ok (.aload_n 0, 1) := by decide +kernel
theorem dX12_ordersBy_99 : decode cX12_ordersBy 99 = .ok (.getfield 113, 3) := by decide +kernel
theorem dX12_ordersBy_102 : decode cX12_ordersBy 102 = .ok (.iload 7, 2) := by decide +kernel
theorem dX12_ordersBy_104 : decode cX12_ordersBy 104 = .ok (.iload 9, 2) := by decide +kernel
theorem dX12_ordersBy_106 : decode cX12_ordersBy 106 = .ok (.iastore, 1) := by decide +kernel
theorem dX12_ordersBy_107 : decode cX12_ordersBy 107 = .ok (.iinc 7 1, 3) := by decide +kernel
theorem dX12_ordersBy_110 : decode cX12_ordersBy 110 = .ok (.goto (-98), 3) := by decide +kernel
theorem dX12_ordersBy_113 : decode cX12_ordersBy 113 = .ok (.return_, 1) := by decide +kernel
theorem dX12_orders_0 : decode cX12_orders 0 = .ok (.iconst 1, 1) := by decide +kernel
theorem dX12_orders_1 : decode cX12_orders 1 = .ok (.istore_n 1, 1) := by decide +kernel
theorem dX12_orders_2 : decode cX12_orders 2 = .ok (.iconst 2, 1) := by decide +kernel
theorem dX12_orders_3 : decode cX12_orders 3 = .ok (.istore_n 2, 1) := by decide +kernel
theorem dX12_orders_4 : decode cX12_orders 4 = .ok (.iload_n 2, 1) := by decide +kernel
theorem dX12_orders_5 : decode cX12_orders 5 = .ok (.iload_n 0, 1) := by decide +kernel
theorem dX12_orders_6 : decode cX12_orders 6 = .ok (.if_icmp .gt 13, 3) := by decide +kernel
theorem dX12_orders_9 : decode cX12_orders 9 = .ok (.iload_n 1, 1) := by decide +kernel
theorem dX12_orders_10 : decode cX12_orders 10 = .ok (.iload_n 2, 1) := by decide +kernel
theorem dX12_orders_11 : decode cX12_orders 11 = .ok (.imul, 1) := by decide +kernel
theorem dX12_orders_12 : decode cX12_orders 12 = .ok (.istore_n 1, 1) := by decide +kernel
theorem dX12_orders_13 : decode cX12_orders 13 = .ok (.iinc 2 1, 3) := by decide +kernel
theorem dX12_orders_16 : decode cX12_orders 16 = .ok (.goto (-12), 3) := by decide +kernel
theorem dX12_orders_19 : decode cX12_orders 19 = .ok (.iload_n 1, 1) := by decide +kernel
theorem dX12_orders_20 : decode cX12_orders 20 = .ok (.ireturn, 1) := by decide +kernel
theorem dX12_firstRooms_0 : decode cX12_firstRooms 0 = .ok (.aload_n 0, 1) := by decide +kernel
theorem dX12_firstRooms_1 : decode cX12_firstRooms 1 = .ok (.getfield 381, 3) := by decide +kernel
theorem dX12_firstRooms_4 : decode cX12_firstRooms 4 = .ok (.invokestatic 384, 3) := by decide +kernel
theorem dX12_firstRooms_7 : decode cX12_firstRooms 7 = .ok (.istore_n 1, 1) := by decide +kernel
theorem dX12_firstRooms_8 : decode cX12_firstRooms 8 = .ok (.iconst 0, 1) := by decide +kernel
theorem dX12_firstRooms_9 : decode cX12_firstRooms 9 = .ok (.istore_n 2, 1) := by decide +kernel
theorem dX12_firstRooms_10 : decode cX12_firstRooms 10 = .ok (.iload_n 2, 1) := by decide +kernel
theorem dX12_firstRooms_11 : decode cX12_firstRooms 11 = .ok (.iload_n 1, 1) := by decide +kernel
theorem dX12_firstRooms_12 : decode cX12_firstRooms 12 = .ok (.if_icmp .ge 71, 3) := by decide +kernel
theorem dX12_firstRooms_15 : decode cX12_firstRooms 15 = .ok (.aload_n 0, 1) := by decide +kernel
theorem dX12_firstRooms_16 : decode cX12_firstRooms 16 = .ok (.aload_n 0, 1) := by decide +kernel
theorem dX12_firstRooms_17 : decode cX12_firstRooms 17 = .ok (.getfield 381, 3) := by decide +kernel
theorem dX12_firstRooms_20 : decode cX12_firstRooms 20 = .ok (.iload_n 2, 1) := by decide +kernel
theorem dX12_firstRooms_21 : decode cX12_firstRooms 21 = .ok (.iload_n 1, 1) := by decide +kernel
theorem dX12_firstRooms_22 : decode cX12_firstRooms 22 = .ok (.invokevirtual 387, 3) := by decide +kernel
theorem dX12_firstRooms_25 : decode cX12_firstRooms 25 = .ok (.iconst 0, 1) := by decide +kernel
theorem dX12_firstRooms_26 : decode cX12_firstRooms 26 = .ok (.istore_n 3, 1) := by decide +kernel
theorem dX12_firstRooms_27 : decode cX12_firstRooms 27 = .ok (.iload_n 3, 1) := by decide +kernel
theorem dX12_firstRooms_28 : decode cX12_firstRooms 28 = .ok (.aload_n 0, 1) := by decide +kernel
theorem dX12_firstRooms_29 : decode cX12_firstRooms 29 = .ok (.getfield 381, 3) := by decide +kernel
theorem dX12_firstRooms_32 : decode cX12_firstRooms 32 = .ok (.if_icmp .ge 31, 3) := by decide +kernel
theorem dX12_firstRooms_35 : decode cX12_firstRooms 35 = .ok (.aload_n 0, 1) := by decide +kernel
theorem dX12_firstRooms_36 : decode cX12_firstRooms 36 = .ok (.getfield 32, 3) := by decide +kernel
theorem dX12_firstRooms_39 : decode cX12_firstRooms 39 = .ok (.aload_n 0, 1) := by decide +kernel
theorem dX12_firstRooms_40 : decode cX12_firstRooms 40 = .ok (.getfield 101, 3) := by decide +kernel
theorem dX12_firstRooms_43 : decode cX12_firstRooms 43 = .ok (.iload_n 3, 1) := by decide +kernel
theorem dX12_firstRooms_44 : decode cX12_firstRooms 44 = .ok (.iaload, 1) := by decide +kernel
theorem dX12_firstRooms_45 : decode cX12_firstRooms 45 = .ok (.aload_n 0, 1) := by decide +kernel
theorem dX12_firstRooms_46 : decode cX12_firstRooms 46 = .ok (.getfield 104, 3) := by decide +kernel
theorem dX12_firstRooms_49 : decode cX12_firstRooms 49 = .ok (.aload_n 0, 1) := by decide +kernel
theorem dX12_firstRooms_50 : decode cX12_firstRooms 50 = .ok (.getfield 113, 3) := by decide +kernel
theorem dX12_firstRooms_53 : decode cX12_firstRooms 53 = .ok (.iload_n 3, 1) := by decide +kernel
theorem dX12_firstRooms_54 : decode cX12_firstRooms 54 = .ok (.iaload, 1) := by decide +kernel
theorem dX12_firstRooms_55 : decode cX12_firstRooms 55 = .ok (.iaload, 1) := by decide +kernel
theorem dX12_firstRooms_56 : decode cX12_firstRooms 56 = .ok (.iastore, 1) := by decide +kernel
theorem dX12_firstRooms_57 : decode cX12_firstRooms 57 = .ok (.iinc 3 1, 3) := by decide +kernel
theorem dX12_firstRooms_60 : decode cX12_firstRooms 60 = .ok (.goto (-33), 3) := by decide +kernel
theorem dX12_firstRooms_63 : decode cX12_firstRooms 63 = .ok (.aload_n 0, 1) := by decide +kernel
theorem dX12_firstRooms_64 : decode cX12_firstRooms 64 = .ok (.aload_n 0, 1) := by decide +kernel
theorem dX12_firstRooms_65 : decode cX12_firstRooms 65 = .ok (.getfield 217, 3) := by decide +kernel
theorem dX12_firstRooms_68 : decode cX12_firstRooms 68 = .ok (.iconst 1, 1) := by decide +kernel
theorem dX12_firstRooms_69 : decode cX12_firstRooms 69 = .ok (.invokevirtual 363, 3) := by decide +kernel
theorem dX12_firstRooms_72 : decode cX12_firstRooms 72 = .ok (.ifCond .eq 5, 3) := by decide +kernel
theorem dX12_firstRooms_75 : decode cX12_firstRooms 75 = .ok (.iload_n 2, 1) := by decide +kernel
theorem dX12_firstRooms_76 : decode cX12_firstRooms 76 = .ok (.ireturn, 1) := by decide +kernel
theorem dX12_firstRooms_77 : decode cX12_firstRooms 77 = .ok (.iinc 2 1, 3) := by decide +kernel
theorem dX12_firstRooms_80 : decode cX12_firstRooms 80 = .ok (.goto (-70), 3) := by decide +kernel
theorem dX12_firstRooms_83 : decode cX12_firstRooms 83 = .ok (.iconst (-1), 1) := by decide +kernel
theorem dX12_firstRooms_84 : decode cX12_firstRooms 84 = .ok (.ireturn, 1) := by decide +kernel
theorem dX12_rooms_0 : decode cX12_rooms 0 = .ok (.aload_n 0, 1) := by decide +kernel
theorem dX12_rooms_1 : decode cX12_rooms 1 = .ok (.iload_n 1, 1) := by decide +kernel
theorem dX12_rooms_2 : decode cX12_rooms 2 = .ok (.invokevirtual 360, 3) := by decide +kernel
theorem dX12_rooms_5 : decode cX12_rooms 5 = .ok (.ifCond .eq 53, 3) := by decide +kernel
theorem dX12_rooms_8 : decode cX12_rooms 8 = .ok (.iload_n 1, 1) := by decide +kernel
theorem dX12_rooms_9 : decode cX12_rooms 9 = .ok (.invokestatic 367, 3) := by decide +kernel
theorem dX12_rooms_12 : decode cX12_rooms 12 = .ok (.iload_n 2, 1) := by decide +kernel
theorem dX12_rooms_13 : decode cX12_rooms 13 = .ok (.if_icmp .ne 45, 3) := by decide +kernel
theorem dX12_rooms_16 : decode cX12_rooms 16 = .ok (.iload_n 2, 1) := by decide +kernel
theorem dX12_rooms_17 : decode cX12_rooms 17 = .ok (.iconst 1, 1) := by decide +kernel
theorem dX12_rooms_18 : decode cX12_rooms 18 = .ok (.bipush 6, 2) := by decide +kernel
theorem dX12_rooms_20 : decode cX12_rooms 20 = .ok (.invokestatic 169, 3) := by decide +kernel
theorem dX12_rooms_23 : decode cX12_rooms 23 = .ok (.ifCond .eq 35, 3) := by decide +kernel
theorem dX12_rooms_26 : decode cX12_rooms 26 = .ok (.iload_n 3, 1) := by decide +kernel
theorem dX12_rooms_27 : decode cX12_rooms 27 = .ok (.bipush 10, 2) := by decide +kernel
theorem dX12_rooms_29 : decode cX12_rooms 29 = .ok (.if_icmp .eq 21, 3) := by decide +kernel
theorem dX12_rooms_32 : decode cX12_rooms 32 = .ok (.iload_n 3, 1) := by decide +kernel
theorem dX12_rooms_33 : decode cX12_rooms 33 = .ok (.iconst 0, 1) := by decide +kernel
theorem dX12_rooms_34 : decode cX12_rooms 34 = .ok (.bipush 9, 2) := by decide +kernel
theorem dX12_rooms_36 : decode cX12_rooms 36 = .ok (.invokestatic 169, 3) := by decide +kernel
theorem dX12_rooms_39 : decode cX12_rooms 39 = .ok (.ifCond .eq 19, 3) := by decide +kernel
theorem dX12_rooms_42 : decode cX12_rooms 42 = .ok (.iload_n 1, 1) := by decide +kernel
theorem dX12_rooms_43 : decode cX12_rooms 43 = .ok (.iload_n 3, 1) := by decide +kernel
theorem dX12_rooms_44 : decode cX12_rooms 44 = .ok (.invokestatic 199, 3) := by decide +kernel
theorem dX12_rooms_47 : decode cX12_rooms 47 = .ok (.ifCond .eq 11, 3) := by decide +kernel
theorem dX12_rooms_50 : decode cX12_rooms 50 = .ok (.iload_n 2, 1) := by decide +kernel
theorem dX12_rooms_51 : decode cX12_rooms 51 = .ok (.aload_n 0, 1) := by decide +kernel
theorem dX12_rooms_52 : decode cX12_rooms 52 = .ok (.getfield 144, 3) := by decide +kernel
theorem dX12_rooms_55 : decode cX12_rooms 55 = .ok (.if_icmp .le 5, 3) := by decide +kernel
theorem dX12_rooms_58 : decode cX12_rooms 58 = .ok (.iconst (-1), 1) := by decide +kernel
theorem dX12_rooms_59 : decode cX12_rooms 59 = .ok (.ireturn, 1) := by decide +kernel
theorem dX12_rooms_60 : decode cX12_rooms 60 = .ok (.aload_n 0, 1) := by decide +kernel
theorem dX12_rooms_61 : decode cX12_rooms 61 = .ok (.iconst 0, 1) := by decide +kernel
theorem dX12_rooms_62 : decode cX12_rooms 62 = .ok (.putfield 144, 3) := by decide +kernel
theorem dX12_rooms_65 : decode cX12_rooms 65 = .ok (.aload_n 0, 1) := by decide +kernel
theorem dX12_rooms_66 : decode cX12_rooms 66 = .ok (.iload_n 1, 1) := by decide +kernel
theorem dX12_rooms_67 : decode cX12_rooms 67 = .ok (.iload_n 2, 1) := by decide +kernel
theorem dX12_rooms_68 : decode cX12_rooms 68 = .ok (.invokevirtual 390, 3) := by decide +kernel
theorem dX12_rooms_71 : decode cX12_rooms 71 = .ok (.ifCond .ne 6, 3) := by decide +kernel
theorem dX12_rooms_74 : decode cX12_rooms 74 = .ok (.bipush (-3), 2) := by decide +kernel
theorem dX12_rooms_76 : decode cX12_rooms 76 = .ok (.ireturn, 1) := by decide +kernel
theorem dX12_rooms_77 : decode cX12_rooms 77 = .ok (.aload_n 0, 1) := by decide +kernel
theorem dX12_rooms_78 : decode cX12_rooms 78 = .ok (.iload_n 1, 1) := by decide +kernel
theorem dX12_rooms_79 : decode cX12_rooms 79 = .ok (.invokevirtual 393, 3) := by decide +kernel
theorem dX12_rooms_82 : decode cX12_rooms 82 = .ok (.iconst 0, 1) := by decide +kernel
theorem dX12_rooms_83 : decode cX12_rooms 83 = .ok (.istore 4, 2) := by decide +kernel
theorem dX12_rooms_85 : decode cX12_rooms 85 = .ok (.iload 4, 2) := by decide +kernel
theorem dX12_rooms_87 : decode cX12_rooms 87 = .ok (.bipush 10, 2) := by decide +kernel
theorem dX12_rooms_89 : decode cX12_rooms 89 = .ok (.if_icmp .ge 23, 3) := by decide +kernel
theorem dX12_rooms_92 : decode cX12_rooms 92 = .ok (.aload_n 0, 1) := by decide +kernel
theorem dX12_rooms_93 : decode cX12_rooms 93 = .ok (.getfield 107, 3) := by decide +kernel
theorem dX12_rooms_96 : decode cX12_rooms 96 = .ok (.iload 4, 2) := by decide +kernel
theorem dX12_rooms_98 : decode cX12_rooms 98 = .ok (.aload_n 0, 1) := by decide +kernel
theorem dX12_rooms_99 : decode cX12_rooms 99 = .ok (.getfield 32, 3) := by decide +kernel
theorem dX12_rooms_102 : decode cX12_rooms 102 = .ok (.iload 4, 2) := by decide +kernel
theorem dX12_rooms_104 : decode cX12_rooms 104 = .ok (.iaload, 1) := by decide +kernel
theorem dX12_rooms_105 : decode cX12_rooms 105 = .ok (.iastore, 1) := by decide +kernel
theorem dX12_rooms_106 : decode cX12_rooms 106 = .ok (.iinc 4 1, 3) := by decide +kernel
theorem dX12_rooms_109 : decode cX12_rooms 109 = .ok (.goto (-24), 3) := by decide +kernel
theorem dX12_rooms_112 : decode cX12_rooms 112 = .ok (.aload_n 0, 1) := by decide +kernel
theorem dX12_rooms_113 : decode cX12_rooms 113 = .ok (.invokevirtual 396, 3) := by decide +kernel
theorem dX12_rooms_116 : decode cX12_rooms 116 = .ok (.istore 4, 2) := by decide +kernel
theorem dX12_rooms_118 : decode cX12_rooms 118 = .ok (.iload_n 3, 1) := by decide +kernel
theorem dX12_rooms_119 : decode cX12_rooms 119 = .ok (.bipush 10, 2) := by decide +kernel
theorem dX12_rooms_121 : decode cX12_rooms 121 = .ok (.if_icmp .ne 17, 3) := by decide +kernel
theorem dX12_rooms_124 : decode cX12_rooms 124 = .ok (.iload 4, 2) := by decide +kernel
theorem dX12_rooms_126 : decode cX12_rooms 126 = .ok (.iconst (-1), 1) := by decide +kernel
theorem dX12_rooms_127 : decode cX12_rooms 127 = .ok (.if_icmp .ne 7, 3) := by decide +kernel
theorem dX12_rooms_130 : decode cX12_rooms 130 = .ok (.iconst 0, 1) := by decide +kernel
theorem dX12_rooms_131 : decode cX12_rooms 131 = .ok (.goto 24, 3) := by decide +kernel
theorem dX12_rooms_134 : decode cX12_rooms 134 = .ok (.iconst 1, 1) := by decide +kernel
theorem dX12_rooms_135 : decode cX12_rooms 135 = .ok (.goto 20, 3) := by decide +kernel
theorem dX12_rooms_138 : decode cX12_rooms 138 = .ok (.iload 4, 2) := by decide +kernel
theorem dX12_rooms_140 : decode cX12_rooms 140 = .ok (.iconst (-1), 1) := by decide +kernel
theorem dX12_rooms_141 : decode cX12_rooms 141 = .ok (.if_icmp .ne 8, 3) := by decide +kernel
theorem dX12_rooms_144 : decode cX12_rooms 144 = .ok (.bipush (-2), 2) := by decide +kernel
theorem dX12_rooms_146 : decode cX12_rooms 146 = .ok (.goto 9, 3) := by decide +kernel
theorem dX12_rooms_149 : decode cX12_rooms 149 = .ok (.aload_n 0, 1) := by decide +kernel
theorem dX12_rooms_150 : decode cX12_rooms 150 = .ok (.getfield 32, 3) := by decide +kernel
theorem dX12_rooms_153 : decode cX12_rooms 153 = .ok (.iload_n 3, 1) := by decide +kernel
theorem dX12_rooms_154 : decode cX12_rooms 154 = .ok (.iaload, 1) := by decide +kernel
theorem dX12_rooms_155 : decode cX12_rooms 155 = .ok (.istore 5, 2) := by decide +kernel
theorem dX12_rooms_157 : decode cX12_rooms 157 = .ok (.iconst 0, 1) := by decide +kernel
theorem dX12_rooms_158 : decode cX12_rooms 158 = .ok (.istore 6, 2) := by decide +kernel
theorem dX12_rooms_160 : decode cX12_rooms 160 = .ok (.iload 6, 2) := by decide +kernel
theorem dX12_rooms_162 : decode cX12_rooms 162 = .ok (.bipush 10, 2) := by decide +kernel
theorem dX12_rooms_164 : decode cX12_rooms 164 = .ok (.if_icmp .ge 35, 3) := by decide +kernel
theorem dX12_rooms_167 : decode cX12_rooms 167 = .ok (.iload_n 3, 1) := by decide +kernel
theorem dX12_rooms_168 : decode cX12_rooms 168 = .ok (.bipush 10, 2) := by decide +kernel
theorem dX12_rooms_170 : decode cX12_rooms 170 = .ok (.if_icmp .ne 9, 3) := by decide +kernel
theorem dX12_rooms_173 : decode cX12_rooms 173 = .ok (.iload 4, 2) := by decide +kernel
theorem dX12_rooms_175 : decode cX12_rooms 175 = .ok (.iconst (-1), 1) := by decide +kernel
theorem dX12_rooms_176 : decode cX12_rooms 176 = .ok (.if_icmp .ne 23, 3) := by decide +kernel
theorem dX12_rooms_179 : decode cX12_rooms 179 = .ok (.aload_n 0, 1) := by decide +kernel
theorem dX12_rooms_180 : decode cX12_rooms 180 = .ok (.getfield 32, 3) := by decide +kernel
theorem dX12_rooms_183 : decode cX12_rooms 183 = .ok (.iload 6, 2) := by decide +kernel
theorem dX12_rooms_185 : decode cX12_rooms 185 = .ok (.aload_n 0, 1) := by decide +kernel
theorem dX12_rooms_186 : decode cX12_rooms 186 = .ok (.getfield 107, 3) := by decide +kernel
theorem dX12_rooms_189 : decode cX12_rooms 189 = .ok (.iload 6, 2) := by decide +kernel
theorem dX12_rooms_191 : decode cX12_rooms 191 = .ok (.iaload, 1) := by decide +kernel
theorem dX12_rooms_192 : decode cX12_rooms 192 = .ok (.iastore, 1) := by decide +kernel
theorem dX12_rooms_193 : decode cX12_rooms 193 = .ok (.iinc 6 1, 3) := by decide +kernel
theorem dX12_rooms_196 : decode cX12_rooms 196 = .ok (.goto (-36), 3) := by decide +kernel
theorem dX12_rooms_199 : decode cX12_rooms 199 = .ok (.iload 5, 2) := by decide +kernel
theorem dX12_rooms_201 : decode cX12_rooms 201 = .ok (.ireturn, 1) := by decide +kernel
theorem dX12_shiftsBy_0 : decode cX12_shiftsBy 0 = .ok (.iload_n 1, 1) := by decide +kernel
theorem dX12_shiftsBy_1 : decode cX12_shiftsBy 1 = .ok (.istore_n 3, 1) := by decide +kernel
theorem dX12_shiftsBy_2 : decode cX12_shiftsBy 2 = .ok (.iconst 0, 1) := by decide +kernel
theorem dX12_shiftsBy_3 : decode cX12_shiftsBy 3 = .ok (.istore 4, 2) := by decide +kernel
theorem dX12_shiftsBy_5 : decode cX12_shiftsBy 5 = .ok (.aload_n 0, 1) := by decide +kernel
theorem dX12_shiftsBy_6 : decode cX12_shiftsBy 6 = .ok (.getfield 381, 3) := by decide +kernel
theorem dX12_shiftsBy_9 : decode cX12_shiftsBy 9 = .ok (.iconst 1, 1) := by decide +kernel
theorem dX12_shiftsBy_10 : decode cX12_shiftsBy 10 = .ok (.isub, 1) := by decide +kernel
theorem dX12_shiftsBy_11 : decode cX12_shiftsBy 11 = .ok (.istore 5, 2) := by decide +kernel
theorem dX12_shiftsBy_13 : decode cX12_shiftsBy 13 = .ok (.iload 5, 2) := by decide +kernel
theorem dX12_shiftsBy_15 : decode cX12_shiftsBy 15 = .ok (.ifCond .lt 93, 3) := by decide +kernel
theorem dX12_shiftsBy_18 : decode cX12_shiftsBy 18 = .ok (.iload_n 3, 1) := by decide +kernel
theorem dX12_shiftsBy_19 : decode cX12_shiftsBy 19 = .ok (.iconst 2, 1) := by decide +kernel
theorem dX12_shiftsBy_20 : decode cX12_shiftsBy 20 = .ok (.iload_n 2, 1) := by decide +kernel
theorem dX12_shiftsBy_21 : decode cX12_shiftsBy 21 = .ok (.imul, 1) := by decide +kernel
theorem dX12_shiftsBy_22 : decode cX12_shiftsBy 22 = .ok (.iconst 1, 1) := by decide +kernel
theorem dX12_shiftsBy_23 : decode cX12_shiftsBy 23 = .ok (.iadd, 1) := by decide +kernel
theorem dX12_shiftsBy_24 : decode cX12_shiftsBy 24 = .ok (.irem, 1) := by decide +kernel
theorem dX12_shiftsBy_25 : decode cX12_shiftsBy 25 = .ok (.iload_n 2, 1) := by decide +kernel
theorem dX12_shiftsBy_26 : decode cX12_shiftsBy 26 = .ok (.isub, 1) := by decide +kernel
theorem dX12_shiftsBy_27 : decode cX12_shiftsBy 27 = .ok (.istore 6, 2) := by decide +kernel
theorem dX12_shiftsBy_29 : decode cX12_shiftsBy 29 = .ok (.iload_n 3, 1) := by decide +kernel
theorem dX12_shiftsBy_30 : decode cX12_shiftsBy 30 = .ok (.iconst 2, 1) := by decide +kernel
theorem dX12_shiftsBy_31 : decode cX12_shiftsBy 31 = .ok (.iload_n 2, 1) := by decide +kernel
theorem dX12_shiftsBy_32 : decode cX12_shiftsBy 32 = .ok (.imul, 1) := by decide +kernel
theorem dX12_shiftsBy_33 : decode cX12_shiftsBy 33 = .ok (.iconst 1, 1) := by decide +kernel
theorem dX12_shiftsBy_34 : decode cX12_shiftsBy 34 = .ok (.iadd, 1) := by decide +kernel
theorem dX12_shiftsBy_35 : decode cX12_shiftsBy 35 = .ok (.idiv, 1) := by decide +kernel
theorem dX12_shiftsBy_36 : decode cX12_shiftsBy 36 = .ok (.istore_n 3, 1) := by decide +kernel
theorem dX12_shiftsBy_37 : decode cX12_shiftsBy 37 = .ok (.aload_n 0, 1) := by decide +kernel
theorem dX12_shiftsBy_38 : decode cX12_shiftsBy 38 = .ok (.getfield 41, 3) := by decide +kernel
theorem dX12_shiftsBy_41 : decode cX12_shiftsBy 41 = .ok (.aload_n 0, 1) := by decide +kernel
theorem dX12_shiftsBy_42 : decode cX12_shiftsBy 42 = .ok (.getfield 101, 3) := by decide +kernel
theorem dX12_shiftsBy_45 : decode cX12_shiftsBy 45 = .ok (.iload 5, 2) := by decide +kernel
theorem dX12_shiftsBy_47 : decode cX12_shiftsBy 47 = .ok (.iaload, 1) := by decide +kernel
theorem dX12_shiftsBy_48 : decode cX12_shiftsBy 48 = .ok (.aload_n 0, 1) := by decide +kernel
theorem dX12_shiftsBy_49 : decode cX12_shiftsBy 49 = .ok (.getfield 110, 3) := by decide +kernel
theorem dX12_shiftsBy_52 : decode cX12_shiftsBy 52 = .ok (.aload_n 0, 1) := by decide +kernel
theorem dX12_shiftsBy_53 : decode cX12_shiftsBy 53 = .ok (.getfield 101, 3) := by decide +kernel
theorem dX12_shiftsBy_56 : decode cX12_shiftsBy 56 = .ok (.iload 5, 2) := by decide +kernel
theorem dX12_shiftsBy_58 : decode cX12_shiftsBy 58 = .ok (.iaload, 1) := by decide +kernel
theorem dX12_shiftsBy_59 : decode cX12_shiftsBy 59 = .ok (.iaload, 1) := by decide +kernel
theorem dX12_shiftsBy_60 : decode cX12_shiftsBy 60 = .ok (.iload 6, 2) := by decide +kernel
theorem dX12_shiftsBy_62 : decode cX12_shiftsBy 62 = .ok (.iadd, 1) := by decide +kernel
theorem dX12_shiftsBy_63 : decode cX12_shiftsBy 63 = .ok (.iastore, 1) := by decide +kernel
theorem dX12_shiftsBy_64 : decode cX12_shiftsBy 64 = .ok (.iload 4, 2) := by decide +kernel
theorem dX12_shiftsBy_66 : decode cX12_shiftsBy 66 = .ok (.iload 6, 2) := by decide +kernel
theorem dX12_shiftsBy_68 : decode cX12_shiftsBy 68 = .ok (.invokestatic 399, 3) := by decide +kernel
theorem dX12_shiftsBy_71 : decode cX12_shiftsBy 71 = .ok (.iadd, 1) := by decide +kernel
theorem dX12_shiftsBy_72 : decode cX12_shiftsBy 72 = .ok (.istore 4, 2) := by decide +kernel
theorem dX12_shiftsBy_74 : decode cX12_shiftsBy 74 = .ok (.aload_n 0, 1) := by decide +kernel
theorem dX12_shiftsBy_75 : decode cX12_shiftsBy 75 = .ok (.getfield 41, 3) := by decide +kernel
theorem dX12_shiftsBy_78 : decode cX12_shiftsBy 78 = .ok (.aload_n 0, 1) := by decide +kernel
theorem dX12_shiftsBy_79 : decode cX12_shiftsBy 79 = .ok (.getfield 101, 3) := by decide +kernel
theorem dX12_shiftsBy_82 : decode cX12_shiftsBy 82 = .ok (.iload 5, 2) := by decide +kernel
theorem dX12_shiftsBy_84 : decode cX12_shiftsBy 84 = .ok (.iaload, 1) := by decide +kernel
theorem dX12_shiftsBy_85 : decode cX12_shiftsBy 85 = .ok (.iaload, 1) := by decide +kernel
theorem dX12_shiftsBy_86 : decode cX12_shiftsBy 86 = .ok (.bipush (-3), 2) := by decide +kernel
theorem dX12_shiftsBy_88 : decode cX12_shiftsBy 88 = .ok (.iconst 3, 1) := by decide +kernel
theorem dX12_shiftsBy_89 : decode cX12_shiftsBy 89 = .ok (.invokestatic 169, 3) := by decide +kernel
theorem dX12_shiftsBy_92 : decode cX12_shiftsBy 92 = .ok (.ifCond .ne 10, 3) := by decide +kernel
theorem dX12_shiftsBy_95 : decode cX12_shiftsBy 95 = .ok (.iload 4, 2) := by decide +kernel
theorem dX12_shiftsBy_97 : decode cX12_shiftsBy 97 = .ok (.bipush 100, 2) := by decide +kernel
theorem dX12_shiftsBy_99 : decode cX12_shiftsBy 99 = .ok (.iadd, 1) := by decide +kernel
theorem dX12_shiftsBy_100 : decode cX12_shiftsBy 100 = .ok (.istore 4, 2) := by decide +kernel
theorem dX12_shiftsBy_102 : decode cX12_shiftsBy 102 = .ok (.iinc 5 (-1), 3) := by decide +kernel
theorem dX12_shiftsBy_105 : decode cX12_shiftsBy 105 = .ok (.goto (-92), 3) := by decide +kernel
theorem dX12_shiftsBy_108 : decode cX12_shiftsBy 108 = .ok (.iload 4, 2) := by decide +kernel
theorem dX12_shiftsBy_110 : decode cX12_shiftsBy 110 = .ok (.ireturn, 1) := by decide +kernel
theorem dX12_shifting_0 : decode cX12_shifting 0 = .ok (.aload_n 0, 1) := by decide +kernel
theorem dX12_shifting_1 : decode cX12_shifting 1 = .ok (.iload_n 1, 1) := by decide +kernel
theorem dX12_shifting_2 : decode cX12_shifting 2 = .ok (.invokevirtual 360, 3) := by decide +kernel
theorem dX12_shifting_5 : decode cX12_shifting 5 = .ok (.ifCond .eq 50, 3) := by decide +kernel
theorem dX12_shifting_8 : decode cX12_shifting 8 = .ok (.iload_n 1, 1) := by decide +kernel
theorem dX12_shifting_9 : decode cX12_shifting 9 = .ok (.invokestatic 367, 3) := by decide +kernel
theorem dX12_shifting_12 : decode cX12_shifting 12 = .ok (.iconst 5, 1) := by decide +kernel
theorem dX12_shifting_13 : decode cX12_shifting 13 = .ok (.if_icmp .gt 42, 3) := by decide +kernel
theorem dX12_shifting_16 : decode cX12_shifting 16 = .ok (.iload_n 2, 1) := by decide +kernel
theorem dX12_shifting_17 : decode cX12_shifting 17 = .ok (.iconst 1, 1) := by decide +kernel
theorem dX12_shifting_18 : decode cX12_shifting 18 = .ok (.iconst 2, 1) := by decide +kernel
theorem dX12_shifting_19 : decode cX12_shifting 19 = .ok (.invokestatic 169, 3) := by decide +kernel
theorem dX12_shifting_22 : decode cX12_shifting 22 = .ok (.ifCond .eq 33, 3) := by decide +kernel
theorem dX12_shifting_25 : decode cX12_shifting 25 = .ok (.iload_n 3, 1) := by decide +kernel
theorem dX12_shifting_26 : decode cX12_shifting 26 = .ok (.bipush 10, 2) := by decide +kernel
theorem dX12_shifting_28 : decode cX12_shifting 28 = .ok (.if_icmp .eq 29, 3) := by decide +kernel
theorem dX12_shifting_31 : decode cX12_shifting 31 = .ok (.iload_n 3, 1) := by decide +kernel
theorem dX12_shifting_32 : decode cX12_shifting 32 = .ok (.bipush 11, 2) := by decide +kernel
theorem dX12_shifting_34 : decode cX12_shifting 34 = .ok (.if_icmp .eq 23, 3) := by decide +kernel
theorem dX12_shifting_37 : decode cX12_shifting 37 = .ok (.iload_n 3, 1) := by decide +kernel
theorem dX12_shifting_38 : decode cX12_shifting 38 = .ok (.iconst 0, 1) := by decide +kernel
theorem dX12_shifting_39 : decode cX12_shifting 39 = .ok (.bipush 9, 2) := by decide +kernel
theorem dX12_shifting_41 : decode cX12_shifting 41 = .ok (.invokestatic 169, 3) := by decide +kernel
theorem dX12_shifting_44 : decode cX12_shifting 44 = .ok (.ifCond .eq 11, 3) := by decide +kernel
theorem dX12_shifting_47 : decode cX12_shifting 47 = .ok (.iload_n 1, 1) := by decide +kernel
theorem dX12_shifting_48 : decode cX12_shifting 48 = .ok (.iload_n 3, 1) := by decide +kernel
theorem dX12_shifting_49 : decode cX12_shifting 49 = .ok (.invokestatic 199, 3) := by decide +kernel
theorem dX12_shifting_52 : decode cX12_shifting 52 = .ok (.ifCond .ne 5, 3) := by decide +kernel
theorem dX12_shifting_55 : decode cX12_shifting 55 = .ok (.iconst (-1), 1) := by decide +kernel
theorem dX12_shifting_56 : decode cX12_shifting 56 = .ok (.ireturn, 1) := by decide +kernel
theorem dX12_shifting_57 : decode cX12_shifting 57 = .ok (.aload_n 0, 1) := by decide +kernel
theorem dX12_shifting_58 : decode cX12_shifting 58 = .ok (.iload_n 1, 1) := by decide +kernel
theorem dX12_shifting_59 : decode cX12_shifting 59 = .ok (.invokevirtual 393, 3) := by decide +kernel
theorem dX12_shifting_62 : decode cX12_shifting 62 = .ok (.iconst 0, 1) := by decide +kernel
theorem dX12_shifting_63 : decode cX12_shifting 63 = .ok (.istore 4, 2) := by decide +kernel
theorem dX12_shifting_65 : decode cX12_shifting 65 = .ok (.iload 4, 2) := by decide +kernel
theorem dX12_shifting_67 : decode cX12_shifting 67 = .ok (.bipush 10, 2) := by decide +kernel
theorem dX12_shifting_69 : decode cX12_shifting 69 = .ok (.if_icmp .ge 23, 3) := by decide +kernel
theorem dX12_shifting_72 : decode cX12_shifting 72 = .ok (.aload_n 0, 1) := by decide +kernel
theorem dX12_shifting_73 : decode cX12_shifting 73 = .ok (.getfield 110, 3) := by decide +kernel
theorem dX12_shifting_76 : decode cX12_shifting 76 = .ok (.iload 4, 2) := by decide +kernel
theorem dX12_shifting_78 : decode cX12_shifting 78 = .ok (.aload_n 0, 1) := by decide +kernel
theorem dX12_shifting_79 : decode cX12_shifting 79 = .ok (.getfield 41, 3) := by decide +kernel
theorem dX12_shifting_82 : decode cX12_shifting 82 = .ok (.iload 4, 2) := by decide +kernel
theorem dX12_shifting_84 : decode cX12_shifting 84 = .ok (.iaload, 1) := by decide +kernel
theorem dX12_shifting_85 : decode cX12_shifting 85 = .ok (.iastore, 1) := by decide +kernel
theorem dX12_shifting_86 : decode cX12_shifting 86 = .ok (.iinc 4 1, 3) := by decide +kernel
theorem dX12_shifting_89 : decode cX12_shifting 89 = .ok (.goto (-24), 3) := by decide +kernel
theorem dX12_shifting_92 : decode cX12_shifting 92 = .ok (.iconst 1, 1) := by decide +kernel
theorem dX12_shifting_93 : decode cX12_shifting 93 = .ok (.istore 4, 2) := by decide +kernel
theorem dX12_shifting_95 : decode cX12_shifting 95 = .ok (.iconst 0, 1) := by decide +kernel
theorem dX12_shifting_96 : decode cX12_shifting 96 = .ok (.istore 5, 2) := by decide +kernel
theorem dX12_shifting_98 : decode cX12_shifting 98 = .ok (.iload 5, 2) := by decide +kernel
theorem dX12_shifting_100 : decode cX12_shifting 100 = .ok (.aload_n 0, 1) := by decide +kernel
theorem dX12_shifting_101 : decode cX12_shifting 101 = .ok (.getfield 381, 3) := by decide +kernel
theorem dX12_shifting_104 : decode cX12_shifting 104 = .ok (.if_icmp .ge 19, 3) := by decide +kernel
theorem dX12_shifting_107 : decode cX12_shifting 107 = .ok (.iload 4, 2) := by decide +kernel
theorem dX12_shifting_109 : decode cX12_shifting 109 = .ok (.iconst 2, 1) := by decide +kernel
theorem dX12_shifting_110 : decode cX12_shifting 110 = .ok (.iload_n 2, 1) := by decide +kernel
theorem dX12_shifting_111 : decode cX12_shifting 111 = .ok (.imul, 1) := by decide +kernel
theorem dX12_shifting_112 : decode cX12_shifting 112 = .ok (.iconst 1, 1) := by decide +kernel
theorem dX12_shifting_113 : decode cX12_shifting 113 = .ok (.iadd, 1) := by decide +kernel
theorem dX12_shifting_114 : decode cX12_shifting 114 = .ok (.imul, 1) := by decide +kernel
theorem dX12_shifting_115 : decode cX12_shifting 115 = .ok (.istore 4, 2) := by decide +kernel
theorem dX12_shifting_117 : decode cX12_shifting 117 = .ok (.iinc 5 1, 3) := by decide +kernel
theorem dX12_shifting_120 : decode cX12_shifting 120 = .ok (.goto (-22), 3) := by decide +kernel
theorem dX12_shifting_123 : decode cX12_shifting 123 = .ok (.iconst (-1), 1) := by decide +kernel
theorem dX12_shifting_124 : decode cX12_shifting 124 = .ok (.istore 5, 2) := by decide +kernel
theorem dX12_shifting_126 : decode cX12_shifting 126 = .ok (.bipush 100, 2) := by decide +kernel
theorem dX12_shifting_128 : decode cX12_shifting 128 = .ok (.istore 6, 2) := by decide +kernel
theorem dX12_shifting_130 : decode cX12_shifting 130 = .ok (.iconst 0, 1) := by decide +kernel
theorem dX12_shifting_131 : decode cX12_shifting 131 = .ok (.istore 7, 2) := by decide +kernel
theorem dX12_shifting_133 : decode cX12_shifting 133 = .ok (.iload 7, 2) := by decide +kernel
theorem dX12_shifting_135 : decode cX12_shifting 135 = .ok (.iload 4, 2) := by decide +kernel
theorem dX12_shifting_137 : decode cX12_shifting 137 = .ok (.if_icmp .ge 48, 3) := by decide +kernel
theorem dX12_shifting_140 : decode cX12_shifting 140 = .ok (.aload_n 0, 1) := by decide +kernel
theorem dX12_shifting_141 : decode cX12_shifting 141 = .ok (.iload 7, 2) := by decide +kernel
theorem dX12_shifting_143 : decode cX12_shifting 143 = .ok (.iload_n 2, 1) := by decide +kernel
theorem dX12_shifting_144 : decode cX12_shifting 144 = .ok (.invokevirtual 402, 3) := by decide +kernel
theorem dX12_shifting_147 : decode cX12_shifting 147 = .ok (.istore 8, 2) := by decide +kernel
theorem dX12_shifting_149 : decode cX12_shifting 149 = .ok (.iload 8, 2) := by decide +kernel
theorem dX12_shifting_151 : decode cX12_shifting 151 = .ok (.iload 6, 2) := by decide +kernel
theorem dX12_shifting_153 : decode cX12_shifting 153 = .ok (.if_icmp .ge 26, 3) := by decide +kernel
theorem dX12_shifting_156 : decode cX12_shifting 156 = .ok (.aload_n 0, 1) := by decide +kernel
theorem dX12_shifting_157 : decode cX12_shifting 157 = .ok (.aload_n 0, 1) := by decide +kernel
theorem dX12_shifting_158 : decode cX12_shifting 158 = .ok (.getfield 217, 3) := by decide +kernel
theorem dX12_shifting_161 : decode cX12_shifting 161 = .ok (.iconst 1, 1) := by decide +kernel
theorem dX12_shifting_162 : decode cX12_shifting 162 = .ok (.invokevirtual 363, 3) := by decide +kernel
theorem dX12_shifting_165 : decode cX12_shifting 165 = .ok (.ifCond .ne 6, 3) := by decide +kernel
theorem dX12_shifting_168 : decode cX12_shifting 168 = .ok (.goto 11, 3) := by decide +kernel
theorem dX12_shifting_171 : decode cX12_shifting 171 = .ok (.iload 8, 2) := by decide +kernel
theorem dX12_shifting_173 : decode cX12_shifting 173 = .ok (.istore 6, 2) := by decide +kernel
theorem dX12_shifting_175 : decode cX12_shifting 175 = .ok (.iload 7, 2) := by decide +kernel
theorem dX12_shifting_177 : decode cX12_shifting 177 = .ok (.istore 5, 2) := by decide +kernel
theorem dX12_shifting_179 : decode cX12_shifting 179 = .ok (.iinc 7 1, 3) := by decide +kernel
theorem dX12_shifting_182 : decode cX12_shifting 182 = .ok (.goto (-49), 3) := by decide +kernel
theorem dX12_shifting_185 : decode cX12_shifting 185 = .ok (.iload 5, 2) := by decide +kernel
theorem dX12_shifting_187 : decode cX12_shifting 187 = .ok (.iconst (-1), 1) := by decide +kernel
theorem dX12_shifting_188 : decode cX12_shifting 188 = .ok (.if_icmp .eq 11, 3) := by decide +kernel
theorem dX12_shifting_191 : decode cX12_shifting 191 = .ok (.aload_n 0, 1) := by decide +kernel
theorem dX12_shifting_192 : decode cX12_shifting 192 = .ok (.iload 5, 2) := by decide +kernel
theorem dX12_shifting_194 : decode cX12_shifting 194 = .ok (.iload_n 2, 1) := by decide +kernel
theorem dX12_shifting_195 : decode cX12_shifting 195 = .ok (.invokevirtual 402, 3) := by decide +kernel
theorem dX12_shifting_198 : decode cX12_shifting 198 = .ok (.pop, 1) := by decide +kernel
theorem dX12_shifting_199 : decode cX12_shifting 199 = .ok (.iload 5, 2) := by decide +kernel
theorem dX12_shifting_201 : decode cX12_shifting 201 = .ok (.iconst (-1), 1) := by decide +kernel
theorem dX12_shifting_202 : decode cX12_shifting 202 = .ok (.if_icmp .ne 8, 3) := by decide +kernel
theorem dX12_shifting_205 : decode cX12_shifting 205 = .ok (.bipush (-2), 2) := by decide +kernel
theorem dX12_shifting_207 : decode cX12_shifting 207 = .ok (.goto 22, 3) := by decide +kernel
theorem dX12_shifting_210 : decode cX12_shifting 210 = .ok (.iload_n 3, 1) := by decide +kernel
theorem dX12_shifting_211 : decode cX12_shifting 211 = .ok (.bipush 9, 2) := by decide +kernel
theorem dX12_shifting_213 : decode cX12_shifting 213 = .ok (.if_icmp .le 8, 3) := by decide +kernel
theorem dX12_shifting_216 : decode cX12_shifting 216 = .ok (.iload 6, 2) := by decide +kernel
theorem dX12_shifting_218 : decode cX12_shifting 218 = .ok (.goto 11, 3) := by decide +kernel
theorem dX12_shifting_221 : decode cX12_shifting 221 = .ok (.aload_n 0, 1) := by decide +kernel
theorem dX12_shifting_222 : decode cX12_shifting 222 = .ok (.getfield 41, 3) := by decide +kernel
theorem dX12_shifting_225 : decode cX12_shifting 225 = .ok (.iload_n 3, 1) := by decide +kernel
theorem dX12_shifting_226 : decode cX12_shifting 226 = .ok (.iaload, 1) := by decide +kernel
theorem dX12_shifting_227 : decode cX12_shifting 227 = .ok (.iconst 3, 1) := by decide +kernel
theorem dX12_shifting_228 : decode cX12_shifting 228 = .ok (.iadd, 1) := by decide +kernel
theorem dX12_shifting_229 : decode cX12_shifting 229 = .ok (.istore 7, 2) := by decide +kernel
theorem dX12_shifting_231 : decode cX12_shifting 231 = .ok (.iconst 0, 1) := by decide +kernel
theorem dX12_shifting_232 : decode cX12_shifting 232 = .ok (.istore 8, 2) := by decide +kernel
theorem dX12_shifting_234 : decode cX12_shifting 234 = .ok (.iload 8, 2) := by decide +kernel
theorem dX12_shifting_236 : decode cX12_shifting 236 = .ok (.bipush 10, 2) := by decide +kernel
theorem dX12_shifting_238 : decode cX12_shifting 238 = .ok (.if_icmp .ge 35, 3) := by decide +kernel
theorem dX12_shifting_241 : decode cX12_shifting 241 = .ok (.iload_n 3, 1) := by decide +kernel
theorem dX12_shifting_242 : decode cX12_shifting 242 = .ok (.bipush 11, 2) := by decide +kernel
theorem dX12_shifting_244 : decode cX12_shifting 244 = .ok (.if_icmp .ne 9, 3) := by decide +kernel
theorem dX12_shifting_247 : decode cX12_shifting 247 = .ok (.iload 5, 2) := by decide +kernel
theorem dX12_shifting_249 : decode cX12_shifting 249 = .ok (.iconst (-1), 1) := by decide +kernel
theorem dX12_shifting_250 : decode cX12_shifting 250 = .ok (.if_icmp .ne 23, 3) := by decide +kernel
theorem dX12_shifting_253 : decode cX12_shifting 253 = .ok (.aload_n 0, 1) := by decide +kernel
theorem dX12_shifting_254 : decode cX12_shifting 254 = .ok (.getfield 41, 3) := by decide +kernel
theorem dX12_shifting_257 : decode cX12_shifting 257 = .ok (.iload 8, 2) := by decide +kernel
theorem dX12_shifting_259 : decode cX12_shifting 259 = .ok (.aload_n 0, 1) := by decide +kernel
theorem dX12_shifting_260 : decode cX12_shifting 260 = .ok (.getfield 110, 3) := by decide +kernel
theorem dX12_shifting_263 : decode cX12_shifting 263 = .ok (.iload 8, 2) := by decide +kernel
theorem dX12_shifting_265 : decode cX12_shifting 265 = .ok (.iaload, 1) := by decide +kernel
theorem dX12_shifting_266 : decode cX12_shifting 266 = .ok (.iastore, 1) := by decide +kernel
theorem dX12_shifting_267 : decode cX12_shifting 267 = .ok (.iinc 8 1, 3) := by decide +kernel
theorem dX12_shifting_270 : decode cX12_shifting 270 = .ok (.goto (-36), 3) := by decide +kernel
theorem dX12_shifting_273 : decode cX12_shifting 273 = .ok (.iload 7, 2) := by decide +kernel
theorem dX12_shifting_275 : decode cX12_shifting 275 = .ok (.ireturn, 1) := by decide +kernel
theorem dX12_mostWanted_0 : decode cX12_mostWanted 0 = .ok (.iconst 0, 1) := by decide +kernel
theorem dX12_mostWanted_1 : decode cX12_mostWanted 1 = .ok (.istore_n 3, 1) := by decide +kernel
theorem dX12_mostWanted_2 : decode cX12_mostWanted 2 = .ok (.iconst 0, 1) := by decide +kernel
theorem dX12_mostWanted_3 : decode cX12_mostWanted 3 = .ok (.istore 4, 2) := by decide +kernel
theorem dX12_mostWanted_5 : decode cX12_mostWanted 5 = .ok (.iload 4, 2) := by decide +kernel
theorem dX12_mostWanted_7 : decode cX12_mostWanted 7 = .ok (.bipush 24, 2) := by decide +kernel
theorem dX12_mostWanted_9 : decode cX12_mostWanted 9 = .ok (.if_icmp .ge 22, 3) := by decide +kernel
theorem dX12_mostWanted_12 : decode cX12_mostWanted 12 = .ok (.iload_n 3, 1) := by decide +kernel
theorem dX12_mostWanted_13 : decode cX12_mostWanted 13 = .ok (.aload_n 0, 1) := by decide +kernel
theorem dX12_mostWanted_14 : decode cX12_mostWanted 14 = .ok (.iload_n 1, 1) := by decide +kernel
theorem dX12_mostWanted_15 : decode cX12_mostWanted 15 = .ok (.iload_n 2, 1) := by decide +kernel
theorem dX12_mostWanted_16 : decode cX12_mostWanted 16 = .ok (.iload 4, 2) := by decide +kernel
theorem dX12_mostWanted_18 : decode cX12_mostWanted 18 = .ok (.invokevirtual 234, 3) := by decide +kernel
theorem dX12_mostWanted_21 : decode cX12_mostWanted 21 = .ok (.invokestatic 405, 3) := by decide +kernel
theorem dX12_mostWanted_24 : decode cX12_mostWanted 24 = .ok (.istore_n 3, 1) := by decide +kernel
theorem dX12_mostWanted_25 : decode cX12_mostWanted 25 = .ok (.iinc 4 1, 3) := by decide +kernel
theorem dX12_mostWanted_28 : decode cX12_mostWanted 28 = .ok (.goto (-23), 3) := by decide +kernel
theorem dX12_mostWanted_31 : decode cX12_mostWanted 31 = .ok (.iload_n 3, 1) := by decide +kernel
theorem dX12_mostWanted_32 : decode cX12_mostWanted 32 = .ok (.ireturn, 1) := by decide +kernel
theorem dX12_moreOf_0 : decode cX12_moreOf 0 = .ok (.iconst 0, 1) := by decide +kernel
theorem dX12_moreOf_1 : decode cX12_moreOf 1 = .ok (.aload_n 0, 1) := by decide +kernel
theorem dX12_moreOf_2 : decode cX12_moreOf 2 = .ok (.iload_n 1, 1) := by decide +kernel
theorem dX12_moreOf_3 : decode cX12_moreOf 3 = .ok (.iload_n 2, 1) := by decide +kernel
theorem dX12_moreOf_4 : decode cX12_moreOf 4 = .ok (.invokevirtual 408, 3) := by decide +kernel
theorem dX12_moreOf_7 : decode cX12_moreOf 7 = .ok (.aload_n 0, 1) := by decide +kernel
theorem dX12_moreOf_8 : decode cX12_moreOf 8 = .ok (.getfield 23, 3) := by decide +kernel
theorem dX12_moreOf_11 : decode cX12_moreOf 11 = .ok (.iload_n 2, 1) := by decide +kernel
theorem dX12_moreOf_12 : decode cX12_moreOf 12 = .ok (.iaload, 1) := by decide +kernel
theorem dX12_moreOf_13 : decode cX12_moreOf 13 = .ok (.isub, 1) := by decide +kernel
theorem dX12_moreOf_14 : decode cX12_moreOf 14 = .ok (.invokestatic 405, 3) := by decide +kernel
theorem dX12_moreOf_17 : decode cX12_moreOf 17 = .ok (.ireturn, 1) := by decide +kernel
theorem dX12_brings_0 : decode cX12_brings 0 = .ok (.aload_n 0, 1) := by decide +kernel
theorem dX12_brings_1 : decode cX12_brings 1 = .ok (.iload_n 1, 1) := by decide +kernel
theorem dX12_brings_2 : decode cX12_brings 2 = .ok (.invokevirtual 370, 3) := by decide +kernel
theorem dX12_brings_5 : decode cX12_brings 5 = .ok (.istore_n 2, 1) := by decide +kernel
theorem dX12_brings_6 : decode cX12_brings 6 = .ok (.iconst 0, 1) := by decide +kernel
theorem dX12_brings_7 : decode cX12_brings 7 = .ok (.istore_n 3, 1) := by decide +kernel
theorem dX12_brings_8 : decode cX12_brings 8 = .ok (.iload_n 3, 1) := by decide +kernel
theorem dX12_brings_9 : decode cX12_brings 9 = .ok (.iconst 3, 1) := by decide +kernel
theorem dX12_brings_10 : decode cX12_brings 10 = .ok (.if_icmp .ge 25, 3) := by decide +kernel
theorem dX12_brings_13 : decode cX12_brings 13 = .ok (.iload_n 2, 1) := by decide +kernel
theorem dX12_brings_14 : decode cX12_brings 14 = .ok (.aload_n 0, 1) := by decide +kernel
theorem dX12_brings_15 : decode cX12_brings 15 = .ok (.iload_n 1, 1) := by decide +kernel
theorem dX12_brings_16 : decode cX12_brings 16 = .ok (.iload_n 3, 1) := by decide +kernel
theorem dX12_brings_17 : decode cX12_brings 17 = .ok (.invokevirtual 411, 3) := by decide +kernel
theorem dX12_brings_20 : decode cX12_brings 20 = .ok (.aload_n 0, 1) := by decide +kernel
theorem dX12_brings_21 : decode cX12_brings 21 = .ok (.getfield 26, 3) := by decide +kernel
theorem dX12_brings_24 : decode cX12_brings 24 = .ok (.iload_n 3, 1) := by decide +kernel
theorem dX12_brings_25 : decode cX12_brings 25 = .ok (.iaload, 1) := by decide +kernel
theorem dX12_brings_26 : decode cX12_brings 26 = .ok (.imul, 1) := by decide +kernel
theorem dX12_brings_27 : decode cX12_brings 27 = .ok (.isub, 1) := by decide +kernel
theorem dX12_brings_28 : decode cX12_brings 28 = .ok (.istore_n 2, 1) := by decide +kernel
theorem dX12_brings_29 : decode cX12_brings 29 = .ok (.iinc 3 1, 3) := by decide +kernel
theorem dX12_brings_32 : decode cX12_brings 32 = .ok (.goto (-24), 3) := by decide +kernel
theorem dX12_brings_35 : decode cX12_brings 35 = .ok (.iload_n 2, 1) := by decide +kernel
theorem dX12_brings_36 : decode cX12_brings 36 = .ok (.ireturn, 1) := by decide +kernel
theorem dX12_larger_0 : decode cX12_larger 0 = .ok (.iload_n 1, 1) := by decide +kernel
theorem dX12_larger_1 : decode cX12_larger 1 = .ok (.iconst 0, 1) := by decide +kernel
theorem dX12_larger_2 : decode cX12_larger 2 = .ok (.iconst 4, 1) := by decide +kernel
theorem dX12_larger_3 : decode cX12_larger 3 = .ok (.invokestatic 169, 3) := by decide +kernel
theorem dX12_larger_6 : decode cX12_larger 6 = .ok (.ifCond .ne 5, 3) := by decide +kernel
theorem dX12_larger_9 : decode cX12_larger 9 = .ok (.iconst (-1), 1) := by decide +kernel
theorem dX12_larger_10 : decode cX12_larger 10 = .ok (.ireturn, 1) := by decide +kernel
theorem dX12_larger_11 : decode cX12_larger 11 = .ok (.iconst 0, 1) := by decide +kernel
theorem dX12_larger_12 : decode cX12_larger 12 = .ok (.istore_n 2, 1) := by decide +kernel
